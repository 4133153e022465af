/-! M_rank, M_placeOf, M_breachWith, M_leastBreach -/
section Code
variable {p : Program} {l : Launch} {e : Env} {s : State} {m : MethodId} {args : Array Value} {below : List Frame} {meth : Method} {c : Code} {G : GG}
theorem d_M_rank_0 : decode cc_M_rank 0 = .ok (.aload_n 0, 1) := by decide +kernel
theorem d_M_rank_1 : decode cc_M_rank 1 = .ok (.aload_n 0, 1) := by decide +kernel
theorem d_M_rank_2 : decode cc_M_rank 2 = .ok (.invokevirtual 155, 3) := by decide +kernel
theorem d_M_rank_5 : decode cc_M_rank 5 = .ok (.ifCond .eq 7, 3) := by decide +kernel
theorem d_M_rank_8 : decode cc_M_rank 8 = .ok (.iconst 0, 1) := by decide +kernel
theorem d_M_rank_9 : decode cc_M_rank 9 = .ok (.goto 4, 3) := by decide +kernel
theorem d_M_rank_12 : decode cc_M_rank 12 = .ok (.iconst 2, 1) := by decide +kernel
theorem d_M_rank_13 : decode cc_M_rank 13 = .ok (.putfield 70, 3) := by decide +kernel
theorem d_M_rank_16 : decode cc_M_rank 16 = .ok (.aload_n 0, 1) := by decide +kernel
theorem d_M_rank_17 : decode cc_M_rank 17 = .ok (.getfield 70, 3) := by decide +kernel
theorem d_M_rank_20 : decode cc_M_rank 20 = .ok (.ifCond .le 5, 3) := by decide +kernel
theorem d_M_rank_23 : decode cc_M_rank 23 = .ok (.lconst 0, 1) := by decide +kernel
theorem d_M_rank_24 : decode cc_M_rank 24 = .ok (.lreturn, 1) := by decide +kernel
theorem d_M_rank_25 : decode cc_M_rank 25 = .ok (.lconst 0, 1) := by decide +kernel
theorem d_M_rank_26 : decode cc_M_rank 26 = .ok (.lstore_n 1, 1) := by decide +kernel
theorem d_M_rank_27 : decode cc_M_rank 27 = .ok (.iconst 0, 1) := by decide +kernel
theorem d_M_rank_28 : decode cc_M_rank 28 = .ok (.istore_n 3, 1) := by decide +kernel
theorem d_M_rank_29 : decode cc_M_rank 29 = .ok (.iconst 0, 1) := by decide +kernel
theorem d_M_rank_30 : decode cc_M_rank 30 = .ok (.istore 4, 2) := by decide +kernel
theorem d_M_rank_32 : decode cc_M_rank 32 = .ok (.iload 4, 2) := by decide +kernel
theorem d_M_rank_34 : decode cc_M_rank 34 = .ok (.aload_n 0, 1) := by decide +kernel
theorem d_M_rank_35 : decode cc_M_rank 35 = .ok (.getfield 76, 3) := by decide +kernel
theorem d_M_rank_38 : decode cc_M_rank 38 = .ok (.if_icmp .ge 27, 3) := by decide +kernel
theorem d_M_rank_41 : decode cc_M_rank 41 = .ok (.iload_n 3, 1) := by decide +kernel
theorem d_M_rank_42 : decode cc_M_rank 42 = .ok (.aload_n 0, 1) := by decide +kernel
theorem d_M_rank_43 : decode cc_M_rank 43 = .ok (.getfield 13, 3) := by decide +kernel
theorem d_M_rank_46 : decode cc_M_rank 46 = .ok (.iload 4, 2) := by decide +kernel
theorem d_M_rank_48 : decode cc_M_rank 48 = .ok (.baload, 1) := by decide +kernel
theorem d_M_rank_49 : decode cc_M_rank 49 = .ok (.ifCond .eq 7, 3) := by decide +kernel
theorem d_M_rank_52 : decode cc_M_rank 52 = .ok (.iconst 1, 1) := by decide +kernel
theorem d_M_rank_53 : decode cc_M_rank 53 = .ok (.goto 4, 3) := by decide +kernel
theorem d_M_rank_56 : decode cc_M_rank 56 = .ok (.iconst 0, 1) := by decide +kernel
theorem d_M_rank_57 : decode cc_M_rank 57 = .ok (.iadd, 1) := by decide +kernel
theorem d_M_rank_58 : decode cc_M_rank 58 = .ok (.istore_n 3, 1) := by decide +kernel
theorem d_M_rank_59 : decode cc_M_rank 59 = .ok (.iinc 4 1, 3) := by decide +kernel
theorem d_M_rank_62 : decode cc_M_rank 62 = .ok (.goto (-30), 3) := by decide +kernel
theorem d_M_rank_65 : decode cc_M_rank 65 = .ok (.iconst 0, 1) := by decide +kernel
theorem d_M_rank_66 : decode cc_M_rank 66 = .ok (.istore 4, 2) := by decide +kernel
theorem d_M_rank_68 : decode cc_M_rank 68 = .ok (.iload 4, 2) := by decide +kernel
theorem d_M_rank_70 : decode cc_M_rank 70 = .ok (.aload_n 0, 1) := by decide +kernel
theorem d_M_rank_71 : decode cc_M_rank 71 = .ok (.getfield 76, 3) := by decide +kernel
theorem d_M_rank_74 : decode cc_M_rank 74 = .ok (.if_icmp .ge 44, 3) := by decide +kernel
theorem d_M_rank_77 : decode cc_M_rank 77 = .ok (.iload_n 3, 1) := by decide +kernel
theorem d_M_rank_78 : decode cc_M_rank 78 = .ok (.aload_n 0, 1) := by decide +kernel
theorem d_M_rank_79 : decode cc_M_rank 79 = .ok (.getfield 26, 3) := by decide +kernel
theorem d_M_rank_82 : decode cc_M_rank 82 = .ok (.if_icmp .ne 36, 3) := by decide +kernel
theorem d_M_rank_85 : decode cc_M_rank 85 = .ok (.lload_n 1, 1) := by decide +kernel
theorem d_M_rank_86 : decode cc_M_rank 86 = .ok (.aload_n 0, 1) := by decide +kernel
theorem d_M_rank_87 : decode cc_M_rank 87 = .ok (.getfield 13, 3) := by decide +kernel
theorem d_M_rank_90 : decode cc_M_rank 90 = .ok (.iload 4, 2) := by decide +kernel
theorem d_M_rank_92 : decode cc_M_rank 92 = .ok (.baload, 1) := by decide +kernel
theorem d_M_rank_93 : decode cc_M_rank 93 = .ok (.ifCond .eq 16, 3) := by decide +kernel
theorem d_M_rank_96 : decode cc_M_rank 96 = .ok (.aload_n 0, 1) := by decide +kernel
theorem d_M_rank_97 : decode cc_M_rank 97 = .ok (.aload_n 0, 1) := by decide +kernel
theorem d_M_rank_98 : decode cc_M_rank 98 = .ok (.iload 4, 2) := by decide +kernel
theorem d_M_rank_100 : decode cc_M_rank 100 = .ok (.invokevirtual 161, 3) := by decide +kernel
theorem d_M_rank_103 : decode cc_M_rank 103 = .ok (.invokevirtual 133, 3) := by decide +kernel
theorem d_M_rank_106 : decode cc_M_rank 106 = .ok (.goto 4, 3) := by decide +kernel
theorem d_M_rank_109 : decode cc_M_rank 109 = .ok (.lconst 0, 1) := by decide +kernel
theorem d_M_rank_110 : decode cc_M_rank 110 = .ok (.ladd, 1) := by decide +kernel
theorem d_M_rank_111 : decode cc_M_rank 111 = .ok (.lstore_n 1, 1) := by decide +kernel
theorem d_M_rank_112 : decode cc_M_rank 112 = .ok (.iinc 4 1, 3) := by decide +kernel
theorem d_M_rank_115 : decode cc_M_rank 115 = .ok (.goto (-47), 3) := by decide +kernel
theorem d_M_rank_118 : decode cc_M_rank 118 = .ok (.aload_n 0, 1) := by decide +kernel
theorem d_M_rank_119 : decode cc_M_rank 119 = .ok (.iload_n 3, 1) := by decide +kernel
theorem d_M_rank_120 : decode cc_M_rank 120 = .ok (.aload_n 0, 1) := by decide +kernel
theorem d_M_rank_121 : decode cc_M_rank 121 = .ok (.getfield 26, 3) := by decide +kernel
theorem d_M_rank_124 : decode cc_M_rank 124 = .ok (.if_icmp .ne 15, 3) := by decide +kernel
theorem d_M_rank_127 : decode cc_M_rank 127 = .ok (.aload_n 0, 1) := by decide +kernel
theorem d_M_rank_128 : decode cc_M_rank 128 = .ok (.lload_n 1, 1) := by decide +kernel
theorem d_M_rank_129 : decode cc_M_rank 129 = .ok (.invokevirtual 144, 3) := by decide +kernel
theorem d_M_rank_132 : decode cc_M_rank 132 = .ok (.ifCond .eq 7, 3) := by decide +kernel
theorem d_M_rank_135 : decode cc_M_rank 135 = .ok (.iconst 0, 1) := by decide +kernel
theorem d_M_rank_136 : decode cc_M_rank 136 = .ok (.goto 4, 3) := by decide +kernel
theorem d_M_rank_139 : decode cc_M_rank 139 = .ok (.iconst 1, 1) := by decide +kernel
theorem d_M_rank_140 : decode cc_M_rank 140 = .ok (.putfield 70, 3) := by decide +kernel
theorem d_M_rank_143 : decode cc_M_rank 143 = .ok (.aload_n 0, 1) := by decide +kernel
theorem d_M_rank_144 : decode cc_M_rank 144 = .ok (.getfield 70, 3) := by decide +kernel
theorem d_M_rank_147 : decode cc_M_rank 147 = .ok (.ifCond .le 5, 3) := by decide +kernel
theorem d_M_rank_150 : decode cc_M_rank 150 = .ok (.lconst 0, 1) := by decide +kernel
theorem d_M_rank_151 : decode cc_M_rank 151 = .ok (.lreturn, 1) := by decide +kernel
theorem d_M_rank_152 : decode cc_M_rank 152 = .ok (.lconst 0, 1) := by decide +kernel
theorem d_M_rank_153 : decode cc_M_rank 153 = .ok (.lstore 4, 2) := by decide +kernel
theorem d_M_rank_155 : decode cc_M_rank 155 = .ok (.iconst 0, 1) := by decide +kernel
theorem d_M_rank_156 : decode cc_M_rank 156 = .ok (.istore 6, 2) := by decide +kernel
theorem d_M_rank_158 : decode cc_M_rank 158 = .ok (.iconst 0, 1) := by decide +kernel
theorem d_M_rank_159 : decode cc_M_rank 159 = .ok (.istore 7, 2) := by decide +kernel
theorem d_M_rank_161 : decode cc_M_rank 161 = .ok (.iload 7, 2) := by decide +kernel
theorem d_M_rank_163 : decode cc_M_rank 163 = .ok (.aload_n 0, 1) := by decide +kernel
theorem d_M_rank_164 : decode cc_M_rank 164 = .ok (.getfield 73, 3) := by decide +kernel
theorem d_M_rank_167 : decode cc_M_rank 167 = .ok (.if_icmp .ge 180, 3) := by decide +kernel
theorem d_M_rank_170 : decode cc_M_rank 170 = .ok (.iconst 0, 1) := by decide +kernel
theorem d_M_rank_171 : decode cc_M_rank 171 = .ok (.istore 8, 2) := by decide +kernel
theorem d_M_rank_173 : decode cc_M_rank 173 = .ok (.iconst 0, 1) := by decide +kernel
theorem d_M_rank_174 : decode cc_M_rank 174 = .ok (.istore 9, 2) := by decide +kernel
theorem d_M_rank_176 : decode cc_M_rank 176 = .ok (.iload 9, 2) := by decide +kernel
theorem d_M_rank_178 : decode cc_M_rank 178 = .ok (.aload_n 0, 1) := by decide +kernel
theorem d_M_rank_179 : decode cc_M_rank 179 = .ok (.getfield 76, 3) := by decide +kernel
theorem d_M_rank_182 : decode cc_M_rank 182 = .ok (.if_icmp .ge 45, 3) := by decide +kernel
theorem d_M_rank_185 : decode cc_M_rank 185 = .ok (.iload 8, 2) := by decide +kernel
theorem d_M_rank_187 : decode cc_M_rank 187 = .ok (.aload_n 0, 1) := by decide +kernel
theorem d_M_rank_188 : decode cc_M_rank 188 = .ok (.getfield 13, 3) := by decide +kernel
theorem d_M_rank_191 : decode cc_M_rank 191 = .ok (.iload 9, 2) := by decide +kernel
theorem d_M_rank_193 : decode cc_M_rank 193 = .ok (.baload, 1) := by decide +kernel
theorem d_M_rank_194 : decode cc_M_rank 194 = .ok (.ifCond .eq 23, 3) := by decide +kernel
theorem d_M_rank_197 : decode cc_M_rank 197 = .ok (.aload_n 0, 1) := by decide +kernel
theorem d_M_rank_198 : decode cc_M_rank 198 = .ok (.iload 9, 2) := by decide +kernel
theorem d_M_rank_200 : decode cc_M_rank 200 = .ok (.invokevirtual 79, 3) := by decide +kernel
theorem d_M_rank_203 : decode cc_M_rank 203 = .ok (.aload_n 0, 1) := by decide +kernel
theorem d_M_rank_204 : decode cc_M_rank 204 = .ok (.getfield 30, 3) := by decide +kernel
theorem d_M_rank_207 : decode cc_M_rank 207 = .ok (.iload 7, 2) := by decide +kernel
theorem d_M_rank_209 : decode cc_M_rank 209 = .ok (.iaload, 1) := by decide +kernel
theorem d_M_rank_210 : decode cc_M_rank 210 = .ok (.if_icmp .ne 7, 3) := by decide +kernel
theorem d_M_rank_213 : decode cc_M_rank 213 = .ok (.iconst 1, 1) := by decide +kernel
theorem d_M_rank_214 : decode cc_M_rank 214 = .ok (.goto 4, 3) := by decide +kernel
theorem d_M_rank_217 : decode cc_M_rank 217 = .ok (.iconst 0, 1) := by decide +kernel
theorem d_M_rank_218 : decode cc_M_rank 218 = .ok (.iadd, 1) := by decide +kernel
theorem d_M_rank_219 : decode cc_M_rank 219 = .ok (.istore 8, 2) := by decide +kernel
theorem d_M_rank_221 : decode cc_M_rank 221 = .ok (.iinc 9 1, 3) := by decide +kernel
theorem d_M_rank_224 : decode cc_M_rank 224 = .ok (.goto (-48), 3) := by decide +kernel
theorem d_M_rank_227 : decode cc_M_rank 227 = .ok (.iconst 0, 1) := by decide +kernel
theorem d_M_rank_228 : decode cc_M_rank 228 = .ok (.istore 9, 2) := by decide +kernel
theorem d_M_rank_230 : decode cc_M_rank 230 = .ok (.iload 9, 2) := by decide +kernel
theorem d_M_rank_232 : decode cc_M_rank 232 = .ok (.iload 8, 2) := by decide +kernel
theorem d_M_rank_234 : decode cc_M_rank 234 = .ok (.if_icmp .ge 58, 3) := by decide +kernel
theorem d_M_rank_237 : decode cc_M_rank 237 = .ok (.lload 4, 2) := by decide +kernel
theorem d_M_rank_239 : decode cc_M_rank 239 = .ok (.aload_n 0, 1) := by decide +kernel
theorem d_M_rank_240 : decode cc_M_rank 240 = .ok (.getfield 43, 3) := by decide +kernel
theorem d_M_rank_243 : decode cc_M_rank 243 = .ok (.aload_n 0, 1) := by decide +kernel
theorem d_M_rank_244 : decode cc_M_rank 244 = .ok (.iload 7, 2) := by decide +kernel
theorem d_M_rank_246 : decode cc_M_rank 246 = .ok (.iconst 1, 1) := by decide +kernel
theorem d_M_rank_247 : decode cc_M_rank 247 = .ok (.iadd, 1) := by decide +kernel
theorem d_M_rank_248 : decode cc_M_rank 248 = .ok (.aload_n 0, 1) := by decide +kernel
theorem d_M_rank_249 : decode cc_M_rank 249 = .ok (.getfield 39, 3) := by decide +kernel
theorem d_M_rank_252 : decode cc_M_rank 252 = .ok (.iload 6, 2) := by decide +kernel
theorem d_M_rank_254 : decode cc_M_rank 254 = .ok (.laload, 1) := by decide +kernel
theorem d_M_rank_255 : decode cc_M_rank 255 = .ok (.iload 9, 2) := by decide +kernel
theorem d_M_rank_257 : decode cc_M_rank 257 = .ok (.i2l, 1) := by decide +kernel
theorem d_M_rank_258 : decode cc_M_rank 258 = .ok (.aload_n 0, 1) := by decide +kernel
theorem d_M_rank_259 : decode cc_M_rank 259 = .ok (.iload 7, 2) := by decide +kernel
theorem d_M_rank_261 : decode cc_M_rank 261 = .ok (.invokevirtual 133, 3) := by decide +kernel
theorem d_M_rank_264 : decode cc_M_rank 264 = .ok (.lmul, 1) := by decide +kernel
theorem d_M_rank_265 : decode cc_M_rank 265 = .ok (.ladd, 1) := by decide +kernel
theorem d_M_rank_266 : decode cc_M_rank 266 = .ok (.invokevirtual 137, 3) := by decide +kernel
theorem d_M_rank_269 : decode cc_M_rank 269 = .ok (.laload, 1) := by decide +kernel
theorem d_M_rank_270 : decode cc_M_rank 270 = .ok (.aload_n 0, 1) := by decide +kernel
theorem d_M_rank_271 : decode cc_M_rank 271 = .ok (.getfield 33, 3) := by decide +kernel
theorem d_M_rank_274 : decode cc_M_rank 274 = .ok (.iload 7, 2) := by decide +kernel
theorem d_M_rank_276 : decode cc_M_rank 276 = .ok (.iaload, 1) := by decide +kernel
theorem d_M_rank_277 : decode cc_M_rank 277 = .ok (.iload 9, 2) := by decide +kernel
theorem d_M_rank_279 : decode cc_M_rank 279 = .ok (.invokestatic 147, 3) := by decide +kernel
theorem d_M_rank_282 : decode cc_M_rank 282 = .ok (.lmul, 1) := by decide +kernel
theorem d_M_rank_283 : decode cc_M_rank 283 = .ok (.ladd, 1) := by decide +kernel
theorem d_M_rank_284 : decode cc_M_rank 284 = .ok (.lstore 4, 2) := by decide +kernel
theorem d_M_rank_286 : decode cc_M_rank 286 = .ok (.iinc 9 1, 3) := by decide +kernel
theorem d_M_rank_289 : decode cc_M_rank 289 = .ok (.goto (-59), 3) := by decide +kernel
theorem d_M_rank_292 : decode cc_M_rank 292 = .ok (.aload_n 0, 1) := by decide +kernel
theorem d_M_rank_293 : decode cc_M_rank 293 = .ok (.iload 7, 2) := by decide +kernel
theorem d_M_rank_295 : decode cc_M_rank 295 = .ok (.iconst 1, 1) := by decide +kernel
theorem d_M_rank_296 : decode cc_M_rank 296 = .ok (.iadd, 1) := by decide +kernel
theorem d_M_rank_297 : decode cc_M_rank 297 = .ok (.aload_n 0, 1) := by decide +kernel
theorem d_M_rank_298 : decode cc_M_rank 298 = .ok (.getfield 39, 3) := by decide +kernel
theorem d_M_rank_301 : decode cc_M_rank 301 = .ok (.iload 6, 2) := by decide +kernel
theorem d_M_rank_303 : decode cc_M_rank 303 = .ok (.laload, 1) := by decide +kernel
theorem d_M_rank_304 : decode cc_M_rank 304 = .ok (.iload 8, 2) := by decide +kernel
theorem d_M_rank_306 : decode cc_M_rank 306 = .ok (.i2l, 1) := by decide +kernel
theorem d_M_rank_307 : decode cc_M_rank 307 = .ok (.aload_n 0, 1) := by decide +kernel
theorem d_M_rank_308 : decode cc_M_rank 308 = .ok (.iload 7, 2) := by decide +kernel
theorem d_M_rank_310 : decode cc_M_rank 310 = .ok (.invokevirtual 133, 3) := by decide +kernel
theorem d_M_rank_313 : decode cc_M_rank 313 = .ok (.lmul, 1) := by decide +kernel
theorem d_M_rank_314 : decode cc_M_rank 314 = .ok (.ladd, 1) := by decide +kernel
theorem d_M_rank_315 : decode cc_M_rank 315 = .ok (.invokevirtual 137, 3) := by decide +kernel
theorem d_M_rank_318 : decode cc_M_rank 318 = .ok (.istore 6, 2) := by decide +kernel
theorem d_M_rank_320 : decode cc_M_rank 320 = .ok (.lload 4, 2) := by decide +kernel
theorem d_M_rank_322 : decode cc_M_rank 322 = .ok (.aload_n 0, 1) := by decide +kernel
theorem d_M_rank_323 : decode cc_M_rank 323 = .ok (.getfield 43, 3) := by decide +kernel
theorem d_M_rank_326 : decode cc_M_rank 326 = .ok (.iload 6, 2) := by decide +kernel
theorem d_M_rank_328 : decode cc_M_rank 328 = .ok (.laload, 1) := by decide +kernel
theorem d_M_rank_329 : decode cc_M_rank 329 = .ok (.aload_n 0, 1) := by decide +kernel
theorem d_M_rank_330 : decode cc_M_rank 330 = .ok (.iload 7, 2) := by decide +kernel
theorem d_M_rank_332 : decode cc_M_rank 332 = .ok (.iload 8, 2) := by decide +kernel
theorem d_M_rank_334 : decode cc_M_rank 334 = .ok (.invokevirtual 182, 3) := by decide +kernel
theorem d_M_rank_337 : decode cc_M_rank 337 = .ok (.lmul, 1) := by decide +kernel
theorem d_M_rank_338 : decode cc_M_rank 338 = .ok (.ladd, 1) := by decide +kernel
theorem d_M_rank_339 : decode cc_M_rank 339 = .ok (.lstore 4, 2) := by decide +kernel
theorem d_M_rank_341 : decode cc_M_rank 341 = .ok (.iinc 7 1, 3) := by decide +kernel
theorem d_M_rank_344 : decode cc_M_rank 344 = .ok (.goto (-183), 3) := by decide +kernel
theorem d_M_rank_347 : decode cc_M_rank 347 = .ok (.lload 4, 2) := by decide +kernel
theorem d_M_rank_349 : decode cc_M_rank 349 = .ok (.lreturn, 1) := by decide +kernel
def L_M_rank_32 (K65 : Int64 → Int32 → St → Prop) (Q : Int64 → St → Prop) : Nat → Int64 → Int32 → Int32 → St → Prop
  | 0, _, _, _, _ => False
  | n + 1, v1, v3, v4, z0 => (((z0.1 31 1) ≤ v4) → K65 v1 v3 z0) ∧ ((¬ (z0.1 31 1) ≤ v4) → vp_in v4 40 ∧ (((z0.1 33 v4.toNatClampNeg) = 0) → ∀ x4 : Int32, x4 = v3 + (0 : Int32) → ∀ x5 : Int32, x5 = v4 + 1 → L_M_rank_32 K65 Q n v1 x4 x5 z0) ∧ ((¬ (z0.1 33 v4.toNatClampNeg) = 0) → ∀ x6 : Int32, x6 = v3 + (1 : Int32) → ∀ x7 : Int32, x7 = v4 + 1 → L_M_rank_32 K65 Q n v1 x6 x7 z0))
def L_M_rank_68 (K118 : Int64 → Int32 → St → Prop) (Q : Int64 → St → Prop) : Nat → Int64 → Int32 → Int32 → St → Prop
  | 0, _, _, _, _ => False
  | n + 1, v1, v3, v4, z0 => (((z0.1 31 1) ≤ v4) → K118 v1 v3 z0) ∧ ((¬ (z0.1 31 1) ≤ v4) → ((¬ v3 = (z0.1 31 7)) → K118 v1 v3 z0) ∧ ((v3 = (z0.1 31 7)) → vp_in v4 40 ∧ (((z0.1 33 v4.toNatClampNeg) = 0) → ∀ x11 : Int64, x11 = v1 + (0 : Int64) → ∀ x12 : Int32, x12 = v4 + 1 → L_M_rank_68 K118 Q n x11 v3 x12 z0) ∧ ((¬ (z0.1 33 v4.toNatClampNeg) = 0) → P_M_kindOf v4 z0 (fun (x14 : Int32) (z13 : St) => P_M_adds x14 z13 (fun (x16 : Int64) (z15 : St) => ∀ x17 : Int64, x17 = v1 + x16 → ∀ x18 : Int32, x18 = v4 + 1 → L_M_rank_68 K118 Q n x17 v3 x18 z15)))))
def J_M_rank_217 (K176 : Int64 → Int32 → Int32 → Int32 → Int32 → St → Prop) (K227 : Int64 → Int32 → Int32 → Int32 → St → Prop) (Q : Int64 → St → Prop) (v4 : Int64) (v6 : Int32) (v7 : Int32) (v9 : Int32) (t0 : Int32) (z0 : St) : Prop := ∀ x23 : Int32, x23 = t0 + (0 : Int32) → ∀ x24 : Int32, x24 = v9 + 1 → K176 v4 v6 v7 x23 x24 z0
def L_M_rank_176 (K227 : Int64 → Int32 → Int32 → Int32 → St → Prop) (Q : Int64 → St → Prop) : Nat → Int64 → Int32 → Int32 → Int32 → Int32 → St → Prop
  | 0, _, _, _, _, _, _ => False
  | n + 1, v4, v6, v7, v8, v9, z0 => (((z0.1 31 1) ≤ v9) → K227 v4 v6 v7 v8 z0) ∧ ((¬ (z0.1 31 1) ≤ v9) → vp_in v9 40 ∧ (((z0.1 33 v9.toNatClampNeg) = 0) → J_M_rank_217 (L_M_rank_176 K227 Q n) K227 Q v4 v6 v7 v9 v8 z0) ∧ ((¬ (z0.1 33 v9.toNatClampNeg) = 0) → P_M_is v9 z0 (fun (x26 : Int32) (z25 : St) => vp_in v7 17 ∧ ((¬ x26 = (z25.1 37 v7.toNatClampNeg)) → J_M_rank_217 (L_M_rank_176 K227 Q n) K227 Q v4 v6 v7 v9 v8 z25) ∧ ((x26 = (z25.1 37 v7.toNatClampNeg)) → ∀ x27 : Int32, x27 = v8 + (1 : Int32) → ∀ x28 : Int32, x28 = v9 + 1 → L_M_rank_176 K227 Q n v4 v6 v7 x27 x28 z25))))
def L_M_rank_230 (K292 : Int64 → Int32 → Int32 → Int32 → St → Prop) (Q : Int64 → St → Prop) : Nat → Int64 → Int32 → Int32 → Int32 → Int32 → St → Prop
  | 0, _, _, _, _, _, _ => False
  | n + 1, v4, v6, v7, v8, v9, z0 => ((v8 ≤ v9) → K292 v4 v6 v7 v8 z0) ∧ ((¬ v8 ≤ v9) → vp_in v6 1010 ∧ P_M_adds v7 z0 (fun (x35 : Int64) (z34 : St) => P_M_find (v7 + (1 : Int32)) ((z0.2 40 v6.toNatClampNeg) + (v9.toInt64 * x35)) z34 (fun (x37 : Int32) (z36 : St) => vp_in x37 1010 ∧ vp_in v7 17 ∧ P_M_choose (z36.1 38 v7.toNatClampNeg) v9 z36 (fun (x39 : Int64) (z38 : St) => ∀ x40 : Int64, x40 = v4 + ((z36.2 41 x37.toNatClampNeg) * x39) → ∀ x41 : Int32, x41 = v9 + 1 → L_M_rank_230 K292 Q n x40 v6 v7 v8 x41 z38))))
def L_M_rank_161 (Q : Int64 → St → Prop) : Nat → Int64 → Int32 → Int32 → St → Prop
  | 0, _, _, _, _ => False
  | n + 1, v4, v6, v7, z0 => (((z0.1 31 8) ≤ v7) → Q v4 z0) ∧ ((¬ (z0.1 31 8) ≤ v7) → ∃ k176 : Nat, L_M_rank_176 (fun (x29 : Int64) (x30 : Int32) (x31 : Int32) (x32 : Int32) (z33 : St) => ∃ k230 : Nat, L_M_rank_230 (fun (x42 : Int64) (x43 : Int32) (x44 : Int32) (x45 : Int32) (z46 : St) => vp_in x43 1010 ∧ P_M_adds x44 z46 (fun (x48 : Int64) (z47 : St) => P_M_find (x44 + (1 : Int32)) ((z46.2 40 x43.toNatClampNeg) + (x45.toInt64 * x48)) z47 (fun (x50 : Int32) (z49 : St) => vp_in x50 1010 ∧ P_M_index x44 x45 z49 (fun (x52 : Int64) (z51 : St) => ∀ x53 : Int64, x53 = x42 + ((z49.2 41 x50.toNatClampNeg) * x52) → ∀ x54 : Int32, x54 = x44 + 1 → L_M_rank_161 Q n x53 x50 x54 z51)))) Q k230 x29 x30 x31 x32 (0 : Int32) z33) Q k176 v4 v6 v7 (0 : Int32) (0 : Int32) z0)
def J_M_rank_140 (Q : Int64 → St → Prop) (t0 : Int32) (z0 : St) : Prop := ∀ z22 : St, z22 = wI z0 31 0 t0 → (((z22.1 31 0) ≤ 0) → ∃ k161 : Nat, L_M_rank_161 Q k161 (0 : Int64) (0 : Int32) (0 : Int32) z22) ∧ ((¬ (z22.1 31 0) ≤ 0) → Q (0 : Int64) z22)
def J_M_rank_118 (Q : Int64 → St → Prop) (v1 : Int64) (v3 : Int32) (z0 : St) : Prop := ((¬ v3 = (z0.1 31 7)) → J_M_rank_140 Q (1 : Int32) z0) ∧ ((v3 = (z0.1 31 7)) → P_M_isPanel v1 z0 (fun (x56 : Int32) (z55 : St) => ((x56 = 0) → J_M_rank_140 Q (1 : Int32) z55) ∧ ((¬ x56 = 0) → J_M_rank_140 Q (0 : Int32) z55)))
def J_M_rank_13 (Q : Int64 → St → Prop) (t0 : Int32) (z0 : St) : Prop := ∀ z3 : St, z3 = wI z0 31 0 t0 → (((z3.1 31 0) ≤ 0) → ∃ k32 : Nat, L_M_rank_32 (fun (x8 : Int64) (x9 : Int32) (z10 : St) => ∃ k68 : Nat, L_M_rank_68 (fun (x19 : Int64) (x20 : Int32) (z21 : St) => J_M_rank_118 Q x19 x20 z21) Q k68 x8 x9 (0 : Int32) z10) Q k32 (0 : Int64) (0 : Int32) (0 : Int32) z3) ∧ ((¬ (z3.1 31 0) ≤ 0) → Q (0 : Int64) z3)
def P_M_rank (z0 : St) (Q : Int64 → St → Prop) : Prop := P_M_counts z0 (fun (x2 : Int32) (z1 : St) => ((x2 = 0) → J_M_rank_13 Q (2 : Int32) z1) ∧ ((¬ x2 = 0) → J_M_rank_13 Q (0 : Int32) z1))
set_option maxHeartbeats 4000000 in
set_option maxRecDepth 100000 in
theorem wL_M_rank_32 {K65 : Int64 → Int32 → St → Prop} {Q : Int64 → St → Prop} (E : En p l s m meth c args cc_M_rank 10 R_M (some .long) G)
    (hK65 : ∀ (v1 : Int64) (v3 : Int32) (z0 : St) (ls : Array Slot) (H : Heap) (locs : List Loc), K65 v1 v3 z0 → lv_has ls 10 [(0, .ref (ha G 31)), (1, .long v1), (3, .int v3)] → Wd G z0 s.heap H locs → W p l e rm_M_rank s m args below meth c H locs 0 0 (MQ below (QlR Q G) args s 0 0 (fr G)) (F0 m 65 ls [])) :
    ∀ (n : Nat) (v1 : Int64) (v3 : Int32) (v4 : Int32) (z0 : St) (ls : Array Slot) (H : Heap) (locs : List Loc), L_M_rank_32 K65 Q n v1 v3 v4 z0 → lv_has ls 10 [(0, .ref (ha G 31)), (1, .long v1), (3, .int v3), (4, .int v4)] → Wd G z0 s.heap H locs → W p l e rm_M_rank s m args below meth c H locs 0 0 (MQ below (QlR Q G) args s 0 0 (fr G)) (F0 m 32 ls []) := by
  obtain ⟨hx, hb, hml, hown, hr, hlk, hex, hE⟩ := id E
  intro n
  induction n with
  | zero => exact fun _ _ _ _ _ _ _ hP _ _ => hP.elim
  | succ n ih =>
    intro v1 v3 v4 z0 ls H locs hP hl hW
    refine lv_iload hx hb d_M_rank_32 (lv_at hl 3 rfl) ?_
    refine lv_aload_n hx hb d_M_rank_34 rfl (lv_at hl 0 rfl) ?_
    refine ygf_31_1 hx hb hown hE hW (lk_M_76 hE) d_M_rank_35 ?_
    refine lv_icmp_ge (tgt := 65) hx hb d_M_rank_38 rfl (fun hc => ?_) (fun hc => ?_)
    · have hP := hP.1 hc
      exact hK65 _ _ _ _ _ _ hP (lv_sub hl [0, 1, 2] rfl) hW
    · have hP := hP.2 hc
      refine lv_iload_n hx hb d_M_rank_41 rfl (lv_at hl 2 rfl) ?_
      refine lv_aload_n hx hb d_M_rank_42 rfl (lv_at hl 0 rfl) ?_
      refine ygf_31_3 hx hb hown hE hW (lk_M_13 hE) d_M_rank_43 ?_
      refine lv_iload hx hb d_M_rank_46 (lv_at hl 3 rfl) ?_
      refine ya_33 hx hb hE hW hP.1 d_M_rank_48 ?_
      have hP := hP.2
      refine lv_if_eq (tgt := 56) hx hb d_M_rank_49 rfl (fun hc => ?_) (fun hc => ?_)
      · have hP := hP.1 hc
        refine lv_iconst (v := 0) hx hb d_M_rank_56 (by decide) ?_
        refine lv_iadd hx hb d_M_rank_57 ?_
        refine lv_topi (fun x4 e_x4 => ?_)
        have hP := hP x4 e_x4
        refine lv_istore_n (lv' := [(3, .int x4), (0, .ref (ha G 31)), (1, .long v1), (4, .int v4)]) hx hb d_M_rank_58 rfl hl (by decide) rfl (fun ls hl => ?_)
        obtain ⟨x5, e_x5⟩ : ∃ z : Int32, z = v4 + 1 := ⟨_, rfl⟩
        have hP := hP x5 e_x5
        refine lv_iinc (k := 3) (lv' := [(4, .int x5), (3, .int x4), (0, .ref (ha G 31)), (1, .long v1)]) hx hb d_M_rank_59 hl rfl (ii_p1 e_x5) (by decide) rfl (fun ls hl => ?_)
        refine lv_goto (tgt := 32) hx hb d_M_rank_62 rfl ?_
        exact ih _ _ _ _ _ _ _ hP (lv_sub hl [2, 3, 1, 0] rfl) hW
      · have hP := hP.2 hc
        refine lv_iconst (v := 1) hx hb d_M_rank_52 (by decide) ?_
        refine lv_goto (tgt := 57) hx hb d_M_rank_53 rfl ?_
        refine lv_iadd hx hb d_M_rank_57 ?_
        refine lv_topi (fun x6 e_x6 => ?_)
        have hP := hP x6 e_x6
        refine lv_istore_n (lv' := [(3, .int x6), (0, .ref (ha G 31)), (1, .long v1), (4, .int v4)]) hx hb d_M_rank_58 rfl hl (by decide) rfl (fun ls hl => ?_)
        obtain ⟨x7, e_x7⟩ : ∃ z : Int32, z = v4 + 1 := ⟨_, rfl⟩
        have hP := hP x7 e_x7
        refine lv_iinc (k := 3) (lv' := [(4, .int x7), (3, .int x6), (0, .ref (ha G 31)), (1, .long v1)]) hx hb d_M_rank_59 hl rfl (ii_p1 e_x7) (by decide) rfl (fun ls hl => ?_)
        refine lv_goto (tgt := 32) hx hb d_M_rank_62 rfl ?_
        exact ih _ _ _ _ _ _ _ hP (lv_sub hl [2, 3, 1, 0] rfl) hW
set_option maxHeartbeats 4000000 in
set_option maxRecDepth 100000 in
theorem wL_M_rank_68 {K118 : Int64 → Int32 → St → Prop} {Q : Int64 → St → Prop} (E : En p l s m meth c args cc_M_rank 10 R_M (some .long) G)
    (hK118 : ∀ (v1 : Int64) (v3 : Int32) (z0 : St) (ls : Array Slot) (H : Heap) (locs : List Loc), K118 v1 v3 z0 → lv_has ls 10 [(0, .ref (ha G 31)), (1, .long v1), (3, .int v3)] → Wd G z0 s.heap H locs → W p l e rm_M_rank s m args below meth c H locs 0 0 (MQ below (QlR Q G) args s 0 0 (fr G)) (F0 m 118 ls [])) :
    ∀ (n : Nat) (v1 : Int64) (v3 : Int32) (v4 : Int32) (z0 : St) (ls : Array Slot) (H : Heap) (locs : List Loc), L_M_rank_68 K118 Q n v1 v3 v4 z0 → lv_has ls 10 [(0, .ref (ha G 31)), (1, .long v1), (3, .int v3), (4, .int v4)] → Wd G z0 s.heap H locs → W p l e rm_M_rank s m args below meth c H locs 0 0 (MQ below (QlR Q G) args s 0 0 (fr G)) (F0 m 68 ls []) := by
  obtain ⟨hx, hb, hml, hown, hr, hlk, hex, hE⟩ := id E
  intro n
  induction n with
  | zero => exact fun _ _ _ _ _ _ _ hP _ _ => hP.elim
  | succ n ih =>
    intro v1 v3 v4 z0 ls H locs hP hl hW
    refine lv_iload hx hb d_M_rank_68 (lv_at hl 3 rfl) ?_
    refine lv_aload_n hx hb d_M_rank_70 rfl (lv_at hl 0 rfl) ?_
    refine ygf_31_1 hx hb hown hE hW (lk_M_76 hE) d_M_rank_71 ?_
    refine lv_icmp_ge (tgt := 118) hx hb d_M_rank_74 rfl (fun hc => ?_) (fun hc => ?_)
    · have hP := hP.1 hc
      exact hK118 _ _ _ _ _ _ hP (lv_sub hl [0, 1, 2] rfl) hW
    · have hP := hP.2 hc
      refine lv_iload_n hx hb d_M_rank_77 rfl (lv_at hl 2 rfl) ?_
      refine lv_aload_n hx hb d_M_rank_78 rfl (lv_at hl 0 rfl) ?_
      refine ygf_31_7 hx hb hown hE hW (lk_M_26 hE) d_M_rank_79 ?_
      refine lv_icmp_ne (tgt := 118) hx hb d_M_rank_82 rfl (fun hc => ?_) (fun hc => ?_)
      · have hP := hP.1 hc
        exact hK118 _ _ _ _ _ _ hP (lv_sub hl [0, 1, 2] rfl) hW
      · have hP := hP.2 hc
        refine lv_lload_n hx hb d_M_rank_85 rfl (lv_at hl 1 rfl) ?_
        refine lv_aload_n hx hb d_M_rank_86 rfl (lv_at hl 0 rfl) ?_
        refine ygf_31_3 hx hb hown hE hW (lk_M_13 hE) d_M_rank_87 ?_
        refine lv_iload hx hb d_M_rank_90 (lv_at hl 3 rfl) ?_
        refine ya_33 hx hb hE hW hP.1 d_M_rank_92 ?_
        have hP := hP.2
        refine lv_if_eq (tgt := 109) hx hb d_M_rank_93 rfl (fun hc => ?_) (fun hc => ?_)
        · have hP := hP.1 hc
          refine lv_lconst (v := 0) hx hb d_M_rank_109 (by decide) ?_
          refine lv_ladd hx hb d_M_rank_110 ?_
          refine lv_topl (fun x11 e_x11 => ?_)
          have hP := hP x11 e_x11
          refine lv_lstore_n (lv' := [(1, .long x11), (0, .ref (ha G 31)), (3, .int v3), (4, .int v4)]) hx hb d_M_rank_111 rfl hl (by decide) rfl (fun ls hl => ?_)
          obtain ⟨x12, e_x12⟩ : ∃ z : Int32, z = v4 + 1 := ⟨_, rfl⟩
          have hP := hP x12 e_x12
          refine lv_iinc (k := 3) (lv' := [(4, .int x12), (1, .long x11), (0, .ref (ha G 31)), (3, .int v3)]) hx hb d_M_rank_112 hl rfl (ii_p1 e_x12) (by decide) rfl (fun ls hl => ?_)
          refine lv_goto (tgt := 68) hx hb d_M_rank_115 rfl ?_
          exact ih _ _ _ _ _ _ _ hP (lv_sub hl [2, 1, 3, 0] rfl) hW
        · have hP := hP.2 hc
          refine lv_aload_n hx hb d_M_rank_96 rfl (lv_at hl 0 rfl) ?_
          refine lv_aload_n hx hb d_M_rank_97 rfl (lv_at hl 0 rfl) ?_
          refine lv_iload hx hb d_M_rank_98 (lv_at hl 3 rfl) ?_
          refine yc_i (yV (As := [.int v4]) (rest := [.ref (ha G 31), .long v1]) E (c_M_kindOf _ _ _ hP) (cw_M_161 hE) (yrv_31 hE hW) (by decide) hW hl.1 rfl rfl rfl d_M_rank_100) hW (fun x14 z13 H locs hP hW => ?_)
          refine yc_l (yV (As := [.int x14]) (rest := [.long v1]) E (c_M_adds _ _ _ hP) (cw_M_133 hE) (yrv_31 hE hW) (by decide) hW hl.1 rfl rfl rfl d_M_rank_103) hW (fun x16 z15 H locs hP hW => ?_)
          refine lv_goto (tgt := 110) hx hb d_M_rank_106 rfl ?_
          refine lv_ladd hx hb d_M_rank_110 ?_
          refine lv_topl (fun x17 e_x17 => ?_)
          have hP := hP x17 e_x17
          refine lv_lstore_n (lv' := [(1, .long x17), (0, .ref (ha G 31)), (3, .int v3), (4, .int v4)]) hx hb d_M_rank_111 rfl hl (by decide) rfl (fun ls hl => ?_)
          obtain ⟨x18, e_x18⟩ : ∃ z : Int32, z = v4 + 1 := ⟨_, rfl⟩
          have hP := hP x18 e_x18
          refine lv_iinc (k := 3) (lv' := [(4, .int x18), (1, .long x17), (0, .ref (ha G 31)), (3, .int v3)]) hx hb d_M_rank_112 hl rfl (ii_p1 e_x18) (by decide) rfl (fun ls hl => ?_)
          refine lv_goto (tgt := 68) hx hb d_M_rank_115 rfl ?_
          exact ih _ _ _ _ _ _ _ hP (lv_sub hl [2, 1, 3, 0] rfl) hW
set_option maxHeartbeats 4000000 in
set_option maxRecDepth 100000 in
theorem wJ_M_rank_217 {K176 : Int64 → Int32 → Int32 → Int32 → Int32 → St → Prop} {K227 : Int64 → Int32 → Int32 → Int32 → St → Prop} {Q : Int64 → St → Prop} (E : En p l s m meth c args cc_M_rank 10 R_M (some .long) G)
    (hK176 : ∀ (v4 : Int64) (v6 : Int32) (v7 : Int32) (v8 : Int32) (v9 : Int32) (z0 : St) (ls : Array Slot) (H : Heap) (locs : List Loc), K176 v4 v6 v7 v8 v9 z0 → lv_has ls 10 [(0, .ref (ha G 31)), (4, .long v4), (6, .int v6), (7, .int v7), (8, .int v8), (9, .int v9)] → Wd G z0 s.heap H locs → W p l e rm_M_rank s m args below meth c H locs 0 0 (MQ below (QlR Q G) args s 0 0 (fr G)) (F0 m 176 ls []))
    (hK227 : ∀ (v4 : Int64) (v6 : Int32) (v7 : Int32) (v8 : Int32) (z0 : St) (ls : Array Slot) (H : Heap) (locs : List Loc), K227 v4 v6 v7 v8 z0 → lv_has ls 10 [(0, .ref (ha G 31)), (4, .long v4), (6, .int v6), (7, .int v7), (8, .int v8)] → Wd G z0 s.heap H locs → W p l e rm_M_rank s m args below meth c H locs 0 0 (MQ below (QlR Q G) args s 0 0 (fr G)) (F0 m 227 ls []))
    (v4 : Int64) (v6 : Int32) (v7 : Int32) (v9 : Int32) (t0 : Int32) (z0 : St) (ls : Array Slot) (H : Heap) (locs : List Loc) (hP : J_M_rank_217 K176 K227 Q v4 v6 v7 v9 t0 z0) (hl : lv_has ls 10 [(0, .ref (ha G 31)), (4, .long v4), (6, .int v6), (7, .int v7), (9, .int v9)]) (hW : Wd G z0 s.heap H locs) : W p l e rm_M_rank s m args below meth c H locs 0 0 (MQ below (QlR Q G) args s 0 0 (fr G)) (F0 m 217 ls [.int t0]) := by
  obtain ⟨hx, hb, hml, hown, hr, hlk, hex, hE⟩ := id E
  refine lv_iconst (v := 0) hx hb d_M_rank_217 (by decide) ?_
  refine lv_iadd hx hb d_M_rank_218 ?_
  refine lv_topi (fun x23 e_x23 => ?_)
  have hP := hP x23 e_x23
  refine lv_istore (lv' := [(8, .int x23), (0, .ref (ha G 31)), (4, .long v4), (6, .int v6), (7, .int v7), (9, .int v9)]) hx hb d_M_rank_219 hl (by decide) rfl (fun ls hl => ?_)
  obtain ⟨x24, e_x24⟩ : ∃ z : Int32, z = v9 + 1 := ⟨_, rfl⟩
  have hP := hP x24 e_x24
  refine lv_iinc (k := 5) (lv' := [(9, .int x24), (8, .int x23), (0, .ref (ha G 31)), (4, .long v4), (6, .int v6), (7, .int v7)]) hx hb d_M_rank_221 hl rfl (ii_p1 e_x24) (by decide) rfl (fun ls hl => ?_)
  refine lv_goto (tgt := 176) hx hb d_M_rank_224 rfl ?_
  exact hK176 _ _ _ _ _ _ _ _ _ hP (lv_sub hl [2, 3, 4, 5, 1, 0] rfl) hW
set_option maxHeartbeats 4000000 in
set_option maxRecDepth 100000 in
theorem wL_M_rank_176 {K227 : Int64 → Int32 → Int32 → Int32 → St → Prop} {Q : Int64 → St → Prop} (E : En p l s m meth c args cc_M_rank 10 R_M (some .long) G)
    (hK227 : ∀ (v4 : Int64) (v6 : Int32) (v7 : Int32) (v8 : Int32) (z0 : St) (ls : Array Slot) (H : Heap) (locs : List Loc), K227 v4 v6 v7 v8 z0 → lv_has ls 10 [(0, .ref (ha G 31)), (4, .long v4), (6, .int v6), (7, .int v7), (8, .int v8)] → Wd G z0 s.heap H locs → W p l e rm_M_rank s m args below meth c H locs 0 0 (MQ below (QlR Q G) args s 0 0 (fr G)) (F0 m 227 ls [])) :
    ∀ (n : Nat) (v4 : Int64) (v6 : Int32) (v7 : Int32) (v8 : Int32) (v9 : Int32) (z0 : St) (ls : Array Slot) (H : Heap) (locs : List Loc), L_M_rank_176 K227 Q n v4 v6 v7 v8 v9 z0 → lv_has ls 10 [(0, .ref (ha G 31)), (4, .long v4), (6, .int v6), (7, .int v7), (8, .int v8), (9, .int v9)] → Wd G z0 s.heap H locs → W p l e rm_M_rank s m args below meth c H locs 0 0 (MQ below (QlR Q G) args s 0 0 (fr G)) (F0 m 176 ls []) := by
  obtain ⟨hx, hb, hml, hown, hr, hlk, hex, hE⟩ := id E
  intro n
  induction n with
  | zero => exact fun _ _ _ _ _ _ _ _ _ hP _ _ => hP.elim
  | succ n ih =>
    intro v4 v6 v7 v8 v9 z0 ls H locs hP hl hW
    refine lv_iload hx hb d_M_rank_176 (lv_at hl 5 rfl) ?_
    refine lv_aload_n hx hb d_M_rank_178 rfl (lv_at hl 0 rfl) ?_
    refine ygf_31_1 hx hb hown hE hW (lk_M_76 hE) d_M_rank_179 ?_
    refine lv_icmp_ge (tgt := 227) hx hb d_M_rank_182 rfl (fun hc => ?_) (fun hc => ?_)
    · have hP := hP.1 hc
      exact hK227 _ _ _ _ _ _ _ _ hP (lv_sub hl [0, 1, 2, 3, 4] rfl) hW
    · have hP := hP.2 hc
      refine lv_iload hx hb d_M_rank_185 (lv_at hl 4 rfl) ?_
      refine lv_aload_n hx hb d_M_rank_187 rfl (lv_at hl 0 rfl) ?_
      refine ygf_31_3 hx hb hown hE hW (lk_M_13 hE) d_M_rank_188 ?_
      refine lv_iload hx hb d_M_rank_191 (lv_at hl 5 rfl) ?_
      refine ya_33 hx hb hE hW hP.1 d_M_rank_193 ?_
      have hP := hP.2
      refine lv_if_eq (tgt := 217) hx hb d_M_rank_194 rfl (fun hc => ?_) (fun hc => ?_)
      · have hP := hP.1 hc
        exact wJ_M_rank_217 E ih hK227 _ _ _ _ _ _ _ _ _ hP (lv_sub hl [0, 1, 2, 3, 5] rfl) hW
      · have hP := hP.2 hc
        refine lv_aload_n hx hb d_M_rank_197 rfl (lv_at hl 0 rfl) ?_
        refine lv_iload hx hb d_M_rank_198 (lv_at hl 5 rfl) ?_
        refine yc_i (yV (As := [.int v9]) (rest := [.int v8]) E (c_M_is _ _ _ hP) (cw_M_79 hE) (yrv_31 hE hW) (by decide) hW hl.1 rfl rfl rfl d_M_rank_200) hW (fun x26 z25 H locs hP hW => ?_)
        refine lv_aload_n hx hb d_M_rank_203 rfl (lv_at hl 0 rfl) ?_
        refine ygf_31_9 hx hb hown hE hW (lk_M_30 hE) d_M_rank_204 ?_
        refine lv_iload hx hb d_M_rank_207 (lv_at hl 3 rfl) ?_
        refine ya_37 hx hb hE hW hP.1 d_M_rank_209 ?_
        have hP := hP.2
        refine lv_icmp_ne (tgt := 217) hx hb d_M_rank_210 rfl (fun hc => ?_) (fun hc => ?_)
        · have hP := hP.1 hc
          exact wJ_M_rank_217 E ih hK227 _ _ _ _ _ _ _ _ _ hP (lv_sub hl [0, 1, 2, 3, 5] rfl) hW
        · have hP := hP.2 hc
          refine lv_iconst (v := 1) hx hb d_M_rank_213 (by decide) ?_
          refine lv_goto (tgt := 218) hx hb d_M_rank_214 rfl ?_
          refine lv_iadd hx hb d_M_rank_218 ?_
          refine lv_topi (fun x27 e_x27 => ?_)
          have hP := hP x27 e_x27
          refine lv_istore (lv' := [(8, .int x27), (0, .ref (ha G 31)), (4, .long v4), (6, .int v6), (7, .int v7), (9, .int v9)]) hx hb d_M_rank_219 hl (by decide) rfl (fun ls hl => ?_)
          obtain ⟨x28, e_x28⟩ : ∃ z : Int32, z = v9 + 1 := ⟨_, rfl⟩
          have hP := hP x28 e_x28
          refine lv_iinc (k := 5) (lv' := [(9, .int x28), (8, .int x27), (0, .ref (ha G 31)), (4, .long v4), (6, .int v6), (7, .int v7)]) hx hb d_M_rank_221 hl rfl (ii_p1 e_x28) (by decide) rfl (fun ls hl => ?_)
          refine lv_goto (tgt := 176) hx hb d_M_rank_224 rfl ?_
          exact ih _ _ _ _ _ _ _ _ _ hP (lv_sub hl [2, 3, 4, 5, 1, 0] rfl) hW
set_option maxHeartbeats 4000000 in
set_option maxRecDepth 100000 in
theorem wL_M_rank_230 {K292 : Int64 → Int32 → Int32 → Int32 → St → Prop} {Q : Int64 → St → Prop} (E : En p l s m meth c args cc_M_rank 10 R_M (some .long) G)
    (hK292 : ∀ (v4 : Int64) (v6 : Int32) (v7 : Int32) (v8 : Int32) (z0 : St) (ls : Array Slot) (H : Heap) (locs : List Loc), K292 v4 v6 v7 v8 z0 → lv_has ls 10 [(0, .ref (ha G 31)), (4, .long v4), (6, .int v6), (7, .int v7), (8, .int v8)] → Wd G z0 s.heap H locs → W p l e rm_M_rank s m args below meth c H locs 0 0 (MQ below (QlR Q G) args s 0 0 (fr G)) (F0 m 292 ls [])) :
    ∀ (n : Nat) (v4 : Int64) (v6 : Int32) (v7 : Int32) (v8 : Int32) (v9 : Int32) (z0 : St) (ls : Array Slot) (H : Heap) (locs : List Loc), L_M_rank_230 K292 Q n v4 v6 v7 v8 v9 z0 → lv_has ls 10 [(0, .ref (ha G 31)), (4, .long v4), (6, .int v6), (7, .int v7), (8, .int v8), (9, .int v9)] → Wd G z0 s.heap H locs → W p l e rm_M_rank s m args below meth c H locs 0 0 (MQ below (QlR Q G) args s 0 0 (fr G)) (F0 m 230 ls []) := by
  obtain ⟨hx, hb, hml, hown, hr, hlk, hex, hE⟩ := id E
  intro n
  induction n with
  | zero => exact fun _ _ _ _ _ _ _ _ _ hP _ _ => hP.elim
  | succ n ih =>
    intro v4 v6 v7 v8 v9 z0 ls H locs hP hl hW
    refine lv_iload hx hb d_M_rank_230 (lv_at hl 5 rfl) ?_
    refine lv_iload hx hb d_M_rank_232 (lv_at hl 4 rfl) ?_
    refine lv_icmp_ge (tgt := 292) hx hb d_M_rank_234 rfl (fun hc => ?_) (fun hc => ?_)
    · have hP := hP.1 hc
      exact hK292 _ _ _ _ _ _ _ _ hP (lv_sub hl [0, 1, 2, 3, 4] rfl) hW
    · have hP := hP.2 hc
      refine lv_lload hx hb d_M_rank_237 (lv_at hl 1 rfl) ?_
      refine lv_aload_n hx hb d_M_rank_239 rfl (lv_at hl 0 rfl) ?_
      refine ygf_31_16 hx hb hown hE hW (lk_M_43 hE) d_M_rank_240 ?_
      refine lv_aload_n hx hb d_M_rank_243 rfl (lv_at hl 0 rfl) ?_
      refine lv_iload hx hb d_M_rank_244 (lv_at hl 3 rfl) ?_
      refine lv_iconst (v := 1) hx hb d_M_rank_246 (by decide) ?_
      refine lv_iadd hx hb d_M_rank_247 ?_
      refine lv_aload_n hx hb d_M_rank_248 rfl (lv_at hl 0 rfl) ?_
      refine ygf_31_15 hx hb hown hE hW (lk_M_39 hE) d_M_rank_249 ?_
      refine lv_iload hx hb d_M_rank_252 (lv_at hl 2 rfl) ?_
      refine ya_40 hx hb hE hW hP.1 d_M_rank_254 ?_
      have hP := hP.2
      refine lv_iload hx hb d_M_rank_255 (lv_at hl 5 rfl) ?_
      refine lv_i2l hx hb d_M_rank_257 rfl ?_
      refine lv_aload_n hx hb d_M_rank_258 rfl (lv_at hl 0 rfl) ?_
      refine lv_iload hx hb d_M_rank_259 (lv_at hl 3 rfl) ?_
      refine yc_l (yVw 9 (As := [.int v7]) (rest := [.long v9.toInt64, .long (z0.2 40 v6.toNatClampNeg), .int (v7 + (1 : Int32)), .ref (ha G 31), .ref (ha G 41), .long v4]) E (c_M_adds _ _ _ hP) (cw_M_133 hE) (yrv_31 hE hW) (by decide) hW hl.1 rfl rfl rfl d_M_rank_261) hW (fun x35 z34 H locs hP hW => ?_)
      refine lv_lmul hx hb d_M_rank_264 ?_
      refine lv_ladd hx hb d_M_rank_265 ?_
      refine yc_i (yV (As := [.int (v7 + (1 : Int32)), .long ((z0.2 40 v6.toNatClampNeg) + (v9.toInt64 * x35))]) (rest := [.ref (ha G 41), .long v4]) E (c_M_find _ _ _ _ hP) (cw_M_137 hE) (yrv_31 hE hW) (by decide) hW hl.1 rfl rfl rfl d_M_rank_266) hW (fun x37 z36 H locs hP hW => ?_)
      refine ya_41 hx hb hE hW hP.1 d_M_rank_269 ?_
      have hP := hP.2
      refine lv_aload_n hx hb d_M_rank_270 rfl (lv_at hl 0 rfl) ?_
      refine ygf_31_10 hx hb hown hE hW (lk_M_33 hE) d_M_rank_271 ?_
      refine lv_iload hx hb d_M_rank_274 (lv_at hl 3 rfl) ?_
      refine ya_38 hx hb hE hW hP.1 d_M_rank_276 ?_
      have hP := hP.2
      refine lv_iload hx hb d_M_rank_277 (lv_at hl 5 rfl) ?_
      refine yc_l (yS (As := [.int (z36.1 38 v7.toNatClampNeg), .int v9]) (rest := [.long (z36.2 41 x37.toNatClampNeg), .long v4]) E (c_M_choose _ _ _ _ hP) (cw_M_147 hE) (by decide) hW hl.1 rfl rfl rfl d_M_rank_279) hW (fun x39 z38 H locs hP hW => ?_)
      refine lv_lmul hx hb d_M_rank_282 ?_
      refine lv_ladd hx hb d_M_rank_283 ?_
      refine lv_topl (fun x40 e_x40 => ?_)
      have hP := hP x40 e_x40
      refine lv_lstore (lv' := [(4, .long x40), (0, .ref (ha G 31)), (6, .int v6), (7, .int v7), (8, .int v8), (9, .int v9)]) hx hb d_M_rank_284 hl (by decide) rfl (fun ls hl => ?_)
      obtain ⟨x41, e_x41⟩ : ∃ z : Int32, z = v9 + 1 := ⟨_, rfl⟩
      have hP := hP x41 e_x41
      refine lv_iinc (k := 5) (lv' := [(9, .int x41), (4, .long x40), (0, .ref (ha G 31)), (6, .int v6), (7, .int v7), (8, .int v8)]) hx hb d_M_rank_286 hl rfl (ii_p1 e_x41) (by decide) rfl (fun ls hl => ?_)
      refine lv_goto (tgt := 230) hx hb d_M_rank_289 rfl ?_
      exact ih _ _ _ _ _ _ _ _ _ hP (lv_sub hl [2, 1, 3, 4, 5, 0] rfl) hW
set_option maxHeartbeats 4000000 in
set_option maxRecDepth 100000 in
theorem wL_M_rank_161 {Q : Int64 → St → Prop} (E : En p l s m meth c args cc_M_rank 10 R_M (some .long) G) :
    ∀ (n : Nat) (v4 : Int64) (v6 : Int32) (v7 : Int32) (z0 : St) (ls : Array Slot) (H : Heap) (locs : List Loc), L_M_rank_161 Q n v4 v6 v7 z0 → lv_has ls 10 [(0, .ref (ha G 31)), (4, .long v4), (6, .int v6), (7, .int v7)] → Wd G z0 s.heap H locs → W p l e rm_M_rank s m args below meth c H locs 0 0 (MQ below (QlR Q G) args s 0 0 (fr G)) (F0 m 161 ls []) := by
  obtain ⟨hx, hb, hml, hown, hr, hlk, hex, hE⟩ := id E
  intro n
  induction n with
  | zero => exact fun _ _ _ _ _ _ _ hP _ _ => hP.elim
  | succ n ih =>
    intro v4 v6 v7 z0 ls H locs hP hl hW
    refine lv_iload hx hb d_M_rank_161 (lv_at hl 3 rfl) ?_
    refine lv_aload_n hx hb d_M_rank_163 rfl (lv_at hl 0 rfl) ?_
    refine ygf_31_8 hx hb hown hE hW (lk_M_73 hE) d_M_rank_164 ?_
    refine lv_icmp_ge (tgt := 347) hx hb d_M_rank_167 rfl (fun hc => ?_) (fun hc => ?_)
    · have hP := hP.1 hc
      refine lv_lload hx hb d_M_rank_347 (lv_at hl 1 rfl) ?_
      exact yr_l hx hb hr hlk hW hP d_M_rank_349
    · have hP := hP.2 hc
      refine lv_iconst (v := 0) hx hb d_M_rank_170 (by decide) ?_
      refine lv_istore (lv' := [(8, .int (0 : Int32)), (0, .ref (ha G 31)), (4, .long v4), (6, .int v6), (7, .int v7)]) hx hb d_M_rank_171 hl (by decide) rfl (fun ls hl => ?_)
      refine lv_iconst (v := 0) hx hb d_M_rank_173 (by decide) ?_
      refine lv_istore (lv' := [(9, .int (0 : Int32)), (8, .int (0 : Int32)), (0, .ref (ha G 31)), (4, .long v4), (6, .int v6), (7, .int v7)]) hx hb d_M_rank_174 hl (by decide) rfl (fun ls hl => ?_)
      obtain ⟨n2, hP⟩ := hP
      refine wL_M_rank_176 E ?_ n2 _ _ _ _ _ _ _ _ _ hP (lv_sub hl [2, 3, 4, 5, 1, 0] rfl) hW
      · intro x29 x30 x31 x32 z33 ls H locs hP hl hW
        refine lv_iconst (v := 0) hx hb d_M_rank_227 (by decide) ?_
        refine lv_istore (lv' := [(9, .int (0 : Int32)), (0, .ref (ha G 31)), (4, .long x29), (6, .int x30), (7, .int x31), (8, .int x32)]) hx hb d_M_rank_228 hl (by decide) rfl (fun ls hl => ?_)
        obtain ⟨n2, hP⟩ := hP
        refine wL_M_rank_230 E ?_ n2 _ _ _ _ _ _ _ _ _ hP (lv_sub hl [1, 2, 3, 4, 5, 0] rfl) hW
        · intro x42 x43 x44 x45 z46 ls H locs hP hl hW
          refine lv_aload_n hx hb d_M_rank_292 rfl (lv_at hl 0 rfl) ?_
          refine lv_iload hx hb d_M_rank_293 (lv_at hl 3 rfl) ?_
          refine lv_iconst (v := 1) hx hb d_M_rank_295 (by decide) ?_
          refine lv_iadd hx hb d_M_rank_296 ?_
          refine lv_aload_n hx hb d_M_rank_297 rfl (lv_at hl 0 rfl) ?_
          refine ygf_31_15 hx hb hown hE hW (lk_M_39 hE) d_M_rank_298 ?_
          refine lv_iload hx hb d_M_rank_301 (lv_at hl 2 rfl) ?_
          refine ya_40 hx hb hE hW hP.1 d_M_rank_303 ?_
          have hP := hP.2
          refine lv_iload hx hb d_M_rank_304 (lv_at hl 4 rfl) ?_
          refine lv_i2l hx hb d_M_rank_306 rfl ?_
          refine lv_aload_n hx hb d_M_rank_307 rfl (lv_at hl 0 rfl) ?_
          refine lv_iload hx hb d_M_rank_308 (lv_at hl 3 rfl) ?_
          refine yc_l (yV (As := [.int x44]) (rest := [.long x45.toInt64, .long (z46.2 40 x43.toNatClampNeg), .int (x44 + (1 : Int32)), .ref (ha G 31)]) E (c_M_adds _ _ _ hP) (cw_M_133 hE) (yrv_31 hE hW) (by decide) hW hl.1 rfl rfl rfl d_M_rank_310) hW (fun x48 z47 H locs hP hW => ?_)
          refine lv_lmul hx hb d_M_rank_313 ?_
          refine lv_ladd hx hb d_M_rank_314 ?_
          refine yc_i (yV (As := [.int (x44 + (1 : Int32)), .long ((z46.2 40 x43.toNatClampNeg) + (x45.toInt64 * x48))]) (rest := []) E (c_M_find _ _ _ _ hP) (cw_M_137 hE) (yrv_31 hE hW) (by decide) hW hl.1 rfl rfl rfl d_M_rank_315) hW (fun x50 z49 H locs hP hW => ?_)
          refine lv_istore (lv' := [(6, .int x50), (0, .ref (ha G 31)), (4, .long x42), (7, .int x44), (8, .int x45)]) hx hb d_M_rank_318 hl (by decide) rfl (fun ls hl => ?_)
          refine lv_lload hx hb d_M_rank_320 (lv_at hl 2 rfl) ?_
          refine lv_aload_n hx hb d_M_rank_322 rfl (lv_at hl 1 rfl) ?_
          refine ygf_31_16 hx hb hown hE hW (lk_M_43 hE) d_M_rank_323 ?_
          refine lv_iload hx hb d_M_rank_326 (lv_at hl 0 rfl) ?_
          refine ya_41 hx hb hE hW hP.1 d_M_rank_328 ?_
          have hP := hP.2
          refine lv_aload_n hx hb d_M_rank_329 rfl (lv_at hl 1 rfl) ?_
          refine lv_iload hx hb d_M_rank_330 (lv_at hl 3 rfl) ?_
          refine lv_iload hx hb d_M_rank_332 (lv_at hl 4 rfl) ?_
          refine yc_l (yV (As := [.int x44, .int x45]) (rest := [.long (z49.2 41 x50.toNatClampNeg), .long x42]) E (c_M_index _ _ _ _ hP) (cw_M_182 hE) (yrv_31 hE hW) (by decide) hW hl.1 rfl rfl rfl d_M_rank_334) hW (fun x52 z51 H locs hP hW => ?_)
          refine lv_lmul hx hb d_M_rank_337 ?_
          refine lv_ladd hx hb d_M_rank_338 ?_
          refine lv_topl (fun x53 e_x53 => ?_)
          have hP := hP x53 e_x53
          refine lv_lstore (lv' := [(4, .long x53), (6, .int x50), (0, .ref (ha G 31)), (7, .int x44), (8, .int x45)]) hx hb d_M_rank_339 hl (by decide) rfl (fun ls hl => ?_)
          obtain ⟨x54, e_x54⟩ : ∃ z : Int32, z = x44 + 1 := ⟨_, rfl⟩
          have hP := hP x54 e_x54
          refine lv_iinc (k := 3) (lv' := [(7, .int x54), (4, .long x53), (6, .int x50), (0, .ref (ha G 31)), (8, .int x45)]) hx hb d_M_rank_341 hl rfl (ii_p1 e_x54) (by decide) rfl (fun ls hl => ?_)
          refine lv_goto (tgt := 161) hx hb d_M_rank_344 rfl ?_
          exact ih _ _ _ _ _ _ _ hP (lv_sub hl [3, 1, 2, 0] rfl) hW
set_option maxHeartbeats 4000000 in
set_option maxRecDepth 100000 in
theorem wJ_M_rank_140 {Q : Int64 → St → Prop} (E : En p l s m meth c args cc_M_rank 10 R_M (some .long) G)
    (t0 : Int32) (z0 : St) (ls : Array Slot) (H : Heap) (locs : List Loc) (hP : J_M_rank_140 Q t0 z0) (hl : lv_has ls 10 [(0, .ref (ha G 31))]) (hW : Wd G z0 s.heap H locs) : W p l e rm_M_rank s m args below meth c H locs 0 0 (MQ below (QlR Q G) args s 0 0 (fr G)) (F0 m 140 ls [.int t0, .ref (ha G 31)]) := by
  obtain ⟨hx, hb, hml, hown, hr, hlk, hex, hE⟩ := id E
  refine ypf_31_0 hx hb hown hE hW (lk_M_70 hE) d_M_rank_140 (fun z22 H locs e_z22 hW => ?_)
  have hP := hP z22 e_z22
  refine lv_aload_n hx hb d_M_rank_143 rfl (lv_at hl 0 rfl) ?_
  refine ygf_31_0 hx hb hown hE hW (lk_M_70 hE) d_M_rank_144 ?_
  refine lv_if_le (tgt := 152) hx hb d_M_rank_147 rfl (fun hc => ?_) (fun hc => ?_)
  · have hP := hP.1 hc
    refine lv_lconst (v := 0) hx hb d_M_rank_152 (by decide) ?_
    refine lv_lstore (lv' := [(4, .long (0 : Int64)), (0, .ref (ha G 31))]) hx hb d_M_rank_153 hl (by decide) rfl (fun ls hl => ?_)
    refine lv_iconst (v := 0) hx hb d_M_rank_155 (by decide) ?_
    refine lv_istore (lv' := [(6, .int (0 : Int32)), (4, .long (0 : Int64)), (0, .ref (ha G 31))]) hx hb d_M_rank_156 hl (by decide) rfl (fun ls hl => ?_)
    refine lv_iconst (v := 0) hx hb d_M_rank_158 (by decide) ?_
    refine lv_istore (lv' := [(7, .int (0 : Int32)), (6, .int (0 : Int32)), (4, .long (0 : Int64)), (0, .ref (ha G 31))]) hx hb d_M_rank_159 hl (by decide) rfl (fun ls hl => ?_)
    obtain ⟨n2, hP⟩ := hP
    refine wL_M_rank_161 E n2 _ _ _ _ _ _ _ hP (lv_sub hl [3, 2, 1, 0] rfl) hW
  · have hP := hP.2 hc
    refine lv_lconst (v := 0) hx hb d_M_rank_150 (by decide) ?_
    exact yr_l hx hb hr hlk hW hP d_M_rank_151
set_option maxHeartbeats 4000000 in
set_option maxRecDepth 100000 in
theorem wJ_M_rank_118 {Q : Int64 → St → Prop} (E : En p l s m meth c args cc_M_rank 10 R_M (some .long) G)
    (v1 : Int64) (v3 : Int32) (z0 : St) (ls : Array Slot) (H : Heap) (locs : List Loc) (hP : J_M_rank_118 Q v1 v3 z0) (hl : lv_has ls 10 [(0, .ref (ha G 31)), (1, .long v1), (3, .int v3)]) (hW : Wd G z0 s.heap H locs) : W p l e rm_M_rank s m args below meth c H locs 0 0 (MQ below (QlR Q G) args s 0 0 (fr G)) (F0 m 118 ls []) := by
  obtain ⟨hx, hb, hml, hown, hr, hlk, hex, hE⟩ := id E
  refine lv_aload_n hx hb d_M_rank_118 rfl (lv_at hl 0 rfl) ?_
  refine lv_iload_n hx hb d_M_rank_119 rfl (lv_at hl 2 rfl) ?_
  refine lv_aload_n hx hb d_M_rank_120 rfl (lv_at hl 0 rfl) ?_
  refine ygf_31_7 hx hb hown hE hW (lk_M_26 hE) d_M_rank_121 ?_
  refine lv_icmp_ne (tgt := 139) hx hb d_M_rank_124 rfl (fun hc => ?_) (fun hc => ?_)
  · have hP := hP.1 hc
    refine lv_iconst (v := 1) hx hb d_M_rank_139 (by decide) ?_
    exact wJ_M_rank_140 E _ _ _ _ _ hP (lv_sub hl [0] rfl) hW
  · have hP := hP.2 hc
    refine lv_aload_n hx hb d_M_rank_127 rfl (lv_at hl 0 rfl) ?_
    refine lv_lload_n hx hb d_M_rank_128 rfl (lv_at hl 1 rfl) ?_
    refine yc_i (yV (As := [.long v1]) (rest := [.ref (ha G 31)]) E (c_M_isPanel _ _ _ hP) (cw_M_144 hE) (yrv_31 hE hW) (by decide) hW hl.1 rfl rfl rfl d_M_rank_129) hW (fun x56 z55 H locs hP hW => ?_)
    refine lv_if_eq (tgt := 139) hx hb d_M_rank_132 rfl (fun hc => ?_) (fun hc => ?_)
    · have hP := hP.1 hc
      refine lv_iconst (v := 1) hx hb d_M_rank_139 (by decide) ?_
      exact wJ_M_rank_140 E _ _ _ _ _ hP (lv_sub hl [0] rfl) hW
    · have hP := hP.2 hc
      refine lv_iconst (v := 0) hx hb d_M_rank_135 (by decide) ?_
      refine lv_goto (tgt := 140) hx hb d_M_rank_136 rfl ?_
      exact wJ_M_rank_140 E _ _ _ _ _ hP (lv_sub hl [0] rfl) hW
set_option maxHeartbeats 4000000 in
set_option maxRecDepth 100000 in
theorem wJ_M_rank_13 {Q : Int64 → St → Prop} (E : En p l s m meth c args cc_M_rank 10 R_M (some .long) G)
    (t0 : Int32) (z0 : St) (ls : Array Slot) (H : Heap) (locs : List Loc) (hP : J_M_rank_13 Q t0 z0) (hl : lv_has ls 10 [(0, .ref (ha G 31))]) (hW : Wd G z0 s.heap H locs) : W p l e rm_M_rank s m args below meth c H locs 0 0 (MQ below (QlR Q G) args s 0 0 (fr G)) (F0 m 13 ls [.int t0, .ref (ha G 31)]) := by
  obtain ⟨hx, hb, hml, hown, hr, hlk, hex, hE⟩ := id E
  refine ypf_31_0 hx hb hown hE hW (lk_M_70 hE) d_M_rank_13 (fun z3 H locs e_z3 hW => ?_)
  have hP := hP z3 e_z3
  refine lv_aload_n hx hb d_M_rank_16 rfl (lv_at hl 0 rfl) ?_
  refine ygf_31_0 hx hb hown hE hW (lk_M_70 hE) d_M_rank_17 ?_
  refine lv_if_le (tgt := 25) hx hb d_M_rank_20 rfl (fun hc => ?_) (fun hc => ?_)
  · have hP := hP.1 hc
    refine lv_lconst (v := 0) hx hb d_M_rank_25 (by decide) ?_
    refine lv_lstore_n (lv' := [(1, .long (0 : Int64)), (0, .ref (ha G 31))]) hx hb d_M_rank_26 rfl hl (by decide) rfl (fun ls hl => ?_)
    refine lv_iconst (v := 0) hx hb d_M_rank_27 (by decide) ?_
    refine lv_istore_n (lv' := [(3, .int (0 : Int32)), (1, .long (0 : Int64)), (0, .ref (ha G 31))]) hx hb d_M_rank_28 rfl hl (by decide) rfl (fun ls hl => ?_)
    refine lv_iconst (v := 0) hx hb d_M_rank_29 (by decide) ?_
    refine lv_istore (lv' := [(4, .int (0 : Int32)), (3, .int (0 : Int32)), (1, .long (0 : Int64)), (0, .ref (ha G 31))]) hx hb d_M_rank_30 hl (by decide) rfl (fun ls hl => ?_)
    obtain ⟨n2, hP⟩ := hP
    refine wL_M_rank_32 E ?_ n2 _ _ _ _ _ _ _ hP (lv_sub hl [3, 2, 1, 0] rfl) hW
    · intro x8 x9 z10 ls H locs hP hl hW
      refine lv_iconst (v := 0) hx hb d_M_rank_65 (by decide) ?_
      refine lv_istore (lv' := [(4, .int (0 : Int32)), (0, .ref (ha G 31)), (1, .long x8), (3, .int x9)]) hx hb d_M_rank_66 hl (by decide) rfl (fun ls hl => ?_)
      obtain ⟨n2, hP⟩ := hP
      refine wL_M_rank_68 E ?_ n2 _ _ _ _ _ _ _ hP (lv_sub hl [1, 2, 3, 0] rfl) hW
      · intro x19 x20 z21 ls H locs hP hl hW
        exact wJ_M_rank_118 E _ _ _ _ _ _ hP hl hW
  · have hP := hP.2 hc
    refine lv_lconst (v := 0) hx hb d_M_rank_23 (by decide) ?_
    exact yr_l hx hb hr hlk hW hP d_M_rank_24
set_option maxHeartbeats 4000000 in
set_option maxRecDepth 100000 in
theorem c_M_rank {l : Launch} {G : GG} (z0 : St) (Q : Int64 → St → Prop) (hP : P_M_rank z0 Q) : Ctl l y_M_rank cc_M_rank 10 (some .long) rm_M_rank G [.ref (ha G 31)] z0 Q := by
  refine Ctl.op (own := R_M) (by decide) rfl (Nat.le_of_ble_eq_true rfl) (fun p e s m args below meth c ls E hl hW => ?_)
  obtain ⟨hx, hb, hml, hown, hr, hlk, hex, hE⟩ := id E
  have hl : lv_has ls 10 [(0, .ref (ha G 31))] := hl
  refine lv_aload_n hx hb d_M_rank_0 rfl (lv_at hl 0 rfl) ?_
  refine lv_aload_n hx hb d_M_rank_1 rfl (lv_at hl 0 rfl) ?_
  refine yc_i (yV (As := []) (rest := [.ref (ha G 31)]) E (c_M_counts _ _ hP) (cw_M_155 hE) (yrv_31 hE hW) (by decide) hW hl.1 rfl rfl rfl d_M_rank_2) hW (fun x2 z1 H locs hP hW => ?_)
  refine lv_if_eq (tgt := 12) hx hb d_M_rank_5 rfl (fun hc => ?_) (fun hc => ?_)
  · have hP := hP.1 hc
    refine lv_iconst (v := 2) hx hb d_M_rank_12 (by decide) ?_
    exact wJ_M_rank_13 E _ _ _ _ _ hP hl hW
  · have hP := hP.2 hc
    refine lv_iconst (v := 0) hx hb d_M_rank_8 (by decide) ?_
    refine lv_goto (tgt := 13) hx hb d_M_rank_9 rfl ?_
    exact wJ_M_rank_13 E _ _ _ _ _ hP hl hW
theorem d_M_placeOf_0 : decode cc_M_placeOf 0 = .ok (.iconst (-1), 1) := by decide +kernel
theorem d_M_placeOf_1 : decode cc_M_placeOf 1 = .ok (.istore_n 2, 1) := by decide +kernel
theorem d_M_placeOf_2 : decode cc_M_placeOf 2 = .ok (.iconst 0, 1) := by decide +kernel
theorem d_M_placeOf_3 : decode cc_M_placeOf 3 = .ok (.istore_n 3, 1) := by decide +kernel
theorem d_M_placeOf_4 : decode cc_M_placeOf 4 = .ok (.iload_n 3, 1) := by decide +kernel
theorem d_M_placeOf_5 : decode cc_M_placeOf 5 = .ok (.aload_n 0, 1) := by decide +kernel
theorem d_M_placeOf_6 : decode cc_M_placeOf 6 = .ok (.getfield 26, 3) := by decide +kernel
theorem d_M_placeOf_9 : decode cc_M_placeOf 9 = .ok (.if_icmp .ge 25, 3) := by decide +kernel
theorem d_M_placeOf_12 : decode cc_M_placeOf 12 = .ok (.aload_n 0, 1) := by decide +kernel
theorem d_M_placeOf_13 : decode cc_M_placeOf 13 = .ok (.getfield 52, 3) := by decide +kernel
theorem d_M_placeOf_16 : decode cc_M_placeOf 16 = .ok (.iload_n 3, 1) := by decide +kernel
theorem d_M_placeOf_17 : decode cc_M_placeOf 17 = .ok (.iaload, 1) := by decide +kernel
theorem d_M_placeOf_18 : decode cc_M_placeOf 18 = .ok (.iload_n 1, 1) := by decide +kernel
theorem d_M_placeOf_19 : decode cc_M_placeOf 19 = .ok (.if_icmp .ne 7, 3) := by decide +kernel
theorem d_M_placeOf_22 : decode cc_M_placeOf 22 = .ok (.iload_n 3, 1) := by decide +kernel
theorem d_M_placeOf_23 : decode cc_M_placeOf 23 = .ok (.goto 4, 3) := by decide +kernel
theorem d_M_placeOf_26 : decode cc_M_placeOf 26 = .ok (.iload_n 2, 1) := by decide +kernel
theorem d_M_placeOf_27 : decode cc_M_placeOf 27 = .ok (.istore_n 2, 1) := by decide +kernel
theorem d_M_placeOf_28 : decode cc_M_placeOf 28 = .ok (.iinc 3 1, 3) := by decide +kernel
theorem d_M_placeOf_31 : decode cc_M_placeOf 31 = .ok (.goto (-27), 3) := by decide +kernel
theorem d_M_placeOf_34 : decode cc_M_placeOf 34 = .ok (.iload_n 2, 1) := by decide +kernel
theorem d_M_placeOf_35 : decode cc_M_placeOf 35 = .ok (.ireturn, 1) := by decide +kernel
def L_M_placeOf_4 (Q : Int32 → St → Prop) : Nat → Int32 → Int32 → Int32 → St → Prop
  | 0, _, _, _, _ => False
  | n + 1, v1, v2, v3, z0 => (((z0.1 31 7) ≤ v3) → Q v2 z0) ∧ ((¬ (z0.1 31 7) ≤ v3) → vp_in v3 8 ∧ ((¬ (z0.1 44 v3.toNatClampNeg) = v1) → ∀ x1 : Int32, x1 = v3 + 1 → L_M_placeOf_4 Q n v1 v2 x1 z0) ∧ (((z0.1 44 v3.toNatClampNeg) = v1) → ∀ x2 : Int32, x2 = v3 + 1 → L_M_placeOf_4 Q n v1 v3 x2 z0))
def P_M_placeOf (a1 : Int32) (z0 : St) (Q : Int32 → St → Prop) : Prop := ∃ k4 : Nat, L_M_placeOf_4 Q k4 a1 (-1 : Int32) (0 : Int32) z0
set_option maxHeartbeats 4000000 in
set_option maxRecDepth 100000 in
theorem wL_M_placeOf_4 {Q : Int32 → St → Prop} (E : En p l s m meth c args cc_M_placeOf 4 R_M (some .int) G) :
    ∀ (n : Nat) (v1 : Int32) (v2 : Int32) (v3 : Int32) (z0 : St) (ls : Array Slot) (H : Heap) (locs : List Loc), L_M_placeOf_4 Q n v1 v2 v3 z0 → lv_has ls 4 [(0, .ref (ha G 31)), (1, .int v1), (2, .int v2), (3, .int v3)] → Wd G z0 s.heap H locs → W p l e rm_M_placeOf s m args below meth c H locs 0 0 (MQ below (QiR Q G) args s 0 0 (fr G)) (F0 m 4 ls []) := by
  obtain ⟨hx, hb, hml, hown, hr, hlk, hex, hE⟩ := id E
  intro n
  induction n with
  | zero => exact fun _ _ _ _ _ _ _ hP _ _ => hP.elim
  | succ n ih =>
    intro v1 v2 v3 z0 ls H locs hP hl hW
    refine lv_iload_n hx hb d_M_placeOf_4 rfl (lv_at hl 3 rfl) ?_
    refine lv_aload_n hx hb d_M_placeOf_5 rfl (lv_at hl 0 rfl) ?_
    refine ygf_31_7 hx hb hown hE hW (lk_M_26 hE) d_M_placeOf_6 ?_
    refine lv_icmp_ge (tgt := 34) hx hb d_M_placeOf_9 rfl (fun hc => ?_) (fun hc => ?_)
    · have hP := hP.1 hc
      refine lv_iload_n hx hb d_M_placeOf_34 rfl (lv_at hl 2 rfl) ?_
      exact yr_i hx hb hr hlk hW hP d_M_placeOf_35
    · have hP := hP.2 hc
      refine lv_aload_n hx hb d_M_placeOf_12 rfl (lv_at hl 0 rfl) ?_
      refine ygf_31_20 hx hb hown hE hW (lk_M_52 hE) d_M_placeOf_13 ?_
      refine lv_iload_n hx hb d_M_placeOf_16 rfl (lv_at hl 3 rfl) ?_
      refine ya_44 hx hb hE hW hP.1 d_M_placeOf_17 ?_
      have hP := hP.2
      refine lv_iload_n hx hb d_M_placeOf_18 rfl (lv_at hl 1 rfl) ?_
      refine lv_icmp_ne (tgt := 26) hx hb d_M_placeOf_19 rfl (fun hc => ?_) (fun hc => ?_)
      · have hP := hP.1 hc
        refine lv_iload_n hx hb d_M_placeOf_26 rfl (lv_at hl 2 rfl) ?_
        refine lv_istore_n (lv' := [(2, .int v2), (0, .ref (ha G 31)), (1, .int v1), (3, .int v3)]) hx hb d_M_placeOf_27 rfl hl (by decide) rfl (fun ls hl => ?_)
        obtain ⟨x1, e_x1⟩ : ∃ z : Int32, z = v3 + 1 := ⟨_, rfl⟩
        have hP := hP x1 e_x1
        refine lv_iinc (k := 3) (lv' := [(3, .int x1), (2, .int v2), (0, .ref (ha G 31)), (1, .int v1)]) hx hb d_M_placeOf_28 hl rfl (ii_p1 e_x1) (by decide) rfl (fun ls hl => ?_)
        refine lv_goto (tgt := 4) hx hb d_M_placeOf_31 rfl ?_
        exact ih _ _ _ _ _ _ _ hP (lv_sub hl [2, 3, 1, 0] rfl) hW
      · have hP := hP.2 hc
        refine lv_iload_n hx hb d_M_placeOf_22 rfl (lv_at hl 3 rfl) ?_
        refine lv_goto (tgt := 27) hx hb d_M_placeOf_23 rfl ?_
        refine lv_istore_n (lv' := [(2, .int v3), (0, .ref (ha G 31)), (1, .int v1), (3, .int v3)]) hx hb d_M_placeOf_27 rfl hl (by decide) rfl (fun ls hl => ?_)
        obtain ⟨x2, e_x2⟩ : ∃ z : Int32, z = v3 + 1 := ⟨_, rfl⟩
        have hP := hP x2 e_x2
        refine lv_iinc (k := 3) (lv' := [(3, .int x2), (2, .int v3), (0, .ref (ha G 31)), (1, .int v1)]) hx hb d_M_placeOf_28 hl rfl (ii_p1 e_x2) (by decide) rfl (fun ls hl => ?_)
        refine lv_goto (tgt := 4) hx hb d_M_placeOf_31 rfl ?_
        exact ih _ _ _ _ _ _ _ hP (lv_sub hl [2, 3, 1, 0] rfl) hW
set_option maxHeartbeats 4000000 in
set_option maxRecDepth 100000 in
theorem c_M_placeOf {l : Launch} {G : GG} (a1 : Int32) (z0 : St) (Q : Int32 → St → Prop) (hP : P_M_placeOf a1 z0 Q) : Cti l y_M_placeOf cc_M_placeOf 4 (some .int) rm_M_placeOf G [.ref (ha G 31), .int a1] z0 Q := by
  refine Cti.op (own := R_M) (by decide) rfl (Nat.le_of_ble_eq_true rfl) (fun p e s m args below meth c ls E hl hW => ?_)
  obtain ⟨hx, hb, hml, hown, hr, hlk, hex, hE⟩ := id E
  have hl : lv_has ls 4 [(0, .ref (ha G 31)), (1, .int a1)] := hl
  refine lv_iconst (v := -1) hx hb d_M_placeOf_0 (by decide) ?_
  refine lv_istore_n (lv' := [(2, .int (-1 : Int32)), (0, .ref (ha G 31)), (1, .int a1)]) hx hb d_M_placeOf_1 rfl hl (by decide) rfl (fun ls hl => ?_)
  refine lv_iconst (v := 0) hx hb d_M_placeOf_2 (by decide) ?_
  refine lv_istore_n (lv' := [(3, .int (0 : Int32)), (2, .int (-1 : Int32)), (0, .ref (ha G 31)), (1, .int a1)]) hx hb d_M_placeOf_3 rfl hl (by decide) rfl (fun ls hl => ?_)
  obtain ⟨n2, hP⟩ := hP
  refine wL_M_placeOf_4 E n2 _ _ _ _ _ _ _ hP (lv_sub hl [2, 3, 1, 0] rfl) hW
theorem d_M_breachWith_0 : decode cc_M_breachWith 0 = .ok (.iconst 0, 1) := by decide +kernel
theorem d_M_breachWith_1 : decode cc_M_breachWith 1 = .ok (.istore_n 2, 1) := by decide +kernel
theorem d_M_breachWith_2 : decode cc_M_breachWith 2 = .ok (.iconst 0, 1) := by decide +kernel
theorem d_M_breachWith_3 : decode cc_M_breachWith 3 = .ok (.istore_n 3, 1) := by decide +kernel
theorem d_M_breachWith_4 : decode cc_M_breachWith 4 = .ok (.iload_n 3, 1) := by decide +kernel
theorem d_M_breachWith_5 : decode cc_M_breachWith 5 = .ok (.iconst 3, 1) := by decide +kernel
theorem d_M_breachWith_6 : decode cc_M_breachWith 6 = .ok (.if_icmp .ge 178, 3) := by decide +kernel
theorem d_M_breachWith_9 : decode cc_M_breachWith 9 = .ok (.iconst 0, 1) := by decide +kernel
theorem d_M_breachWith_10 : decode cc_M_breachWith 10 = .ok (.istore 4, 2) := by decide +kernel
theorem d_M_breachWith_12 : decode cc_M_breachWith 12 = .ok (.iload 4, 2) := by decide +kernel
theorem d_M_breachWith_14 : decode cc_M_breachWith 14 = .ok (.aload_n 0, 1) := by decide +kernel
theorem d_M_breachWith_15 : decode cc_M_breachWith 15 = .ok (.getfield 17, 3) := by decide +kernel
theorem d_M_breachWith_18 : decode cc_M_breachWith 18 = .ok (.iload_n 3, 1) := by decide +kernel
theorem d_M_breachWith_19 : decode cc_M_breachWith 19 = .ok (.iaload, 1) := by decide +kernel
theorem d_M_breachWith_20 : decode cc_M_breachWith 20 = .ok (.if_icmp .ge 158, 3) := by decide +kernel
theorem d_M_breachWith_23 : decode cc_M_breachWith 23 = .ok (.iload_n 1, 1) := by decide +kernel
theorem d_M_breachWith_24 : decode cc_M_breachWith 24 = .ok (.iconst (-1), 1) := by decide +kernel
theorem d_M_breachWith_25 : decode cc_M_breachWith 25 = .ok (.if_icmp .eq 22, 3) := by decide +kernel
theorem d_M_breachWith_28 : decode cc_M_breachWith 28 = .ok (.aload_n 0, 1) := by decide +kernel
theorem d_M_breachWith_29 : decode cc_M_breachWith 29 = .ok (.getfield 7, 3) := by decide +kernel
theorem d_M_breachWith_32 : decode cc_M_breachWith 32 = .ok (.iconst 3, 1) := by decide +kernel
theorem d_M_breachWith_33 : decode cc_M_breachWith 33 = .ok (.iload_n 1, 1) := by decide +kernel
theorem d_M_breachWith_34 : decode cc_M_breachWith 34 = .ok (.imul, 1) := by decide +kernel
theorem d_M_breachWith_35 : decode cc_M_breachWith 35 = .ok (.iload_n 3, 1) := by decide +kernel
theorem d_M_breachWith_36 : decode cc_M_breachWith 36 = .ok (.iadd, 1) := by decide +kernel
theorem d_M_breachWith_37 : decode cc_M_breachWith 37 = .ok (.iaload, 1) := by decide +kernel
theorem d_M_breachWith_38 : decode cc_M_breachWith 38 = .ok (.iload 4, 2) := by decide +kernel
theorem d_M_breachWith_40 : decode cc_M_breachWith 40 = .ok (.if_icmp .ne 7, 3) := by decide +kernel
theorem d_M_breachWith_43 : decode cc_M_breachWith 43 = .ok (.iconst 1, 1) := by decide +kernel
theorem d_M_breachWith_44 : decode cc_M_breachWith 44 = .ok (.goto 4, 3) := by decide +kernel
theorem d_M_breachWith_47 : decode cc_M_breachWith 47 = .ok (.iconst 0, 1) := by decide +kernel
theorem d_M_breachWith_48 : decode cc_M_breachWith 48 = .ok (.istore 5, 2) := by decide +kernel
theorem d_M_breachWith_50 : decode cc_M_breachWith 50 = .ok (.iconst 0, 1) := by decide +kernel
theorem d_M_breachWith_51 : decode cc_M_breachWith 51 = .ok (.istore 6, 2) := by decide +kernel
theorem d_M_breachWith_53 : decode cc_M_breachWith 53 = .ok (.iload 6, 2) := by decide +kernel
theorem d_M_breachWith_55 : decode cc_M_breachWith 55 = .ok (.aload_n 0, 1) := by decide +kernel
theorem d_M_breachWith_56 : decode cc_M_breachWith 56 = .ok (.getfield 26, 3) := by decide +kernel
theorem d_M_breachWith_59 : decode cc_M_breachWith 59 = .ok (.if_icmp .ge 51, 3) := by decide +kernel
theorem d_M_breachWith_62 : decode cc_M_breachWith 62 = .ok (.iload 5, 2) := by decide +kernel
theorem d_M_breachWith_64 : decode cc_M_breachWith 64 = .ok (.aload_n 0, 1) := by decide +kernel
theorem d_M_breachWith_65 : decode cc_M_breachWith 65 = .ok (.getfield 52, 3) := by decide +kernel
theorem d_M_breachWith_68 : decode cc_M_breachWith 68 = .ok (.iload 6, 2) := by decide +kernel
theorem d_M_breachWith_70 : decode cc_M_breachWith 70 = .ok (.iaload, 1) := by decide +kernel
theorem d_M_breachWith_71 : decode cc_M_breachWith 71 = .ok (.iconst (-1), 1) := by decide +kernel
theorem d_M_breachWith_72 : decode cc_M_breachWith 72 = .ok (.if_icmp .eq 28, 3) := by decide +kernel
theorem d_M_breachWith_75 : decode cc_M_breachWith 75 = .ok (.aload_n 0, 1) := by decide +kernel
theorem d_M_breachWith_76 : decode cc_M_breachWith 76 = .ok (.getfield 7, 3) := by decide +kernel
theorem d_M_breachWith_79 : decode cc_M_breachWith 79 = .ok (.iconst 3, 1) := by decide +kernel
theorem d_M_breachWith_80 : decode cc_M_breachWith 80 = .ok (.aload_n 0, 1) := by decide +kernel
theorem d_M_breachWith_81 : decode cc_M_breachWith 81 = .ok (.getfield 52, 3) := by decide +kernel
theorem d_M_breachWith_84 : decode cc_M_breachWith 84 = .ok (.iload 6, 2) := by decide +kernel
theorem d_M_breachWith_86 : decode cc_M_breachWith 86 = .ok (.iaload, 1) := by decide +kernel
theorem d_M_breachWith_87 : decode cc_M_breachWith 87 = .ok (.imul, 1) := by decide +kernel
theorem d_M_breachWith_88 : decode cc_M_breachWith 88 = .ok (.iload_n 3, 1) := by decide +kernel
theorem d_M_breachWith_89 : decode cc_M_breachWith 89 = .ok (.iadd, 1) := by decide +kernel
theorem d_M_breachWith_90 : decode cc_M_breachWith 90 = .ok (.iaload, 1) := by decide +kernel
theorem d_M_breachWith_91 : decode cc_M_breachWith 91 = .ok (.iload 4, 2) := by decide +kernel
theorem d_M_breachWith_93 : decode cc_M_breachWith 93 = .ok (.if_icmp .ne 7, 3) := by decide +kernel
theorem d_M_breachWith_96 : decode cc_M_breachWith 96 = .ok (.iconst 1, 1) := by decide +kernel
theorem d_M_breachWith_97 : decode cc_M_breachWith 97 = .ok (.goto 4, 3) := by decide +kernel
theorem d_M_breachWith_100 : decode cc_M_breachWith 100 = .ok (.iconst 0, 1) := by decide +kernel
theorem d_M_breachWith_101 : decode cc_M_breachWith 101 = .ok (.iadd, 1) := by decide +kernel
theorem d_M_breachWith_102 : decode cc_M_breachWith 102 = .ok (.istore 5, 2) := by decide +kernel
theorem d_M_breachWith_104 : decode cc_M_breachWith 104 = .ok (.iinc 6 1, 3) := by decide +kernel
theorem d_M_breachWith_107 : decode cc_M_breachWith 107 = .ok (.goto (-54), 3) := by decide +kernel
theorem d_M_breachWith_110 : decode cc_M_breachWith 110 = .ok (.iconst 4, 1) := by decide +kernel
theorem d_M_breachWith_111 : decode cc_M_breachWith 111 = .ok (.iload_n 3, 1) := by decide +kernel
theorem d_M_breachWith_112 : decode cc_M_breachWith 112 = .ok (.imul, 1) := by decide +kernel
theorem d_M_breachWith_113 : decode cc_M_breachWith 113 = .ok (.iload 4, 2) := by decide +kernel
theorem d_M_breachWith_115 : decode cc_M_breachWith 115 = .ok (.iadd, 1) := by decide +kernel
theorem d_M_breachWith_116 : decode cc_M_breachWith 116 = .ok (.istore 6, 2) := by decide +kernel
theorem d_M_breachWith_118 : decode cc_M_breachWith 118 = .ok (.iload_n 2, 1) := by decide +kernel
theorem d_M_breachWith_119 : decode cc_M_breachWith 119 = .ok (.iload 5, 2) := by decide +kernel
theorem d_M_breachWith_121 : decode cc_M_breachWith 121 = .ok (.aload_n 0, 1) := by decide +kernel
theorem d_M_breachWith_122 : decode cc_M_breachWith 122 = .ok (.getfield 20, 3) := by decide +kernel
theorem d_M_breachWith_125 : decode cc_M_breachWith 125 = .ok (.iload 6, 2) := by decide +kernel
theorem d_M_breachWith_127 : decode cc_M_breachWith 127 = .ok (.iaload, 1) := by decide +kernel
theorem d_M_breachWith_128 : decode cc_M_breachWith 128 = .ok (.if_icmp .ge 16, 3) := by decide +kernel
theorem d_M_breachWith_131 : decode cc_M_breachWith 131 = .ok (.aload_n 0, 1) := by decide +kernel
theorem d_M_breachWith_132 : decode cc_M_breachWith 132 = .ok (.getfield 20, 3) := by decide +kernel
theorem d_M_breachWith_135 : decode cc_M_breachWith 135 = .ok (.iload 6, 2) := by decide +kernel
theorem d_M_breachWith_137 : decode cc_M_breachWith 137 = .ok (.iaload, 1) := by decide +kernel
theorem d_M_breachWith_138 : decode cc_M_breachWith 138 = .ok (.iload 5, 2) := by decide +kernel
theorem d_M_breachWith_140 : decode cc_M_breachWith 140 = .ok (.isub, 1) := by decide +kernel
theorem d_M_breachWith_141 : decode cc_M_breachWith 141 = .ok (.goto 29, 3) := by decide +kernel
theorem d_M_breachWith_144 : decode cc_M_breachWith 144 = .ok (.iload 5, 2) := by decide +kernel
theorem d_M_breachWith_146 : decode cc_M_breachWith 146 = .ok (.aload_n 0, 1) := by decide +kernel
theorem d_M_breachWith_147 : decode cc_M_breachWith 147 = .ok (.getfield 23, 3) := by decide +kernel
theorem d_M_breachWith_150 : decode cc_M_breachWith 150 = .ok (.iload 6, 2) := by decide +kernel
theorem d_M_breachWith_152 : decode cc_M_breachWith 152 = .ok (.iaload, 1) := by decide +kernel
theorem d_M_breachWith_153 : decode cc_M_breachWith 153 = .ok (.if_icmp .le 16, 3) := by decide +kernel
theorem d_M_breachWith_156 : decode cc_M_breachWith 156 = .ok (.iload 5, 2) := by decide +kernel
theorem d_M_breachWith_158 : decode cc_M_breachWith 158 = .ok (.aload_n 0, 1) := by decide +kernel
theorem d_M_breachWith_159 : decode cc_M_breachWith 159 = .ok (.getfield 23, 3) := by decide +kernel
theorem d_M_breachWith_162 : decode cc_M_breachWith 162 = .ok (.iload 6, 2) := by decide +kernel
theorem d_M_breachWith_164 : decode cc_M_breachWith 164 = .ok (.iaload, 1) := by decide +kernel
theorem d_M_breachWith_165 : decode cc_M_breachWith 165 = .ok (.isub, 1) := by decide +kernel
theorem d_M_breachWith_166 : decode cc_M_breachWith 166 = .ok (.goto 4, 3) := by decide +kernel
theorem d_M_breachWith_169 : decode cc_M_breachWith 169 = .ok (.iconst 0, 1) := by decide +kernel
theorem d_M_breachWith_170 : decode cc_M_breachWith 170 = .ok (.iadd, 1) := by decide +kernel
theorem d_M_breachWith_171 : decode cc_M_breachWith 171 = .ok (.istore_n 2, 1) := by decide +kernel
theorem d_M_breachWith_172 : decode cc_M_breachWith 172 = .ok (.iinc 4 1, 3) := by decide +kernel
theorem d_M_breachWith_175 : decode cc_M_breachWith 175 = .ok (.goto (-163), 3) := by decide +kernel
theorem d_M_breachWith_178 : decode cc_M_breachWith 178 = .ok (.iinc 3 1, 3) := by decide +kernel
theorem d_M_breachWith_181 : decode cc_M_breachWith 181 = .ok (.goto (-177), 3) := by decide +kernel
theorem d_M_breachWith_184 : decode cc_M_breachWith 184 = .ok (.iload_n 2, 1) := by decide +kernel
theorem d_M_breachWith_185 : decode cc_M_breachWith 185 = .ok (.ireturn, 1) := by decide +kernel
def J_M_breachWith_100 (K53 : Int32 → Int32 → Int32 → Int32 → Int32 → Int32 → St → Prop) (K110 : Int32 → Int32 → Int32 → Int32 → Int32 → St → Prop) (Q : Int32 → St → Prop) (v1 : Int32) (v2 : Int32) (v3 : Int32) (v4 : Int32) (v6 : Int32) (t0 : Int32) (z0 : St) : Prop := ∀ x1 : Int32, x1 = t0 + (0 : Int32) → ∀ x2 : Int32, x2 = v6 + 1 → K53 v1 v2 v3 v4 x1 x2 z0
def L_M_breachWith_53 (K110 : Int32 → Int32 → Int32 → Int32 → Int32 → St → Prop) (Q : Int32 → St → Prop) : Nat → Int32 → Int32 → Int32 → Int32 → Int32 → Int32 → St → Prop
  | 0, _, _, _, _, _, _, _ => False
  | n + 1, v1, v2, v3, v4, v5, v6, z0 => (((z0.1 31 7) ≤ v6) → K110 v1 v2 v3 v4 v5 z0) ∧ ((¬ (z0.1 31 7) ≤ v6) → vp_in v6 8 ∧ (((z0.1 44 v6.toNatClampNeg) = (-1 : Int32)) → J_M_breachWith_100 (L_M_breachWith_53 K110 Q n) K110 Q v1 v2 v3 v4 v6 v5 z0) ∧ ((¬ (z0.1 44 v6.toNatClampNeg) = (-1 : Int32)) → vp_in v6 8 ∧ vp_in (((3 : Int32) * (z0.1 44 v6.toNatClampNeg)) + v3) 120 ∧ ((¬ (z0.1 32 (((3 : Int32) * (z0.1 44 v6.toNatClampNeg)) + v3).toNatClampNeg) = v4) → J_M_breachWith_100 (L_M_breachWith_53 K110 Q n) K110 Q v1 v2 v3 v4 v6 v5 z0) ∧ (((z0.1 32 (((3 : Int32) * (z0.1 44 v6.toNatClampNeg)) + v3).toNatClampNeg) = v4) → ∀ x3 : Int32, x3 = v5 + (1 : Int32) → ∀ x4 : Int32, x4 = v6 + 1 → L_M_breachWith_53 K110 Q n v1 v2 v3 v4 x3 x4 z0)))
def J_M_breachWith_47 (K12 : Int32 → Int32 → Int32 → Int32 → St → Prop) (K178 : Int32 → Int32 → Int32 → St → Prop) (Q : Int32 → St → Prop) (v1 : Int32) (v2 : Int32) (v3 : Int32) (v4 : Int32) (z0 : St) : Prop := ∃ k53 : Nat, L_M_breachWith_53 (fun (x5 : Int32) (x6 : Int32) (x7 : Int32) (x8 : Int32) (x9 : Int32) (z10 : St) => ∀ x11 : Int32, x11 = ((4 : Int32) * x7) + x8 → vp_in x11 12 ∧ (((z10.1 35 x11.toNatClampNeg) ≤ x9) → vp_in x11 12 ∧ ((x9 ≤ (z10.1 36 x11.toNatClampNeg)) → ∀ x12 : Int32, x12 = x6 + (0 : Int32) → ∀ x13 : Int32, x13 = x8 + 1 → K12 x5 x12 x7 x13 z10) ∧ ((¬ x9 ≤ (z10.1 36 x11.toNatClampNeg)) → vp_in x11 12 ∧ ∀ x14 : Int32, x14 = x6 + (x9 - (z10.1 36 x11.toNatClampNeg)) → ∀ x15 : Int32, x15 = x8 + 1 → K12 x5 x14 x7 x15 z10)) ∧ ((¬ (z10.1 35 x11.toNatClampNeg) ≤ x9) → vp_in x11 12 ∧ ∀ x16 : Int32, x16 = x6 + ((z10.1 35 x11.toNatClampNeg) - x9) → ∀ x17 : Int32, x17 = x8 + 1 → K12 x5 x16 x7 x17 z10)) Q k53 v1 v2 v3 v4 (0 : Int32) (0 : Int32) z0
def L_M_breachWith_12 (K178 : Int32 → Int32 → Int32 → St → Prop) (Q : Int32 → St → Prop) : Nat → Int32 → Int32 → Int32 → Int32 → St → Prop
  | 0, _, _, _, _, _ => False
  | n + 1, v1, v2, v3, v4, z0 => vp_in v3 3 ∧ (((z0.1 34 v3.toNatClampNeg) ≤ v4) → K178 v1 v2 v3 z0) ∧ ((¬ (z0.1 34 v3.toNatClampNeg) ≤ v4) → ((v1 = (-1 : Int32)) → J_M_breachWith_47 (L_M_breachWith_12 K178 Q n) K178 Q v1 v2 v3 v4 z0) ∧ ((¬ v1 = (-1 : Int32)) → vp_in (((3 : Int32) * v1) + v3) 120 ∧ ((¬ (z0.1 32 (((3 : Int32) * v1) + v3).toNatClampNeg) = v4) → J_M_breachWith_47 (L_M_breachWith_12 K178 Q n) K178 Q v1 v2 v3 v4 z0) ∧ (((z0.1 32 (((3 : Int32) * v1) + v3).toNatClampNeg) = v4) → ∃ k53 : Nat, L_M_breachWith_53 (fun (x18 : Int32) (x19 : Int32) (x20 : Int32) (x21 : Int32) (x22 : Int32) (z23 : St) => ∀ x24 : Int32, x24 = ((4 : Int32) * x20) + x21 → vp_in x24 12 ∧ (((z23.1 35 x24.toNatClampNeg) ≤ x22) → vp_in x24 12 ∧ ((x22 ≤ (z23.1 36 x24.toNatClampNeg)) → ∀ x25 : Int32, x25 = x19 + (0 : Int32) → ∀ x26 : Int32, x26 = x21 + 1 → L_M_breachWith_12 K178 Q n x18 x25 x20 x26 z23) ∧ ((¬ x22 ≤ (z23.1 36 x24.toNatClampNeg)) → vp_in x24 12 ∧ ∀ x27 : Int32, x27 = x19 + (x22 - (z23.1 36 x24.toNatClampNeg)) → ∀ x28 : Int32, x28 = x21 + 1 → L_M_breachWith_12 K178 Q n x18 x27 x20 x28 z23)) ∧ ((¬ (z23.1 35 x24.toNatClampNeg) ≤ x22) → vp_in x24 12 ∧ ∀ x29 : Int32, x29 = x19 + ((z23.1 35 x24.toNatClampNeg) - x22) → ∀ x30 : Int32, x30 = x21 + 1 → L_M_breachWith_12 K178 Q n x18 x29 x20 x30 z23)) Q k53 v1 v2 v3 v4 (1 : Int32) (0 : Int32) z0)))
def L_M_breachWith_4 (Q : Int32 → St → Prop) : Nat → Int32 → Int32 → Int32 → St → Prop
  | 0, _, _, _, _ => False
  | n + 1, v1, v2, v3, z0 => (((3 : Int32) ≤ v3) → Q v2 z0) ∧ ((¬ (3 : Int32) ≤ v3) → ∃ k12 : Nat, L_M_breachWith_12 (fun (x31 : Int32) (x32 : Int32) (x33 : Int32) (z34 : St) => ∀ x35 : Int32, x35 = x33 + 1 → L_M_breachWith_4 Q n x31 x32 x35 z34) Q k12 v1 v2 v3 (0 : Int32) z0)
def P_M_breachWith (a1 : Int32) (z0 : St) (Q : Int32 → St → Prop) : Prop := ∃ k4 : Nat, L_M_breachWith_4 Q k4 a1 (0 : Int32) (0 : Int32) z0
set_option maxHeartbeats 4000000 in
set_option maxRecDepth 100000 in
theorem wJ_M_breachWith_100 {K53 : Int32 → Int32 → Int32 → Int32 → Int32 → Int32 → St → Prop} {K110 : Int32 → Int32 → Int32 → Int32 → Int32 → St → Prop} {Q : Int32 → St → Prop} (E : En p l s m meth c args cc_M_breachWith 7 R_M (some .int) G)
    (hK53 : ∀ (v1 : Int32) (v2 : Int32) (v3 : Int32) (v4 : Int32) (v5 : Int32) (v6 : Int32) (z0 : St) (ls : Array Slot) (H : Heap) (locs : List Loc), K53 v1 v2 v3 v4 v5 v6 z0 → lv_has ls 7 [(0, .ref (ha G 31)), (1, .int v1), (2, .int v2), (3, .int v3), (4, .int v4), (5, .int v5), (6, .int v6)] → Wd G z0 s.heap H locs → W p l e rm_M_breachWith s m args below meth c H locs 0 0 (MQ below (QiR Q G) args s 0 0 (fr G)) (F0 m 53 ls []))
    (hK110 : ∀ (v1 : Int32) (v2 : Int32) (v3 : Int32) (v4 : Int32) (v5 : Int32) (z0 : St) (ls : Array Slot) (H : Heap) (locs : List Loc), K110 v1 v2 v3 v4 v5 z0 → lv_has ls 7 [(0, .ref (ha G 31)), (1, .int v1), (2, .int v2), (3, .int v3), (4, .int v4), (5, .int v5)] → Wd G z0 s.heap H locs → W p l e rm_M_breachWith s m args below meth c H locs 0 0 (MQ below (QiR Q G) args s 0 0 (fr G)) (F0 m 110 ls []))
    (v1 : Int32) (v2 : Int32) (v3 : Int32) (v4 : Int32) (v6 : Int32) (t0 : Int32) (z0 : St) (ls : Array Slot) (H : Heap) (locs : List Loc) (hP : J_M_breachWith_100 K53 K110 Q v1 v2 v3 v4 v6 t0 z0) (hl : lv_has ls 7 [(0, .ref (ha G 31)), (1, .int v1), (2, .int v2), (3, .int v3), (4, .int v4), (6, .int v6)]) (hW : Wd G z0 s.heap H locs) : W p l e rm_M_breachWith s m args below meth c H locs 0 0 (MQ below (QiR Q G) args s 0 0 (fr G)) (F0 m 100 ls [.int t0]) := by
  obtain ⟨hx, hb, hml, hown, hr, hlk, hex, hE⟩ := id E
  refine lv_iconst (v := 0) hx hb d_M_breachWith_100 (by decide) ?_
  refine lv_iadd hx hb d_M_breachWith_101 ?_
  refine lv_topi (fun x1 e_x1 => ?_)
  have hP := hP x1 e_x1
  refine lv_istore (lv' := [(5, .int x1), (0, .ref (ha G 31)), (1, .int v1), (2, .int v2), (3, .int v3), (4, .int v4), (6, .int v6)]) hx hb d_M_breachWith_102 hl (by decide) rfl (fun ls hl => ?_)
  obtain ⟨x2, e_x2⟩ : ∃ z : Int32, z = v6 + 1 := ⟨_, rfl⟩
  have hP := hP x2 e_x2
  refine lv_iinc (k := 6) (lv' := [(6, .int x2), (5, .int x1), (0, .ref (ha G 31)), (1, .int v1), (2, .int v2), (3, .int v3), (4, .int v4)]) hx hb d_M_breachWith_104 hl rfl (ii_p1 e_x2) (by decide) rfl (fun ls hl => ?_)
  refine lv_goto (tgt := 53) hx hb d_M_breachWith_107 rfl ?_
  exact hK53 _ _ _ _ _ _ _ _ _ _ hP (lv_sub hl [2, 3, 4, 5, 6, 1, 0] rfl) hW
set_option maxHeartbeats 4000000 in
set_option maxRecDepth 100000 in
theorem wL_M_breachWith_53 {K110 : Int32 → Int32 → Int32 → Int32 → Int32 → St → Prop} {Q : Int32 → St → Prop} (E : En p l s m meth c args cc_M_breachWith 7 R_M (some .int) G)
    (hK110 : ∀ (v1 : Int32) (v2 : Int32) (v3 : Int32) (v4 : Int32) (v5 : Int32) (z0 : St) (ls : Array Slot) (H : Heap) (locs : List Loc), K110 v1 v2 v3 v4 v5 z0 → lv_has ls 7 [(0, .ref (ha G 31)), (1, .int v1), (2, .int v2), (3, .int v3), (4, .int v4), (5, .int v5)] → Wd G z0 s.heap H locs → W p l e rm_M_breachWith s m args below meth c H locs 0 0 (MQ below (QiR Q G) args s 0 0 (fr G)) (F0 m 110 ls [])) :
    ∀ (n : Nat) (v1 : Int32) (v2 : Int32) (v3 : Int32) (v4 : Int32) (v5 : Int32) (v6 : Int32) (z0 : St) (ls : Array Slot) (H : Heap) (locs : List Loc), L_M_breachWith_53 K110 Q n v1 v2 v3 v4 v5 v6 z0 → lv_has ls 7 [(0, .ref (ha G 31)), (1, .int v1), (2, .int v2), (3, .int v3), (4, .int v4), (5, .int v5), (6, .int v6)] → Wd G z0 s.heap H locs → W p l e rm_M_breachWith s m args below meth c H locs 0 0 (MQ below (QiR Q G) args s 0 0 (fr G)) (F0 m 53 ls []) := by
  obtain ⟨hx, hb, hml, hown, hr, hlk, hex, hE⟩ := id E
  intro n
  induction n with
  | zero => exact fun _ _ _ _ _ _ _ _ _ _ hP _ _ => hP.elim
  | succ n ih =>
    intro v1 v2 v3 v4 v5 v6 z0 ls H locs hP hl hW
    refine lv_iload hx hb d_M_breachWith_53 (lv_at hl 6 rfl) ?_
    refine lv_aload_n hx hb d_M_breachWith_55 rfl (lv_at hl 0 rfl) ?_
    refine ygf_31_7 hx hb hown hE hW (lk_M_26 hE) d_M_breachWith_56 ?_
    refine lv_icmp_ge (tgt := 110) hx hb d_M_breachWith_59 rfl (fun hc => ?_) (fun hc => ?_)
    · have hP := hP.1 hc
      exact hK110 _ _ _ _ _ _ _ _ _ hP (lv_sub hl [0, 1, 2, 3, 4, 5] rfl) hW
    · have hP := hP.2 hc
      refine lv_iload hx hb d_M_breachWith_62 (lv_at hl 5 rfl) ?_
      refine lv_aload_n hx hb d_M_breachWith_64 rfl (lv_at hl 0 rfl) ?_
      refine ygf_31_20 hx hb hown hE hW (lk_M_52 hE) d_M_breachWith_65 ?_
      refine lv_iload hx hb d_M_breachWith_68 (lv_at hl 6 rfl) ?_
      refine ya_44 hx hb hE hW hP.1 d_M_breachWith_70 ?_
      have hP := hP.2
      refine lv_iconst (v := -1) hx hb d_M_breachWith_71 (by decide) ?_
      refine lv_icmp_eq (tgt := 100) hx hb d_M_breachWith_72 rfl (fun hc => ?_) (fun hc => ?_)
      · have hP := hP.1 hc
        exact wJ_M_breachWith_100 E ih hK110 _ _ _ _ _ _ _ _ _ _ hP (lv_sub hl [0, 1, 2, 3, 4, 6] rfl) hW
      · have hP := hP.2 hc
        refine lv_aload_n hx hb d_M_breachWith_75 rfl (lv_at hl 0 rfl) ?_
        refine ygf_31_2 hx hb hown hE hW (lk_M_7 hE) d_M_breachWith_76 ?_
        refine lv_iconst (v := 3) hx hb d_M_breachWith_79 (by decide) ?_
        refine lv_aload_n hx hb d_M_breachWith_80 rfl (lv_at hl 0 rfl) ?_
        refine ygf_31_20 hx hb hown hE hW (lk_M_52 hE) d_M_breachWith_81 ?_
        refine lv_iload hx hb d_M_breachWith_84 (lv_at hl 6 rfl) ?_
        refine ya_44 hx hb hE hW hP.1 d_M_breachWith_86 ?_
        have hP := hP.2
        refine lv_imul hx hb d_M_breachWith_87 ?_
        refine lv_iload_n hx hb d_M_breachWith_88 rfl (lv_at hl 3 rfl) ?_
        refine lv_iadd hx hb d_M_breachWith_89 ?_
        refine ya_32 hx hb hE hW hP.1 d_M_breachWith_90 ?_
        have hP := hP.2
        refine lv_iload hx hb d_M_breachWith_91 (lv_at hl 4 rfl) ?_
        refine lv_icmp_ne (tgt := 100) hx hb d_M_breachWith_93 rfl (fun hc => ?_) (fun hc => ?_)
        · have hP := hP.1 hc
          exact wJ_M_breachWith_100 E ih hK110 _ _ _ _ _ _ _ _ _ _ hP (lv_sub hl [0, 1, 2, 3, 4, 6] rfl) hW
        · have hP := hP.2 hc
          refine lv_iconst (v := 1) hx hb d_M_breachWith_96 (by decide) ?_
          refine lv_goto (tgt := 101) hx hb d_M_breachWith_97 rfl ?_
          refine lv_iadd hx hb d_M_breachWith_101 ?_
          refine lv_topi (fun x3 e_x3 => ?_)
          have hP := hP x3 e_x3
          refine lv_istore (lv' := [(5, .int x3), (0, .ref (ha G 31)), (1, .int v1), (2, .int v2), (3, .int v3), (4, .int v4), (6, .int v6)]) hx hb d_M_breachWith_102 hl (by decide) rfl (fun ls hl => ?_)
          obtain ⟨x4, e_x4⟩ : ∃ z : Int32, z = v6 + 1 := ⟨_, rfl⟩
          have hP := hP x4 e_x4
          refine lv_iinc (k := 6) (lv' := [(6, .int x4), (5, .int x3), (0, .ref (ha G 31)), (1, .int v1), (2, .int v2), (3, .int v3), (4, .int v4)]) hx hb d_M_breachWith_104 hl rfl (ii_p1 e_x4) (by decide) rfl (fun ls hl => ?_)
          refine lv_goto (tgt := 53) hx hb d_M_breachWith_107 rfl ?_
          exact ih _ _ _ _ _ _ _ _ _ _ hP (lv_sub hl [2, 3, 4, 5, 6, 1, 0] rfl) hW
set_option maxHeartbeats 4000000 in
set_option maxRecDepth 100000 in
theorem wJ_M_breachWith_47 {K12 : Int32 → Int32 → Int32 → Int32 → St → Prop} {K178 : Int32 → Int32 → Int32 → St → Prop} {Q : Int32 → St → Prop} (E : En p l s m meth c args cc_M_breachWith 7 R_M (some .int) G)
    (hK12 : ∀ (v1 : Int32) (v2 : Int32) (v3 : Int32) (v4 : Int32) (z0 : St) (ls : Array Slot) (H : Heap) (locs : List Loc), K12 v1 v2 v3 v4 z0 → lv_has ls 7 [(0, .ref (ha G 31)), (1, .int v1), (2, .int v2), (3, .int v3), (4, .int v4)] → Wd G z0 s.heap H locs → W p l e rm_M_breachWith s m args below meth c H locs 0 0 (MQ below (QiR Q G) args s 0 0 (fr G)) (F0 m 12 ls []))
    (hK178 : ∀ (v1 : Int32) (v2 : Int32) (v3 : Int32) (z0 : St) (ls : Array Slot) (H : Heap) (locs : List Loc), K178 v1 v2 v3 z0 → lv_has ls 7 [(0, .ref (ha G 31)), (1, .int v1), (2, .int v2), (3, .int v3)] → Wd G z0 s.heap H locs → W p l e rm_M_breachWith s m args below meth c H locs 0 0 (MQ below (QiR Q G) args s 0 0 (fr G)) (F0 m 178 ls []))
    (v1 : Int32) (v2 : Int32) (v3 : Int32) (v4 : Int32) (z0 : St) (ls : Array Slot) (H : Heap) (locs : List Loc) (hP : J_M_breachWith_47 K12 K178 Q v1 v2 v3 v4 z0) (hl : lv_has ls 7 [(0, .ref (ha G 31)), (1, .int v1), (2, .int v2), (3, .int v3), (4, .int v4)]) (hW : Wd G z0 s.heap H locs) : W p l e rm_M_breachWith s m args below meth c H locs 0 0 (MQ below (QiR Q G) args s 0 0 (fr G)) (F0 m 47 ls []) := by
  obtain ⟨hx, hb, hml, hown, hr, hlk, hex, hE⟩ := id E
  refine lv_iconst (v := 0) hx hb d_M_breachWith_47 (by decide) ?_
  refine lv_istore (lv' := [(5, .int (0 : Int32)), (0, .ref (ha G 31)), (1, .int v1), (2, .int v2), (3, .int v3), (4, .int v4)]) hx hb d_M_breachWith_48 hl (by decide) rfl (fun ls hl => ?_)
  refine lv_iconst (v := 0) hx hb d_M_breachWith_50 (by decide) ?_
  refine lv_istore (lv' := [(6, .int (0 : Int32)), (5, .int (0 : Int32)), (0, .ref (ha G 31)), (1, .int v1), (2, .int v2), (3, .int v3), (4, .int v4)]) hx hb d_M_breachWith_51 hl (by decide) rfl (fun ls hl => ?_)
  obtain ⟨n2, hP⟩ := hP
  refine wL_M_breachWith_53 E ?_ n2 _ _ _ _ _ _ _ _ _ _ hP (lv_sub hl [2, 3, 4, 5, 6, 1, 0] rfl) hW
  · intro x5 x6 x7 x8 x9 z10 ls H locs hP hl hW
    refine lv_iconst (v := 4) hx hb d_M_breachWith_110 (by decide) ?_
    refine lv_iload_n hx hb d_M_breachWith_111 rfl (lv_at hl 3 rfl) ?_
    refine lv_imul hx hb d_M_breachWith_112 ?_
    refine lv_iload hx hb d_M_breachWith_113 (lv_at hl 4 rfl) ?_
    refine lv_iadd hx hb d_M_breachWith_115 ?_
    refine lv_topi (fun x11 e_x11 => ?_)
    have hP := hP x11 e_x11
    refine lv_istore (lv' := [(6, .int x11), (0, .ref (ha G 31)), (1, .int x5), (2, .int x6), (3, .int x7), (4, .int x8), (5, .int x9)]) hx hb d_M_breachWith_116 hl (by decide) rfl (fun ls hl => ?_)
    refine lv_iload_n hx hb d_M_breachWith_118 rfl (lv_at hl 3 rfl) ?_
    refine lv_iload hx hb d_M_breachWith_119 (lv_at hl 6 rfl) ?_
    refine lv_aload_n hx hb d_M_breachWith_121 rfl (lv_at hl 1 rfl) ?_
    refine ygf_31_5 hx hb hown hE hW (lk_M_20 hE) d_M_breachWith_122 ?_
    refine lv_iload hx hb d_M_breachWith_125 (lv_at hl 0 rfl) ?_
    refine ya_35 hx hb hE hW hP.1 d_M_breachWith_127 ?_
    have hP := hP.2
    refine lv_icmp_ge (tgt := 144) hx hb d_M_breachWith_128 rfl (fun hc => ?_) (fun hc => ?_)
    · have hP := hP.1 hc
      refine lv_iload hx hb d_M_breachWith_144 (lv_at hl 6 rfl) ?_
      refine lv_aload_n hx hb d_M_breachWith_146 rfl (lv_at hl 1 rfl) ?_
      refine ygf_31_6 hx hb hown hE hW (lk_M_23 hE) d_M_breachWith_147 ?_
      refine lv_iload hx hb d_M_breachWith_150 (lv_at hl 0 rfl) ?_
      refine ya_36 hx hb hE hW hP.1 d_M_breachWith_152 ?_
      have hP := hP.2
      refine lv_icmp_le (tgt := 169) hx hb d_M_breachWith_153 rfl (fun hc => ?_) (fun hc => ?_)
      · have hP := hP.1 hc
        refine lv_iconst (v := 0) hx hb d_M_breachWith_169 (by decide) ?_
        refine lv_iadd hx hb d_M_breachWith_170 ?_
        refine lv_topi (fun x12 e_x12 => ?_)
        have hP := hP x12 e_x12
        refine lv_istore_n (lv' := [(2, .int x12), (6, .int x11), (0, .ref (ha G 31)), (1, .int x5), (3, .int x7), (4, .int x8), (5, .int x9)]) hx hb d_M_breachWith_171 rfl hl (by decide) rfl (fun ls hl => ?_)
        obtain ⟨x13, e_x13⟩ : ∃ z : Int32, z = x8 + 1 := ⟨_, rfl⟩
        have hP := hP x13 e_x13
        refine lv_iinc (k := 5) (lv' := [(4, .int x13), (2, .int x12), (6, .int x11), (0, .ref (ha G 31)), (1, .int x5), (3, .int x7), (5, .int x9)]) hx hb d_M_breachWith_172 hl rfl (ii_p1 e_x13) (by decide) rfl (fun ls hl => ?_)
        refine lv_goto (tgt := 12) hx hb d_M_breachWith_175 rfl ?_
        exact hK12 _ _ _ _ _ _ _ _ hP (lv_sub hl [3, 4, 1, 5, 0] rfl) hW
      · have hP := hP.2 hc
        refine lv_iload hx hb d_M_breachWith_156 (lv_at hl 6 rfl) ?_
        refine lv_aload_n hx hb d_M_breachWith_158 rfl (lv_at hl 1 rfl) ?_
        refine ygf_31_6 hx hb hown hE hW (lk_M_23 hE) d_M_breachWith_159 ?_
        refine lv_iload hx hb d_M_breachWith_162 (lv_at hl 0 rfl) ?_
        refine ya_36 hx hb hE hW hP.1 d_M_breachWith_164 ?_
        have hP := hP.2
        refine lv_isub hx hb d_M_breachWith_165 ?_
        refine lv_goto (tgt := 170) hx hb d_M_breachWith_166 rfl ?_
        refine lv_iadd hx hb d_M_breachWith_170 ?_
        refine lv_topi (fun x14 e_x14 => ?_)
        have hP := hP x14 e_x14
        refine lv_istore_n (lv' := [(2, .int x14), (6, .int x11), (0, .ref (ha G 31)), (1, .int x5), (3, .int x7), (4, .int x8), (5, .int x9)]) hx hb d_M_breachWith_171 rfl hl (by decide) rfl (fun ls hl => ?_)
        obtain ⟨x15, e_x15⟩ : ∃ z : Int32, z = x8 + 1 := ⟨_, rfl⟩
        have hP := hP x15 e_x15
        refine lv_iinc (k := 5) (lv' := [(4, .int x15), (2, .int x14), (6, .int x11), (0, .ref (ha G 31)), (1, .int x5), (3, .int x7), (5, .int x9)]) hx hb d_M_breachWith_172 hl rfl (ii_p1 e_x15) (by decide) rfl (fun ls hl => ?_)
        refine lv_goto (tgt := 12) hx hb d_M_breachWith_175 rfl ?_
        exact hK12 _ _ _ _ _ _ _ _ hP (lv_sub hl [3, 4, 1, 5, 0] rfl) hW
    · have hP := hP.2 hc
      refine lv_aload_n hx hb d_M_breachWith_131 rfl (lv_at hl 1 rfl) ?_
      refine ygf_31_5 hx hb hown hE hW (lk_M_20 hE) d_M_breachWith_132 ?_
      refine lv_iload hx hb d_M_breachWith_135 (lv_at hl 0 rfl) ?_
      refine ya_35 hx hb hE hW hP.1 d_M_breachWith_137 ?_
      have hP := hP.2
      refine lv_iload hx hb d_M_breachWith_138 (lv_at hl 6 rfl) ?_
      refine lv_isub hx hb d_M_breachWith_140 ?_
      refine lv_goto (tgt := 170) hx hb d_M_breachWith_141 rfl ?_
      refine lv_iadd hx hb d_M_breachWith_170 ?_
      refine lv_topi (fun x16 e_x16 => ?_)
      have hP := hP x16 e_x16
      refine lv_istore_n (lv' := [(2, .int x16), (6, .int x11), (0, .ref (ha G 31)), (1, .int x5), (3, .int x7), (4, .int x8), (5, .int x9)]) hx hb d_M_breachWith_171 rfl hl (by decide) rfl (fun ls hl => ?_)
      obtain ⟨x17, e_x17⟩ : ∃ z : Int32, z = x8 + 1 := ⟨_, rfl⟩
      have hP := hP x17 e_x17
      refine lv_iinc (k := 5) (lv' := [(4, .int x17), (2, .int x16), (6, .int x11), (0, .ref (ha G 31)), (1, .int x5), (3, .int x7), (5, .int x9)]) hx hb d_M_breachWith_172 hl rfl (ii_p1 e_x17) (by decide) rfl (fun ls hl => ?_)
      refine lv_goto (tgt := 12) hx hb d_M_breachWith_175 rfl ?_
      exact hK12 _ _ _ _ _ _ _ _ hP (lv_sub hl [3, 4, 1, 5, 0] rfl) hW
set_option maxHeartbeats 4000000 in
set_option maxRecDepth 100000 in
theorem wL_M_breachWith_12 {K178 : Int32 → Int32 → Int32 → St → Prop} {Q : Int32 → St → Prop} (E : En p l s m meth c args cc_M_breachWith 7 R_M (some .int) G)
    (hK178 : ∀ (v1 : Int32) (v2 : Int32) (v3 : Int32) (z0 : St) (ls : Array Slot) (H : Heap) (locs : List Loc), K178 v1 v2 v3 z0 → lv_has ls 7 [(0, .ref (ha G 31)), (1, .int v1), (2, .int v2), (3, .int v3)] → Wd G z0 s.heap H locs → W p l e rm_M_breachWith s m args below meth c H locs 0 0 (MQ below (QiR Q G) args s 0 0 (fr G)) (F0 m 178 ls [])) :
    ∀ (n : Nat) (v1 : Int32) (v2 : Int32) (v3 : Int32) (v4 : Int32) (z0 : St) (ls : Array Slot) (H : Heap) (locs : List Loc), L_M_breachWith_12 K178 Q n v1 v2 v3 v4 z0 → lv_has ls 7 [(0, .ref (ha G 31)), (1, .int v1), (2, .int v2), (3, .int v3), (4, .int v4)] → Wd G z0 s.heap H locs → W p l e rm_M_breachWith s m args below meth c H locs 0 0 (MQ below (QiR Q G) args s 0 0 (fr G)) (F0 m 12 ls []) := by
  obtain ⟨hx, hb, hml, hown, hr, hlk, hex, hE⟩ := id E
  intro n
  induction n with
  | zero => exact fun _ _ _ _ _ _ _ _ hP _ _ => hP.elim
  | succ n ih =>
    intro v1 v2 v3 v4 z0 ls H locs hP hl hW
    refine lv_iload hx hb d_M_breachWith_12 (lv_at hl 4 rfl) ?_
    refine lv_aload_n hx hb d_M_breachWith_14 rfl (lv_at hl 0 rfl) ?_
    refine ygf_31_4 hx hb hown hE hW (lk_M_17 hE) d_M_breachWith_15 ?_
    refine lv_iload_n hx hb d_M_breachWith_18 rfl (lv_at hl 3 rfl) ?_
    refine ya_34 hx hb hE hW hP.1 d_M_breachWith_19 ?_
    have hP := hP.2
    refine lv_icmp_ge (tgt := 178) hx hb d_M_breachWith_20 rfl (fun hc => ?_) (fun hc => ?_)
    · have hP := hP.1 hc
      exact hK178 _ _ _ _ _ _ _ hP (lv_sub hl [0, 1, 2, 3] rfl) hW
    · have hP := hP.2 hc
      refine lv_iload_n hx hb d_M_breachWith_23 rfl (lv_at hl 1 rfl) ?_
      refine lv_iconst (v := -1) hx hb d_M_breachWith_24 (by decide) ?_
      refine lv_icmp_eq (tgt := 47) hx hb d_M_breachWith_25 rfl (fun hc => ?_) (fun hc => ?_)
      · have hP := hP.1 hc
        exact wJ_M_breachWith_47 E ih hK178 _ _ _ _ _ _ _ _ hP hl hW
      · have hP := hP.2 hc
        refine lv_aload_n hx hb d_M_breachWith_28 rfl (lv_at hl 0 rfl) ?_
        refine ygf_31_2 hx hb hown hE hW (lk_M_7 hE) d_M_breachWith_29 ?_
        refine lv_iconst (v := 3) hx hb d_M_breachWith_32 (by decide) ?_
        refine lv_iload_n hx hb d_M_breachWith_33 rfl (lv_at hl 1 rfl) ?_
        refine lv_imul hx hb d_M_breachWith_34 ?_
        refine lv_iload_n hx hb d_M_breachWith_35 rfl (lv_at hl 3 rfl) ?_
        refine lv_iadd hx hb d_M_breachWith_36 ?_
        refine ya_32 hx hb hE hW hP.1 d_M_breachWith_37 ?_
        have hP := hP.2
        refine lv_iload hx hb d_M_breachWith_38 (lv_at hl 4 rfl) ?_
        refine lv_icmp_ne (tgt := 47) hx hb d_M_breachWith_40 rfl (fun hc => ?_) (fun hc => ?_)
        · have hP := hP.1 hc
          exact wJ_M_breachWith_47 E ih hK178 _ _ _ _ _ _ _ _ hP hl hW
        · have hP := hP.2 hc
          refine lv_iconst (v := 1) hx hb d_M_breachWith_43 (by decide) ?_
          refine lv_goto (tgt := 48) hx hb d_M_breachWith_44 rfl ?_
          refine lv_istore (lv' := [(5, .int (1 : Int32)), (0, .ref (ha G 31)), (1, .int v1), (2, .int v2), (3, .int v3), (4, .int v4)]) hx hb d_M_breachWith_48 hl (by decide) rfl (fun ls hl => ?_)
          refine lv_iconst (v := 0) hx hb d_M_breachWith_50 (by decide) ?_
          refine lv_istore (lv' := [(6, .int (0 : Int32)), (5, .int (1 : Int32)), (0, .ref (ha G 31)), (1, .int v1), (2, .int v2), (3, .int v3), (4, .int v4)]) hx hb d_M_breachWith_51 hl (by decide) rfl (fun ls hl => ?_)
          obtain ⟨n2, hP⟩ := hP
          refine wL_M_breachWith_53 E ?_ n2 _ _ _ _ _ _ _ _ _ _ hP (lv_sub hl [2, 3, 4, 5, 6, 1, 0] rfl) hW
          · intro x18 x19 x20 x21 x22 z23 ls H locs hP hl hW
            refine lv_iconst (v := 4) hx hb d_M_breachWith_110 (by decide) ?_
            refine lv_iload_n hx hb d_M_breachWith_111 rfl (lv_at hl 3 rfl) ?_
            refine lv_imul hx hb d_M_breachWith_112 ?_
            refine lv_iload hx hb d_M_breachWith_113 (lv_at hl 4 rfl) ?_
            refine lv_iadd hx hb d_M_breachWith_115 ?_
            refine lv_topi (fun x24 e_x24 => ?_)
            have hP := hP x24 e_x24
            refine lv_istore (lv' := [(6, .int x24), (0, .ref (ha G 31)), (1, .int x18), (2, .int x19), (3, .int x20), (4, .int x21), (5, .int x22)]) hx hb d_M_breachWith_116 hl (by decide) rfl (fun ls hl => ?_)
            refine lv_iload_n hx hb d_M_breachWith_118 rfl (lv_at hl 3 rfl) ?_
            refine lv_iload hx hb d_M_breachWith_119 (lv_at hl 6 rfl) ?_
            refine lv_aload_n hx hb d_M_breachWith_121 rfl (lv_at hl 1 rfl) ?_
            refine ygf_31_5 hx hb hown hE hW (lk_M_20 hE) d_M_breachWith_122 ?_
            refine lv_iload hx hb d_M_breachWith_125 (lv_at hl 0 rfl) ?_
            refine ya_35 hx hb hE hW hP.1 d_M_breachWith_127 ?_
            have hP := hP.2
            refine lv_icmp_ge (tgt := 144) hx hb d_M_breachWith_128 rfl (fun hc => ?_) (fun hc => ?_)
            · have hP := hP.1 hc
              refine lv_iload hx hb d_M_breachWith_144 (lv_at hl 6 rfl) ?_
              refine lv_aload_n hx hb d_M_breachWith_146 rfl (lv_at hl 1 rfl) ?_
              refine ygf_31_6 hx hb hown hE hW (lk_M_23 hE) d_M_breachWith_147 ?_
              refine lv_iload hx hb d_M_breachWith_150 (lv_at hl 0 rfl) ?_
              refine ya_36 hx hb hE hW hP.1 d_M_breachWith_152 ?_
              have hP := hP.2
              refine lv_icmp_le (tgt := 169) hx hb d_M_breachWith_153 rfl (fun hc => ?_) (fun hc => ?_)
              · have hP := hP.1 hc
                refine lv_iconst (v := 0) hx hb d_M_breachWith_169 (by decide) ?_
                refine lv_iadd hx hb d_M_breachWith_170 ?_
                refine lv_topi (fun x25 e_x25 => ?_)
                have hP := hP x25 e_x25
                refine lv_istore_n (lv' := [(2, .int x25), (6, .int x24), (0, .ref (ha G 31)), (1, .int x18), (3, .int x20), (4, .int x21), (5, .int x22)]) hx hb d_M_breachWith_171 rfl hl (by decide) rfl (fun ls hl => ?_)
                obtain ⟨x26, e_x26⟩ : ∃ z : Int32, z = x21 + 1 := ⟨_, rfl⟩
                have hP := hP x26 e_x26
                refine lv_iinc (k := 5) (lv' := [(4, .int x26), (2, .int x25), (6, .int x24), (0, .ref (ha G 31)), (1, .int x18), (3, .int x20), (5, .int x22)]) hx hb d_M_breachWith_172 hl rfl (ii_p1 e_x26) (by decide) rfl (fun ls hl => ?_)
                refine lv_goto (tgt := 12) hx hb d_M_breachWith_175 rfl ?_
                exact ih _ _ _ _ _ _ _ _ hP (lv_sub hl [3, 4, 1, 5, 0] rfl) hW
              · have hP := hP.2 hc
                refine lv_iload hx hb d_M_breachWith_156 (lv_at hl 6 rfl) ?_
                refine lv_aload_n hx hb d_M_breachWith_158 rfl (lv_at hl 1 rfl) ?_
                refine ygf_31_6 hx hb hown hE hW (lk_M_23 hE) d_M_breachWith_159 ?_
                refine lv_iload hx hb d_M_breachWith_162 (lv_at hl 0 rfl) ?_
                refine ya_36 hx hb hE hW hP.1 d_M_breachWith_164 ?_
                have hP := hP.2
                refine lv_isub hx hb d_M_breachWith_165 ?_
                refine lv_goto (tgt := 170) hx hb d_M_breachWith_166 rfl ?_
                refine lv_iadd hx hb d_M_breachWith_170 ?_
                refine lv_topi (fun x27 e_x27 => ?_)
                have hP := hP x27 e_x27
                refine lv_istore_n (lv' := [(2, .int x27), (6, .int x24), (0, .ref (ha G 31)), (1, .int x18), (3, .int x20), (4, .int x21), (5, .int x22)]) hx hb d_M_breachWith_171 rfl hl (by decide) rfl (fun ls hl => ?_)
                obtain ⟨x28, e_x28⟩ : ∃ z : Int32, z = x21 + 1 := ⟨_, rfl⟩
                have hP := hP x28 e_x28
                refine lv_iinc (k := 5) (lv' := [(4, .int x28), (2, .int x27), (6, .int x24), (0, .ref (ha G 31)), (1, .int x18), (3, .int x20), (5, .int x22)]) hx hb d_M_breachWith_172 hl rfl (ii_p1 e_x28) (by decide) rfl (fun ls hl => ?_)
                refine lv_goto (tgt := 12) hx hb d_M_breachWith_175 rfl ?_
                exact ih _ _ _ _ _ _ _ _ hP (lv_sub hl [3, 4, 1, 5, 0] rfl) hW
            · have hP := hP.2 hc
              refine lv_aload_n hx hb d_M_breachWith_131 rfl (lv_at hl 1 rfl) ?_
              refine ygf_31_5 hx hb hown hE hW (lk_M_20 hE) d_M_breachWith_132 ?_
              refine lv_iload hx hb d_M_breachWith_135 (lv_at hl 0 rfl) ?_
              refine ya_35 hx hb hE hW hP.1 d_M_breachWith_137 ?_
              have hP := hP.2
              refine lv_iload hx hb d_M_breachWith_138 (lv_at hl 6 rfl) ?_
              refine lv_isub hx hb d_M_breachWith_140 ?_
              refine lv_goto (tgt := 170) hx hb d_M_breachWith_141 rfl ?_
              refine lv_iadd hx hb d_M_breachWith_170 ?_
              refine lv_topi (fun x29 e_x29 => ?_)
              have hP := hP x29 e_x29
              refine lv_istore_n (lv' := [(2, .int x29), (6, .int x24), (0, .ref (ha G 31)), (1, .int x18), (3, .int x20), (4, .int x21), (5, .int x22)]) hx hb d_M_breachWith_171 rfl hl (by decide) rfl (fun ls hl => ?_)
              obtain ⟨x30, e_x30⟩ : ∃ z : Int32, z = x21 + 1 := ⟨_, rfl⟩
              have hP := hP x30 e_x30
              refine lv_iinc (k := 5) (lv' := [(4, .int x30), (2, .int x29), (6, .int x24), (0, .ref (ha G 31)), (1, .int x18), (3, .int x20), (5, .int x22)]) hx hb d_M_breachWith_172 hl rfl (ii_p1 e_x30) (by decide) rfl (fun ls hl => ?_)
              refine lv_goto (tgt := 12) hx hb d_M_breachWith_175 rfl ?_
              exact ih _ _ _ _ _ _ _ _ hP (lv_sub hl [3, 4, 1, 5, 0] rfl) hW
set_option maxHeartbeats 4000000 in
set_option maxRecDepth 100000 in
theorem wL_M_breachWith_4 {Q : Int32 → St → Prop} (E : En p l s m meth c args cc_M_breachWith 7 R_M (some .int) G) :
    ∀ (n : Nat) (v1 : Int32) (v2 : Int32) (v3 : Int32) (z0 : St) (ls : Array Slot) (H : Heap) (locs : List Loc), L_M_breachWith_4 Q n v1 v2 v3 z0 → lv_has ls 7 [(0, .ref (ha G 31)), (1, .int v1), (2, .int v2), (3, .int v3)] → Wd G z0 s.heap H locs → W p l e rm_M_breachWith s m args below meth c H locs 0 0 (MQ below (QiR Q G) args s 0 0 (fr G)) (F0 m 4 ls []) := by
  obtain ⟨hx, hb, hml, hown, hr, hlk, hex, hE⟩ := id E
  intro n
  induction n with
  | zero => exact fun _ _ _ _ _ _ _ hP _ _ => hP.elim
  | succ n ih =>
    intro v1 v2 v3 z0 ls H locs hP hl hW
    refine lv_iload_n hx hb d_M_breachWith_4 rfl (lv_at hl 3 rfl) ?_
    refine lv_iconst (v := 3) hx hb d_M_breachWith_5 (by decide) ?_
    refine lv_icmp_ge (tgt := 184) hx hb d_M_breachWith_6 rfl (fun hc => ?_) (fun hc => ?_)
    · have hP := hP.1 hc
      refine lv_iload_n hx hb d_M_breachWith_184 rfl (lv_at hl 2 rfl) ?_
      exact yr_i hx hb hr hlk hW hP d_M_breachWith_185
    · have hP := hP.2 hc
      refine lv_iconst (v := 0) hx hb d_M_breachWith_9 (by decide) ?_
      refine lv_istore (lv' := [(4, .int (0 : Int32)), (0, .ref (ha G 31)), (1, .int v1), (2, .int v2), (3, .int v3)]) hx hb d_M_breachWith_10 hl (by decide) rfl (fun ls hl => ?_)
      obtain ⟨n2, hP⟩ := hP
      refine wL_M_breachWith_12 E ?_ n2 _ _ _ _ _ _ _ _ hP (lv_sub hl [1, 2, 3, 4, 0] rfl) hW
      · intro x31 x32 x33 z34 ls H locs hP hl hW
        obtain ⟨x35, e_x35⟩ : ∃ z : Int32, z = x33 + 1 := ⟨_, rfl⟩
        have hP := hP x35 e_x35
        refine lv_iinc (k := 3) (lv' := [(3, .int x35), (0, .ref (ha G 31)), (1, .int x31), (2, .int x32)]) hx hb d_M_breachWith_178 hl rfl (ii_p1 e_x35) (by decide) rfl (fun ls hl => ?_)
        refine lv_goto (tgt := 4) hx hb d_M_breachWith_181 rfl ?_
        exact ih _ _ _ _ _ _ _ hP (lv_sub hl [1, 2, 3, 0] rfl) hW
set_option maxHeartbeats 4000000 in
set_option maxRecDepth 100000 in
theorem c_M_breachWith {l : Launch} {G : GG} (a1 : Int32) (z0 : St) (Q : Int32 → St → Prop) (hP : P_M_breachWith a1 z0 Q) : Cti l y_M_breachWith cc_M_breachWith 7 (some .int) rm_M_breachWith G [.ref (ha G 31), .int a1] z0 Q := by
  refine Cti.op (own := R_M) (by decide) rfl (Nat.le_of_ble_eq_true rfl) (fun p e s m args below meth c ls E hl hW => ?_)
  obtain ⟨hx, hb, hml, hown, hr, hlk, hex, hE⟩ := id E
  have hl : lv_has ls 7 [(0, .ref (ha G 31)), (1, .int a1)] := hl
  refine lv_iconst (v := 0) hx hb d_M_breachWith_0 (by decide) ?_
  refine lv_istore_n (lv' := [(2, .int (0 : Int32)), (0, .ref (ha G 31)), (1, .int a1)]) hx hb d_M_breachWith_1 rfl hl (by decide) rfl (fun ls hl => ?_)
  refine lv_iconst (v := 0) hx hb d_M_breachWith_2 (by decide) ?_
  refine lv_istore_n (lv' := [(3, .int (0 : Int32)), (2, .int (0 : Int32)), (0, .ref (ha G 31)), (1, .int a1)]) hx hb d_M_breachWith_3 rfl hl (by decide) rfl (fun ls hl => ?_)
  obtain ⟨n2, hP⟩ := hP
  refine wL_M_breachWith_4 E n2 _ _ _ _ _ _ _ hP (lv_sub hl [2, 3, 1, 0] rfl) hW
theorem d_M_leastBreach_0 : decode cc_M_leastBreach 0 = .ok (.iconst (-1), 1) := by decide +kernel
theorem d_M_leastBreach_1 : decode cc_M_leastBreach 1 = .ok (.istore_n 1, 1) := by decide +kernel
theorem d_M_leastBreach_2 : decode cc_M_leastBreach 2 = .ok (.iconst 0, 1) := by decide +kernel
theorem d_M_leastBreach_3 : decode cc_M_leastBreach 3 = .ok (.istore_n 2, 1) := by decide +kernel
theorem d_M_leastBreach_4 : decode cc_M_leastBreach 4 = .ok (.iload_n 2, 1) := by decide +kernel
theorem d_M_leastBreach_5 : decode cc_M_leastBreach 5 = .ok (.aload_n 0, 1) := by decide +kernel
theorem d_M_leastBreach_6 : decode cc_M_leastBreach 6 = .ok (.getfield 76, 3) := by decide +kernel
theorem d_M_leastBreach_9 : decode cc_M_leastBreach 9 = .ok (.if_icmp .ge 52, 3) := by decide +kernel
theorem d_M_leastBreach_12 : decode cc_M_leastBreach 12 = .ok (.aload_n 0, 1) := by decide +kernel
theorem d_M_leastBreach_13 : decode cc_M_leastBreach 13 = .ok (.getfield 58, 3) := by decide +kernel
theorem d_M_leastBreach_16 : decode cc_M_leastBreach 16 = .ok (.iload_n 2, 1) := by decide +kernel
theorem d_M_leastBreach_17 : decode cc_M_leastBreach 17 = .ok (.baload, 1) := by decide +kernel
theorem d_M_leastBreach_18 : decode cc_M_leastBreach 18 = .ok (.ifCond .ne 37, 3) := by decide +kernel
theorem d_M_leastBreach_21 : decode cc_M_leastBreach 21 = .ok (.aload_n 0, 1) := by decide +kernel
theorem d_M_leastBreach_22 : decode cc_M_leastBreach 22 = .ok (.iload_n 2, 1) := by decide +kernel
theorem d_M_leastBreach_23 : decode cc_M_leastBreach 23 = .ok (.invokevirtual 215, 3) := by decide +kernel
theorem d_M_leastBreach_26 : decode cc_M_leastBreach 26 = .ok (.iconst (-1), 1) := by decide +kernel
theorem d_M_leastBreach_27 : decode cc_M_leastBreach 27 = .ok (.if_icmp .eq 6, 3) := by decide +kernel
theorem d_M_leastBreach_30 : decode cc_M_leastBreach 30 = .ok (.goto 25, 3) := by decide +kernel
theorem d_M_leastBreach_33 : decode cc_M_leastBreach 33 = .ok (.aload_n 0, 1) := by decide +kernel
theorem d_M_leastBreach_34 : decode cc_M_leastBreach 34 = .ok (.iload_n 2, 1) := by decide +kernel
theorem d_M_leastBreach_35 : decode cc_M_leastBreach 35 = .ok (.invokevirtual 218, 3) := by decide +kernel
theorem d_M_leastBreach_38 : decode cc_M_leastBreach 38 = .ok (.istore_n 3, 1) := by decide +kernel
theorem d_M_leastBreach_39 : decode cc_M_leastBreach 39 = .ok (.iload_n 1, 1) := by decide +kernel
theorem d_M_leastBreach_40 : decode cc_M_leastBreach 40 = .ok (.iconst (-1), 1) := by decide +kernel
theorem d_M_leastBreach_41 : decode cc_M_leastBreach 41 = .ok (.if_icmp .eq 8, 3) := by decide +kernel
theorem d_M_leastBreach_44 : decode cc_M_leastBreach 44 = .ok (.iload_n 3, 1) := by decide +kernel
theorem d_M_leastBreach_45 : decode cc_M_leastBreach 45 = .ok (.iload_n 1, 1) := by decide +kernel
theorem d_M_leastBreach_46 : decode cc_M_leastBreach 46 = .ok (.if_icmp .ge 7, 3) := by decide +kernel
theorem d_M_leastBreach_49 : decode cc_M_leastBreach 49 = .ok (.iload_n 3, 1) := by decide +kernel
theorem d_M_leastBreach_50 : decode cc_M_leastBreach 50 = .ok (.goto 4, 3) := by decide +kernel
theorem d_M_leastBreach_53 : decode cc_M_leastBreach 53 = .ok (.iload_n 1, 1) := by decide +kernel
theorem d_M_leastBreach_54 : decode cc_M_leastBreach 54 = .ok (.istore_n 1, 1) := by decide +kernel
theorem d_M_leastBreach_55 : decode cc_M_leastBreach 55 = .ok (.iinc 2 1, 3) := by decide +kernel
theorem d_M_leastBreach_58 : decode cc_M_leastBreach 58 = .ok (.goto (-54), 3) := by decide +kernel
theorem d_M_leastBreach_61 : decode cc_M_leastBreach 61 = .ok (.iload_n 1, 1) := by decide +kernel
theorem d_M_leastBreach_62 : decode cc_M_leastBreach 62 = .ok (.ireturn, 1) := by decide +kernel
def J_M_leastBreach_54 (K4 : Int32 → Int32 → St → Prop) (Q : Int32 → St → Prop) (v2 : Int32) (t0 : Int32) (z0 : St) : Prop := ∀ x6 : Int32, x6 = v2 + 1 → K4 t0 x6 z0
def L_M_leastBreach_4 (Q : Int32 → St → Prop) : Nat → Int32 → Int32 → St → Prop
  | 0, _, _, _ => False
  | n + 1, v1, v2, z0 => (((z0.1 31 1) ≤ v2) → Q v1 z0) ∧ ((¬ (z0.1 31 1) ≤ v2) → vp_in v2 40 ∧ ((¬ (z0.1 45 v2.toNatClampNeg) = 0) → ∀ x1 : Int32, x1 = v2 + 1 → L_M_leastBreach_4 Q n v1 x1 z0) ∧ (((z0.1 45 v2.toNatClampNeg) = 0) → P_M_placeOf v2 z0 (fun (x3 : Int32) (z2 : St) => ((x3 = (-1 : Int32)) → P_M_breachWith v2 z2 (fun (x5 : Int32) (z4 : St) => ((v1 = (-1 : Int32)) → J_M_leastBreach_54 (L_M_leastBreach_4 Q n) Q v2 x5 z4) ∧ ((¬ v1 = (-1 : Int32)) → ((v1 ≤ x5) → J_M_leastBreach_54 (L_M_leastBreach_4 Q n) Q v2 v1 z4) ∧ ((¬ v1 ≤ x5) → J_M_leastBreach_54 (L_M_leastBreach_4 Q n) Q v2 x5 z4)))) ∧ ((¬ x3 = (-1 : Int32)) → ∀ x7 : Int32, x7 = v2 + 1 → L_M_leastBreach_4 Q n v1 x7 z2))))
def P_M_leastBreach (z0 : St) (Q : Int32 → St → Prop) : Prop := ∃ k4 : Nat, L_M_leastBreach_4 Q k4 (-1 : Int32) (0 : Int32) z0
set_option maxHeartbeats 4000000 in
set_option maxRecDepth 100000 in
theorem wJ_M_leastBreach_54 {K4 : Int32 → Int32 → St → Prop} {Q : Int32 → St → Prop} (E : En p l s m meth c args cc_M_leastBreach 4 R_M (some .int) G)
    (hK4 : ∀ (v1 : Int32) (v2 : Int32) (z0 : St) (ls : Array Slot) (H : Heap) (locs : List Loc), K4 v1 v2 z0 → lv_has ls 4 [(0, .ref (ha G 31)), (1, .int v1), (2, .int v2)] → Wd G z0 s.heap H locs → W p l e rm_M_leastBreach s m args below meth c H locs 0 0 (MQ below (QiR Q G) args s 0 0 (fr G)) (F0 m 4 ls []))
    (v2 : Int32) (t0 : Int32) (z0 : St) (ls : Array Slot) (H : Heap) (locs : List Loc) (hP : J_M_leastBreach_54 K4 Q v2 t0 z0) (hl : lv_has ls 4 [(0, .ref (ha G 31)), (2, .int v2)]) (hW : Wd G z0 s.heap H locs) : W p l e rm_M_leastBreach s m args below meth c H locs 0 0 (MQ below (QiR Q G) args s 0 0 (fr G)) (F0 m 54 ls [.int t0]) := by
  obtain ⟨hx, hb, hml, hown, hr, hlk, hex, hE⟩ := id E
  refine lv_istore_n (lv' := [(1, .int t0), (0, .ref (ha G 31)), (2, .int v2)]) hx hb d_M_leastBreach_54 rfl hl (by decide) rfl (fun ls hl => ?_)
  obtain ⟨x6, e_x6⟩ : ∃ z : Int32, z = v2 + 1 := ⟨_, rfl⟩
  have hP := hP x6 e_x6
  refine lv_iinc (k := 2) (lv' := [(2, .int x6), (1, .int t0), (0, .ref (ha G 31))]) hx hb d_M_leastBreach_55 hl rfl (ii_p1 e_x6) (by decide) rfl (fun ls hl => ?_)
  refine lv_goto (tgt := 4) hx hb d_M_leastBreach_58 rfl ?_
  exact hK4 _ _ _ _ _ _ hP (lv_sub hl [2, 1, 0] rfl) hW
set_option maxHeartbeats 4000000 in
set_option maxRecDepth 100000 in
theorem wL_M_leastBreach_4 {Q : Int32 → St → Prop} (E : En p l s m meth c args cc_M_leastBreach 4 R_M (some .int) G) :
    ∀ (n : Nat) (v1 : Int32) (v2 : Int32) (z0 : St) (ls : Array Slot) (H : Heap) (locs : List Loc), L_M_leastBreach_4 Q n v1 v2 z0 → lv_has ls 4 [(0, .ref (ha G 31)), (1, .int v1), (2, .int v2)] → Wd G z0 s.heap H locs → W p l e rm_M_leastBreach s m args below meth c H locs 0 0 (MQ below (QiR Q G) args s 0 0 (fr G)) (F0 m 4 ls []) := by
  obtain ⟨hx, hb, hml, hown, hr, hlk, hex, hE⟩ := id E
  intro n
  induction n with
  | zero => exact fun _ _ _ _ _ _ hP _ _ => hP.elim
  | succ n ih =>
    intro v1 v2 z0 ls H locs hP hl hW
    refine lv_iload_n hx hb d_M_leastBreach_4 rfl (lv_at hl 2 rfl) ?_
    refine lv_aload_n hx hb d_M_leastBreach_5 rfl (lv_at hl 0 rfl) ?_
    refine ygf_31_1 hx hb hown hE hW (lk_M_76 hE) d_M_leastBreach_6 ?_
    refine lv_icmp_ge (tgt := 61) hx hb d_M_leastBreach_9 rfl (fun hc => ?_) (fun hc => ?_)
    · have hP := hP.1 hc
      refine lv_iload_n hx hb d_M_leastBreach_61 rfl (lv_at hl 1 rfl) ?_
      exact yr_i hx hb hr hlk hW hP d_M_leastBreach_62
    · have hP := hP.2 hc
      refine lv_aload_n hx hb d_M_leastBreach_12 rfl (lv_at hl 0 rfl) ?_
      refine ygf_31_22 hx hb hown hE hW (lk_M_58 hE) d_M_leastBreach_13 ?_
      refine lv_iload_n hx hb d_M_leastBreach_16 rfl (lv_at hl 2 rfl) ?_
      refine ya_45 hx hb hE hW hP.1 d_M_leastBreach_17 ?_
      have hP := hP.2
      refine lv_if_ne (tgt := 55) hx hb d_M_leastBreach_18 rfl (fun hc => ?_) (fun hc => ?_)
      · have hP := hP.1 hc
        obtain ⟨x1, e_x1⟩ : ∃ z : Int32, z = v2 + 1 := ⟨_, rfl⟩
        have hP := hP x1 e_x1
        refine lv_iinc (k := 2) (lv' := [(2, .int x1), (0, .ref (ha G 31)), (1, .int v1)]) hx hb d_M_leastBreach_55 hl rfl (ii_p1 e_x1) (by decide) rfl (fun ls hl => ?_)
        refine lv_goto (tgt := 4) hx hb d_M_leastBreach_58 rfl ?_
        exact ih _ _ _ _ _ _ hP (lv_sub hl [1, 2, 0] rfl) hW
      · have hP := hP.2 hc
        refine lv_aload_n hx hb d_M_leastBreach_21 rfl (lv_at hl 0 rfl) ?_
        refine lv_iload_n hx hb d_M_leastBreach_22 rfl (lv_at hl 2 rfl) ?_
        refine yc_i (yV (As := [.int v2]) (rest := []) E (c_M_placeOf _ _ _ hP) (cw_M_215 hE) (yrv_31 hE hW) (by decide) hW hl.1 rfl rfl rfl d_M_leastBreach_23) hW (fun x3 z2 H locs hP hW => ?_)
        refine lv_iconst (v := -1) hx hb d_M_leastBreach_26 (by decide) ?_
        refine lv_icmp_eq (tgt := 33) hx hb d_M_leastBreach_27 rfl (fun hc => ?_) (fun hc => ?_)
        · have hP := hP.1 hc
          refine lv_aload_n hx hb d_M_leastBreach_33 rfl (lv_at hl 0 rfl) ?_
          refine lv_iload_n hx hb d_M_leastBreach_34 rfl (lv_at hl 2 rfl) ?_
          refine yc_i (yV (As := [.int v2]) (rest := []) E (c_M_breachWith _ _ _ hP) (cw_M_218 hE) (yrv_31 hE hW) (by decide) hW hl.1 rfl rfl rfl d_M_leastBreach_35) hW (fun x5 z4 H locs hP hW => ?_)
          refine lv_istore_n (lv' := [(3, .int x5), (0, .ref (ha G 31)), (1, .int v1), (2, .int v2)]) hx hb d_M_leastBreach_38 rfl hl (by decide) rfl (fun ls hl => ?_)
          refine lv_iload_n hx hb d_M_leastBreach_39 rfl (lv_at hl 2 rfl) ?_
          refine lv_iconst (v := -1) hx hb d_M_leastBreach_40 (by decide) ?_
          refine lv_icmp_eq (tgt := 49) hx hb d_M_leastBreach_41 rfl (fun hc => ?_) (fun hc => ?_)
          · have hP := hP.1 hc
            refine lv_iload_n hx hb d_M_leastBreach_49 rfl (lv_at hl 0 rfl) ?_
            refine lv_goto (tgt := 54) hx hb d_M_leastBreach_50 rfl ?_
            exact wJ_M_leastBreach_54 E ih _ _ _ _ _ _ hP (lv_sub hl [1, 3] rfl) hW
          · have hP := hP.2 hc
            refine lv_iload_n hx hb d_M_leastBreach_44 rfl (lv_at hl 0 rfl) ?_
            refine lv_iload_n hx hb d_M_leastBreach_45 rfl (lv_at hl 2 rfl) ?_
            refine lv_icmp_ge (tgt := 53) hx hb d_M_leastBreach_46 rfl (fun hc => ?_) (fun hc => ?_)
            · have hP := hP.1 hc
              refine lv_iload_n hx hb d_M_leastBreach_53 rfl (lv_at hl 2 rfl) ?_
              exact wJ_M_leastBreach_54 E ih _ _ _ _ _ _ hP (lv_sub hl [1, 3] rfl) hW
            · have hP := hP.2 hc
              refine lv_iload_n hx hb d_M_leastBreach_49 rfl (lv_at hl 0 rfl) ?_
              refine lv_goto (tgt := 54) hx hb d_M_leastBreach_50 rfl ?_
              exact wJ_M_leastBreach_54 E ih _ _ _ _ _ _ hP (lv_sub hl [1, 3] rfl) hW
        · have hP := hP.2 hc
          refine lv_goto (tgt := 55) hx hb d_M_leastBreach_30 rfl ?_
          obtain ⟨x7, e_x7⟩ : ∃ z : Int32, z = v2 + 1 := ⟨_, rfl⟩
          have hP := hP x7 e_x7
          refine lv_iinc (k := 2) (lv' := [(2, .int x7), (0, .ref (ha G 31)), (1, .int v1)]) hx hb d_M_leastBreach_55 hl rfl (ii_p1 e_x7) (by decide) rfl (fun ls hl => ?_)
          refine lv_goto (tgt := 4) hx hb d_M_leastBreach_58 rfl ?_
          exact ih _ _ _ _ _ _ hP (lv_sub hl [1, 2, 0] rfl) hW
set_option maxHeartbeats 4000000 in
set_option maxRecDepth 100000 in
theorem c_M_leastBreach {l : Launch} {G : GG} (z0 : St) (Q : Int32 → St → Prop) (hP : P_M_leastBreach z0 Q) : Cti l y_M_leastBreach cc_M_leastBreach 4 (some .int) rm_M_leastBreach G [.ref (ha G 31)] z0 Q := by
  refine Cti.op (own := R_M) (by decide) rfl (Nat.le_of_ble_eq_true rfl) (fun p e s m args below meth c ls E hl hW => ?_)
  obtain ⟨hx, hb, hml, hown, hr, hlk, hex, hE⟩ := id E
  have hl : lv_has ls 4 [(0, .ref (ha G 31))] := hl
  refine lv_iconst (v := -1) hx hb d_M_leastBreach_0 (by decide) ?_
  refine lv_istore_n (lv' := [(1, .int (-1 : Int32)), (0, .ref (ha G 31))]) hx hb d_M_leastBreach_1 rfl hl (by decide) rfl (fun ls hl => ?_)
  refine lv_iconst (v := 0) hx hb d_M_leastBreach_2 (by decide) ?_
  refine lv_istore_n (lv' := [(2, .int (0 : Int32)), (1, .int (-1 : Int32)), (0, .ref (ha G 31))]) hx hb d_M_leastBreach_3 rfl hl (by decide) rfl (fun ls hl => ?_)
  obtain ⟨n2, hP⟩ := hP
  refine wL_M_leastBreach_4 E n2 _ _ _ _ _ _ hP (lv_sub hl [2, 1, 0] rfl) hW
end Code
