/-! The law's cases. Printed by wip/whole/lawgen.py. -/
section LLinks
variable {l : Launch} {G : GG} {s : State} {args : Array Value}
theorem cwl_91 (h : KK l G s) : LkW s args R_L 91 y_L_trait cc_L_trait 4 (some .int) cl_L_trait 3 := ⟨⟨by decide +kernel, by decide +kernel, by decide +kernel⟩, h.w (List.mem_append_right _ (List.mem_append_right _ (List.mem_append_left _ (List.mem_of_getElem? (i := 136) rfl)))) rfl, h.w (List.mem_append_right _ (List.mem_append_right _ (List.mem_append_left _ (List.mem_of_getElem? (i := 137) rfl)))) rfl, h.w (List.mem_append_right _ (List.mem_append_left _ (List.mem_of_getElem? (i := 0) rfl))) rfl, fun a U hW => wk_at hW rfl (h.w (a := #[]) (List.mem_append_right _ (List.mem_append_right _ (List.mem_append_left _ (List.mem_of_getElem? (i := 138) rfl)))) rfl)⟩
theorem cwl_100 (h : KK l G s) : LkW s args R_L 100 y_L_person cc_L_person 6 (some .int) cl_L_person 5 := ⟨⟨by decide +kernel, by decide +kernel, by decide +kernel⟩, h.w (List.mem_append_right _ (List.mem_append_right _ (List.mem_append_right _ (List.mem_append_left _ (List.mem_of_getElem? (i := 6) rfl))))) rfl, h.w (List.mem_append_right _ (List.mem_append_right _ (List.mem_append_right _ (List.mem_append_left _ (List.mem_of_getElem? (i := 7) rfl))))) rfl, h.w (List.mem_append_right _ (List.mem_append_left _ (List.mem_of_getElem? (i := 0) rfl))) rfl, fun a U hW => wk_at hW rfl (h.w (a := #[]) (List.mem_append_right _ (List.mem_append_right _ (List.mem_append_right _ (List.mem_append_left _ (List.mem_of_getElem? (i := 8) rfl))))) rfl)⟩
theorem cwl_104 (h : KK l G s) : LkW s args R_L 104 y_L_quota cc_L_quota 6 (some .int) cl_L_quota 5 := ⟨⟨by decide +kernel, by decide +kernel, by decide +kernel⟩, h.w (List.mem_append_right _ (List.mem_append_right _ (List.mem_append_right _ (List.mem_append_left _ (List.mem_of_getElem? (i := 42) rfl))))) rfl, h.w (List.mem_append_right _ (List.mem_append_right _ (List.mem_append_right _ (List.mem_append_left _ (List.mem_of_getElem? (i := 43) rfl))))) rfl, h.w (List.mem_append_right _ (List.mem_append_left _ (List.mem_of_getElem? (i := 0) rfl))) rfl, fun a U hW => wk_at hW rfl (h.w (a := #[]) (List.mem_append_right _ (List.mem_append_right _ (List.mem_append_right _ (List.mem_append_left _ (List.mem_of_getElem? (i := 44) rfl))))) rfl)⟩
theorem cwl_108 (h : KK l G s) : LkW s args R_L 108 y_L_size cc_L_size 3 (some .int) cl_L_size 2 := ⟨⟨by decide +kernel, by decide +kernel, by decide +kernel⟩, h.w (List.mem_append_right _ (List.mem_append_right _ (List.mem_append_right _ (List.mem_append_left _ (List.mem_of_getElem? (i := 55) rfl))))) rfl, h.w (List.mem_append_right _ (List.mem_append_right _ (List.mem_append_right _ (List.mem_append_left _ (List.mem_of_getElem? (i := 56) rfl))))) rfl, h.w (List.mem_append_right _ (List.mem_append_left _ (List.mem_of_getElem? (i := 0) rfl))) rfl, fun a U hW => wk_at hW rfl (h.w (a := #[]) (List.mem_append_right _ (List.mem_append_right _ (List.mem_append_right _ (List.mem_append_left _ (List.mem_of_getElem? (i := 57) rfl))))) rfl)⟩
theorem cwl_112 (h : KK l G s) : LkW s args R_L 112 y_L_count cc_L_count 3 (some .int) cl_L_count 2 := ⟨⟨by decide +kernel, by decide +kernel, by decide +kernel⟩, h.w (List.mem_append_right _ (List.mem_append_right _ (List.mem_append_right _ (List.mem_append_left _ (List.mem_of_getElem? (i := 63) rfl))))) rfl, h.w (List.mem_append_right _ (List.mem_append_right _ (List.mem_append_right _ (List.mem_append_left _ (List.mem_of_getElem? (i := 64) rfl))))) rfl, h.w (List.mem_append_right _ (List.mem_append_left _ (List.mem_of_getElem? (i := 0) rfl))) rfl, fun a U hW => wk_at hW rfl (h.w (a := #[]) (List.mem_append_right _ (List.mem_append_right _ (List.mem_append_right _ (List.mem_append_left _ (List.mem_of_getElem? (i := 65) rfl))))) rfl)⟩
theorem cwl_120 (h : KK l G s) : LkW s args R_L 120 y_L_chance cc_L_chance 4 (some .int) cl_L_chance 3 := ⟨⟨by decide +kernel, by decide +kernel, by decide +kernel⟩, h.w (List.mem_append_right _ (List.mem_append_right _ (List.mem_append_right _ (List.mem_append_left _ (List.mem_of_getElem? (i := 95) rfl))))) rfl, h.w (List.mem_append_right _ (List.mem_append_right _ (List.mem_append_right _ (List.mem_append_left _ (List.mem_of_getElem? (i := 96) rfl))))) rfl, h.w (List.mem_append_right _ (List.mem_append_left _ (List.mem_of_getElem? (i := 0) rfl))) rfl, fun a U hW => wk_at hW rfl (h.w (a := #[]) (List.mem_append_right _ (List.mem_append_right _ (List.mem_append_right _ (List.mem_append_left _ (List.mem_of_getElem? (i := 97) rfl))))) rfl)⟩
theorem cwl_124 (h : KK l G s) : LkW s args R_L 124 y_L_kind cc_L_kind 4 (some .int) cl_L_kind 3 := ⟨⟨by decide +kernel, by decide +kernel, by decide +kernel⟩, h.w (List.mem_append_right _ (List.mem_append_right _ (List.mem_append_right _ (List.mem_append_left _ (List.mem_of_getElem? (i := 130) rfl))))) rfl, h.w (List.mem_append_right _ (List.mem_append_right _ (List.mem_append_right _ (List.mem_append_left _ (List.mem_of_getElem? (i := 131) rfl))))) rfl, h.w (List.mem_append_right _ (List.mem_append_left _ (List.mem_of_getElem? (i := 0) rfl))) rfl, fun a U hW => wk_at hW rfl (h.w (a := #[]) (List.mem_append_right _ (List.mem_append_right _ (List.mem_append_right _ (List.mem_append_left _ (List.mem_of_getElem? (i := 132) rfl))))) rfl)⟩
theorem cwl_127 (h : KK l G s) : LkW s args R_L 127 y_L_blocked cc_L_blocked 4 (some .int) cl_L_blocked 3 := ⟨⟨by decide +kernel, by decide +kernel, by decide +kernel⟩, h.w (List.mem_append_right _ (List.mem_append_right _ (List.mem_append_right _ (List.mem_append_left _ (List.mem_of_getElem? (i := 137) rfl))))) rfl, h.w (List.mem_append_right _ (List.mem_append_right _ (List.mem_append_right _ (List.mem_append_left _ (List.mem_of_getElem? (i := 138) rfl))))) rfl, h.w (List.mem_append_right _ (List.mem_append_left _ (List.mem_of_getElem? (i := 0) rfl))) rfl, fun a U hW => wk_at hW rfl (h.w (a := #[]) (List.mem_append_right _ (List.mem_append_right _ (List.mem_append_right _ (List.mem_append_left _ (List.mem_of_getElem? (i := 139) rfl))))) rfl)⟩
theorem cwl_132 (h : KK l G s) : LkW s args R_L 132 y_L_panel cc_L_panel 6 (some .int) cl_L_panel 4 := ⟨⟨by decide +kernel, by decide +kernel, by decide +kernel⟩, h.w (List.mem_append_right _ (List.mem_append_right _ (List.mem_append_right _ (List.mem_append_left _ (List.mem_of_getElem? (i := 182) rfl))))) rfl, h.w (List.mem_append_right _ (List.mem_append_right _ (List.mem_append_right _ (List.mem_append_left _ (List.mem_of_getElem? (i := 183) rfl))))) rfl, h.w (List.mem_append_right _ (List.mem_append_left _ (List.mem_of_getElem? (i := 0) rfl))) rfl, fun a U hW => wk_at hW rfl (h.w (a := #[]) (List.mem_append_right _ (List.mem_append_right _ (List.mem_append_right _ (List.mem_append_left _ (List.mem_of_getElem? (i := 184) rfl))))) rfl)⟩
theorem cwl_136 (h : KK l G s) : LkW s args R_L 136 y_L_mark cc_L_mark 4 (some .int) cl_L_mark 3 := ⟨⟨by decide +kernel, by decide +kernel, by decide +kernel⟩, h.w (List.mem_append_right _ (List.mem_append_right _ (List.mem_append_right _ (List.mem_append_left _ (List.mem_of_getElem? (i := 207) rfl))))) rfl, h.w (List.mem_append_right _ (List.mem_append_right _ (List.mem_append_right _ (List.mem_append_left _ (List.mem_of_getElem? (i := 208) rfl))))) rfl, h.w (List.mem_append_right _ (List.mem_append_left _ (List.mem_of_getElem? (i := 0) rfl))) rfl, fun a U hW => wk_at hW rfl (h.w (a := #[]) (List.mem_append_right _ (List.mem_append_right _ (List.mem_append_right _ (List.mem_append_left _ (List.mem_of_getElem? (i := 209) rfl))))) rfl)⟩
theorem cwl_139 (h : KK l G s) : LkW s args R_L 139 y_L_rank cc_L_rank 3 (some .int) cl_L_rank 2 := ⟨⟨by decide +kernel, by decide +kernel, by decide +kernel⟩, h.w (List.mem_append_right _ (List.mem_append_right _ (List.mem_append_right _ (List.mem_append_left _ (List.mem_of_getElem? (i := 217) rfl))))) rfl, h.w (List.mem_append_right _ (List.mem_append_right _ (List.mem_append_right _ (List.mem_append_left _ (List.mem_of_getElem? (i := 218) rfl))))) rfl, h.w (List.mem_append_right _ (List.mem_append_left _ (List.mem_of_getElem? (i := 0) rfl))) rfl, fun a U hW => wk_at hW rfl (h.w (a := #[]) (List.mem_append_right _ (List.mem_append_right _ (List.mem_append_right _ (List.mem_append_left _ (List.mem_of_getElem? (i := 219) rfl))))) rfl)⟩
theorem cwl_142 (h : KK l G s) : LkW s args R_L 142 y_L_dice cc_L_dice 4 (some .int) cl_L_dice 3 := ⟨⟨by decide +kernel, by decide +kernel, by decide +kernel⟩, h.w (List.mem_append_right _ (List.mem_append_right _ (List.mem_append_right _ (List.mem_append_right _ (List.mem_append_left _ (List.mem_of_getElem? (i := 15) rfl)))))) rfl, h.w (List.mem_append_right _ (List.mem_append_right _ (List.mem_append_right _ (List.mem_append_right _ (List.mem_append_left _ (List.mem_of_getElem? (i := 16) rfl)))))) rfl, h.w (List.mem_append_right _ (List.mem_append_left _ (List.mem_of_getElem? (i := 0) rfl))) rfl, fun a U hW => wk_at hW rfl (h.w (a := #[]) (List.mem_append_right _ (List.mem_append_right _ (List.mem_append_right _ (List.mem_append_right _ (List.mem_append_left _ (List.mem_of_getElem? (i := 17) rfl)))))) rfl)⟩
theorem cwl_145 (h : KK l G s) : LkW s args R_L 145 y_L_roll cc_L_roll 4 (some .int) cl_L_roll 3 := ⟨⟨by decide +kernel, by decide +kernel, by decide +kernel⟩, h.w (List.mem_append_right _ (List.mem_append_right _ (List.mem_append_right _ (List.mem_append_right _ (List.mem_append_left _ (List.mem_of_getElem? (i := 58) rfl)))))) rfl, h.w (List.mem_append_right _ (List.mem_append_right _ (List.mem_append_right _ (List.mem_append_right _ (List.mem_append_left _ (List.mem_of_getElem? (i := 59) rfl)))))) rfl, h.w (List.mem_append_right _ (List.mem_append_left _ (List.mem_of_getElem? (i := 0) rfl))) rfl, fun a U hW => wk_at hW rfl (h.w (a := #[]) (List.mem_append_right _ (List.mem_append_right _ (List.mem_append_right _ (List.mem_append_right _ (List.mem_append_left _ (List.mem_of_getElem? (i := 60) rfl)))))) rfl)⟩
theorem cwl_148 (h : KK l G s) : LkW s args R_L 148 y_L_number cc_L_number 3 (some .int) cl_L_number 2 := ⟨⟨by decide +kernel, by decide +kernel, by decide +kernel⟩, h.w (List.mem_append_right _ (List.mem_append_right _ (List.mem_append_right _ (List.mem_append_right _ (List.mem_append_left _ (List.mem_of_getElem? (i := 79) rfl)))))) rfl, h.w (List.mem_append_right _ (List.mem_append_right _ (List.mem_append_right _ (List.mem_append_right _ (List.mem_append_left _ (List.mem_of_getElem? (i := 80) rfl)))))) rfl, h.w (List.mem_append_right _ (List.mem_append_left _ (List.mem_of_getElem? (i := 0) rfl))) rfl, fun a U hW => wk_at hW rfl (h.w (a := #[]) (List.mem_append_right _ (List.mem_append_right _ (List.mem_append_right _ (List.mem_append_right _ (List.mem_append_left _ (List.mem_of_getElem? (i := 81) rfl)))))) rfl)⟩
theorem cwl_151 (h : KK l G s) : LkW s args R_L 151 y_L_draw cc_L_draw 2 (some .int) cl_L_draw 1 := ⟨⟨by decide +kernel, by decide +kernel, by decide +kernel⟩, h.w (List.mem_append_right _ (List.mem_append_right _ (List.mem_append_right _ (List.mem_append_right _ (List.mem_append_left _ (List.mem_of_getElem? (i := 95) rfl)))))) rfl, h.w (List.mem_append_right _ (List.mem_append_right _ (List.mem_append_right _ (List.mem_append_right _ (List.mem_append_left _ (List.mem_of_getElem? (i := 96) rfl)))))) rfl, h.w (List.mem_append_right _ (List.mem_append_left _ (List.mem_of_getElem? (i := 0) rfl))) rfl, fun a U hW => wk_at hW rfl (h.w (a := #[]) (List.mem_append_right _ (List.mem_append_right _ (List.mem_append_right _ (List.mem_append_right _ (List.mem_append_left _ (List.mem_of_getElem? (i := 97) rfl)))))) rfl)⟩
theorem cwl_155 (h : KK l G s) : LkW s args R_L 155 y_L_member cc_L_member 4 (some .int) cl_L_member 3 := ⟨⟨by decide +kernel, by decide +kernel, by decide +kernel⟩, h.w (List.mem_append_right _ (List.mem_append_right _ (List.mem_append_right _ (List.mem_append_right _ (List.mem_append_left _ (List.mem_of_getElem? (i := 111) rfl)))))) rfl, h.w (List.mem_append_right _ (List.mem_append_right _ (List.mem_append_right _ (List.mem_append_right _ (List.mem_append_left _ (List.mem_of_getElem? (i := 112) rfl)))))) rfl, h.w (List.mem_append_right _ (List.mem_append_left _ (List.mem_of_getElem? (i := 0) rfl))) rfl, fun a U hW => wk_at hW rfl (h.w (a := #[]) (List.mem_append_right _ (List.mem_append_right _ (List.mem_append_right _ (List.mem_append_right _ (List.mem_append_left _ (List.mem_of_getElem? (i := 113) rfl)))))) rfl)⟩
theorem cwl_158 (h : KK l G s) : LkW s args R_L 158 y_L_dropOut cc_L_dropOut 3 (some .int) cl_L_dropOut 2 := ⟨⟨by decide +kernel, by decide +kernel, by decide +kernel⟩, h.w (List.mem_append_right _ (List.mem_append_right _ (List.mem_append_right _ (List.mem_append_right _ (List.mem_append_left _ (List.mem_of_getElem? (i := 127) rfl)))))) rfl, h.w (List.mem_append_right _ (List.mem_append_right _ (List.mem_append_right _ (List.mem_append_right _ (List.mem_append_left _ (List.mem_of_getElem? (i := 128) rfl)))))) rfl, h.w (List.mem_append_right _ (List.mem_append_left _ (List.mem_of_getElem? (i := 0) rfl))) rfl, fun a U hW => wk_at hW rfl (h.w (a := #[]) (List.mem_append_right _ (List.mem_append_right _ (List.mem_append_right _ (List.mem_append_right _ (List.mem_append_left _ (List.mem_of_getElem? (i := 129) rfl)))))) rfl)⟩
theorem cwl_161 (h : KK l G s) : LkW s args R_L 161 y_L_candidate cc_L_candidate 4 (some .int) cl_L_candidate 3 := ⟨⟨by decide +kernel, by decide +kernel, by decide +kernel⟩, h.w (List.mem_append_right _ (List.mem_append_right _ (List.mem_append_right _ (List.mem_append_right _ (List.mem_append_left _ (List.mem_of_getElem? (i := 146) rfl)))))) rfl, h.w (List.mem_append_right _ (List.mem_append_right _ (List.mem_append_right _ (List.mem_append_right _ (List.mem_append_left _ (List.mem_of_getElem? (i := 147) rfl)))))) rfl, h.w (List.mem_append_right _ (List.mem_append_left _ (List.mem_of_getElem? (i := 0) rfl))) rfl, fun a U hW => wk_at hW rfl (h.w (a := #[]) (List.mem_append_right _ (List.mem_append_right _ (List.mem_append_right _ (List.mem_append_right _ (List.mem_append_left _ (List.mem_of_getElem? (i := 148) rfl)))))) rfl)⟩
theorem cwl_164 (h : KK l G s) : LkW s args R_L 164 y_L_replace cc_L_replace 3 (some .int) cl_L_replace 2 := ⟨⟨by decide +kernel, by decide +kernel, by decide +kernel⟩, h.w (List.mem_append_right _ (List.mem_append_right _ (List.mem_append_right _ (List.mem_append_right _ (List.mem_append_left _ (List.mem_of_getElem? (i := 157) rfl)))))) rfl, h.w (List.mem_append_right _ (List.mem_append_right _ (List.mem_append_right _ (List.mem_append_right _ (List.mem_append_left _ (List.mem_of_getElem? (i := 158) rfl)))))) rfl, h.w (List.mem_append_right _ (List.mem_append_left _ (List.mem_of_getElem? (i := 0) rfl))) rfl, fun a U hW => wk_at hW rfl (h.w (a := #[]) (List.mem_append_right _ (List.mem_append_right _ (List.mem_append_right _ (List.mem_append_right _ (List.mem_append_left _ (List.mem_of_getElem? (i := 159) rfl)))))) rfl)⟩
theorem cwl_167 (h : KK l G s) : LkW s args R_L 167 y_L_breach cc_L_breach 3 (some .int) cl_L_breach 2 := ⟨⟨by decide +kernel, by decide +kernel, by decide +kernel⟩, h.w (List.mem_append_right _ (List.mem_append_right _ (List.mem_append_right _ (List.mem_append_right _ (List.mem_append_left _ (List.mem_of_getElem? (i := 174) rfl)))))) rfl, h.w (List.mem_append_right _ (List.mem_append_right _ (List.mem_append_right _ (List.mem_append_right _ (List.mem_append_left _ (List.mem_of_getElem? (i := 175) rfl)))))) rfl, h.w (List.mem_append_right _ (List.mem_append_left _ (List.mem_of_getElem? (i := 0) rfl))) rfl, fun a U hW => wk_at hW rfl (h.w (a := #[]) (List.mem_append_right _ (List.mem_append_right _ (List.mem_append_right _ (List.mem_append_right _ (List.mem_append_left _ (List.mem_of_getElem? (i := 176) rfl)))))) rfl)⟩
theorem cwl_96 (h : KK l G s) : LkV s args R_L R_M 96 y_M_trait cc_M_trait 5 none 2 := ⟨⟨by decide +kernel, by decide +kernel, by decide +kernel⟩, h.w (List.mem_append_right _ (List.mem_append_right _ (List.mem_append_right _ (List.mem_append_right _ (List.mem_append_right _ (List.mem_append_left _ (List.mem_of_getElem? (i := 59) rfl))))))) rfl, h.w (List.mem_append_right _ (List.mem_append_right _ (List.mem_append_right _ (List.mem_append_right _ (List.mem_append_right _ (List.mem_append_left _ (List.mem_of_getElem? (i := 60) rfl))))))) rfl, (h.w (List.mem_append_right _ (List.mem_append_right _ (List.mem_append_right _ (List.mem_append_right _ (List.mem_append_right _ (List.mem_append_left _ (List.mem_of_getElem? (i := 61) rfl))))))) rfl), h.w (List.mem_append_right _ (List.mem_append_left _ (List.mem_of_getElem? (i := 11) rfl))) rfl, fun a U hW => wk_at hW rfl (h.w (a := #[]) (List.mem_append_right _ (List.mem_append_right _ (List.mem_append_right _ (List.mem_append_right _ (List.mem_append_right _ (List.mem_append_left _ (List.mem_of_getElem? (i := 62) rfl))))))) rfl)⟩
theorem cwl_97 (h : KK l G s) : LkV s args R_L R_M 97 y_M_thrown cc_M_thrown 1 (some .int) 0 := ⟨⟨by decide +kernel, by decide +kernel, by decide +kernel⟩, h.w (List.mem_append_right _ (List.mem_append_right _ (List.mem_append_right _ (List.mem_append_right _ (List.mem_append_right _ (List.mem_append_left _ (List.mem_of_getElem? (i := 55) rfl))))))) rfl, h.w (List.mem_append_right _ (List.mem_append_right _ (List.mem_append_right _ (List.mem_append_right _ (List.mem_append_right _ (List.mem_append_left _ (List.mem_of_getElem? (i := 56) rfl))))))) rfl, (h.w (List.mem_append_right _ (List.mem_append_right _ (List.mem_append_right _ (List.mem_append_right _ (List.mem_append_right _ (List.mem_append_left _ (List.mem_of_getElem? (i := 57) rfl))))))) rfl), h.w (List.mem_append_right _ (List.mem_append_left _ (List.mem_of_getElem? (i := 11) rfl))) rfl, fun a U hW => wk_at hW rfl (h.w (a := #[]) (List.mem_append_right _ (List.mem_append_right _ (List.mem_append_right _ (List.mem_append_right _ (List.mem_append_right _ (List.mem_append_left _ (List.mem_of_getElem? (i := 58) rfl))))))) rfl)⟩
theorem cwl_103 (h : KK l G s) : LkV s args R_L R_M 103 y_M_person cc_M_person 7 (some .int) 3 := ⟨⟨by decide +kernel, by decide +kernel, by decide +kernel⟩, h.w (List.mem_append_right _ (List.mem_append_right _ (List.mem_append_right _ (List.mem_append_right _ (List.mem_append_right _ (List.mem_append_left _ (List.mem_of_getElem? (i := 78) rfl))))))) rfl, h.w (List.mem_append_right _ (List.mem_append_right _ (List.mem_append_right _ (List.mem_append_right _ (List.mem_append_right _ (List.mem_append_left _ (List.mem_of_getElem? (i := 79) rfl))))))) rfl, (h.w (List.mem_append_right _ (List.mem_append_right _ (List.mem_append_right _ (List.mem_append_right _ (List.mem_append_right _ (List.mem_append_left _ (List.mem_of_getElem? (i := 80) rfl))))))) rfl), h.w (List.mem_append_right _ (List.mem_append_left _ (List.mem_of_getElem? (i := 11) rfl))) rfl, fun a U hW => wk_at hW rfl (h.w (a := #[]) (List.mem_append_right _ (List.mem_append_right _ (List.mem_append_right _ (List.mem_append_right _ (List.mem_append_right _ (List.mem_append_left _ (List.mem_of_getElem? (i := 81) rfl))))))) rfl)⟩
theorem cwl_107 (h : KK l G s) : LkV s args R_L R_M 107 y_M_quota cc_M_quota 6 none 4 := ⟨⟨by decide +kernel, by decide +kernel, by decide +kernel⟩, h.w (List.mem_append_right _ (List.mem_append_right _ (List.mem_append_right _ (List.mem_append_right _ (List.mem_append_right _ (List.mem_append_left _ (List.mem_of_getElem? (i := 82) rfl))))))) rfl, h.w (List.mem_append_right _ (List.mem_append_right _ (List.mem_append_right _ (List.mem_append_right _ (List.mem_append_right _ (List.mem_append_left _ (List.mem_of_getElem? (i := 83) rfl))))))) rfl, (h.w (List.mem_append_right _ (List.mem_append_right _ (List.mem_append_right _ (List.mem_append_right _ (List.mem_append_right _ (List.mem_append_left _ (List.mem_of_getElem? (i := 84) rfl))))))) rfl), h.w (List.mem_append_right _ (List.mem_append_left _ (List.mem_of_getElem? (i := 11) rfl))) rfl, fun a U hW => wk_at hW rfl (h.w (a := #[]) (List.mem_append_right _ (List.mem_append_right _ (List.mem_append_right _ (List.mem_append_right _ (List.mem_append_right _ (List.mem_append_left _ (List.mem_of_getElem? (i := 85) rfl))))))) rfl)⟩
theorem cwl_111 (h : KK l G s) : LkV s args R_L R_M 111 y_M_size cc_M_size 2 none 1 := ⟨⟨by decide +kernel, by decide +kernel, by decide +kernel⟩, h.w (List.mem_append_right _ (List.mem_append_right _ (List.mem_append_right _ (List.mem_append_right _ (List.mem_append_right _ (List.mem_append_left _ (List.mem_of_getElem? (i := 86) rfl))))))) rfl, h.w (List.mem_append_right _ (List.mem_append_right _ (List.mem_append_right _ (List.mem_append_right _ (List.mem_append_right _ (List.mem_append_left _ (List.mem_of_getElem? (i := 87) rfl))))))) rfl, (h.w (List.mem_append_right _ (List.mem_append_right _ (List.mem_append_right _ (List.mem_append_right _ (List.mem_append_right _ (List.mem_append_left _ (List.mem_of_getElem? (i := 88) rfl))))))) rfl), h.w (List.mem_append_right _ (List.mem_append_left _ (List.mem_of_getElem? (i := 11) rfl))) rfl, fun a U hW => wk_at hW rfl (h.w (a := #[]) (List.mem_append_right _ (List.mem_append_right _ (List.mem_append_right _ (List.mem_append_right _ (List.mem_append_right _ (List.mem_append_left _ (List.mem_of_getElem? (i := 89) rfl))))))) rfl)⟩
theorem cwl_115 (h : KK l G s) : LkV s args R_L R_M 115 y_M_count cc_M_count 1 (some .long) 0 := ⟨⟨by decide +kernel, by decide +kernel, by decide +kernel⟩, h.w (List.mem_append_right _ (List.mem_append_right _ (List.mem_append_right _ (List.mem_append_right _ (List.mem_append_right _ (List.mem_append_left _ (List.mem_of_getElem? (i := 90) rfl))))))) rfl, h.w (List.mem_append_right _ (List.mem_append_right _ (List.mem_append_right _ (List.mem_append_right _ (List.mem_append_right _ (List.mem_append_left _ (List.mem_of_getElem? (i := 91) rfl))))))) rfl, (h.w (List.mem_append_right _ (List.mem_append_right _ (List.mem_append_right _ (List.mem_append_right _ (List.mem_append_right _ (List.mem_append_left _ (List.mem_of_getElem? (i := 92) rfl))))))) rfl), h.w (List.mem_append_right _ (List.mem_append_left _ (List.mem_of_getElem? (i := 11) rfl))) rfl, fun a U hW => wk_at hW rfl (h.w (a := #[]) (List.mem_append_right _ (List.mem_append_right _ (List.mem_append_right _ (List.mem_append_right _ (List.mem_append_right _ (List.mem_append_left _ (List.mem_of_getElem? (i := 93) rfl))))))) rfl)⟩
theorem cwl_116 (h : KK l G s) : LkV s args R_L R_O 116 y_O_states cc_O_states 1 (some .int) 0 := ⟨⟨by decide +kernel, by decide +kernel, by decide +kernel⟩, h.w (List.mem_append_right _ (List.mem_append_right _ (List.mem_append_left _ (List.mem_of_getElem? (i := 43) rfl)))) rfl, h.w (List.mem_append_right _ (List.mem_append_right _ (List.mem_append_left _ (List.mem_of_getElem? (i := 44) rfl)))) rfl, (h.w (List.mem_append_right _ (List.mem_append_right _ (List.mem_append_left _ (List.mem_of_getElem? (i := 45) rfl)))) rfl), h.w (List.mem_append_right _ (List.mem_append_left _ (List.mem_of_getElem? (i := 1) rfl))) rfl, fun a U hW => wk_at hW rfl (h.w (a := #[]) (List.mem_append_right _ (List.mem_append_right _ (List.mem_append_left _ (List.mem_of_getElem? (i := 46) rfl)))) rfl)⟩
theorem cwl_119 (h : KK l G s) : LkV s args R_L R_M 119 y_M_states cc_M_states 1 (some .int) 0 := ⟨⟨by decide +kernel, by decide +kernel, by decide +kernel⟩, h.w (List.mem_append_right _ (List.mem_append_right _ (List.mem_append_right _ (List.mem_append_right _ (List.mem_append_right _ (List.mem_append_left _ (List.mem_of_getElem? (i := 139) rfl))))))) rfl, h.w (List.mem_append_right _ (List.mem_append_right _ (List.mem_append_right _ (List.mem_append_right _ (List.mem_append_right _ (List.mem_append_left _ (List.mem_of_getElem? (i := 140) rfl))))))) rfl, (h.w (List.mem_append_right _ (List.mem_append_right _ (List.mem_append_right _ (List.mem_append_right _ (List.mem_append_right _ (List.mem_append_left _ (List.mem_of_getElem? (i := 141) rfl))))))) rfl), h.w (List.mem_append_right _ (List.mem_append_left _ (List.mem_of_getElem? (i := 11) rfl))) rfl, fun a U hW => wk_at hW rfl (h.w (a := #[]) (List.mem_append_right _ (List.mem_append_right _ (List.mem_append_right _ (List.mem_append_right _ (List.mem_append_right _ (List.mem_append_left _ (List.mem_of_getElem? (i := 142) rfl))))))) rfl)⟩
theorem cwl_123 (h : KK l G s) : LkV s args R_L R_M 123 y_M_chance cc_M_chance 2 (some .long) 1 := ⟨⟨by decide +kernel, by decide +kernel, by decide +kernel⟩, h.w (List.mem_append_right _ (List.mem_append_right _ (List.mem_append_right _ (List.mem_append_right _ (List.mem_append_right _ (List.mem_append_left _ (List.mem_of_getElem? (i := 143) rfl))))))) rfl, h.w (List.mem_append_right _ (List.mem_append_right _ (List.mem_append_right _ (List.mem_append_right _ (List.mem_append_right _ (List.mem_append_left _ (List.mem_of_getElem? (i := 144) rfl))))))) rfl, (h.w (List.mem_append_right _ (List.mem_append_right _ (List.mem_append_right _ (List.mem_append_right _ (List.mem_append_right _ (List.mem_append_left _ (List.mem_of_getElem? (i := 145) rfl))))))) rfl), h.w (List.mem_append_right _ (List.mem_append_left _ (List.mem_of_getElem? (i := 11) rfl))) rfl, fun a U hW => wk_at hW rfl (h.w (a := #[]) (List.mem_append_right _ (List.mem_append_right _ (List.mem_append_right _ (List.mem_append_right _ (List.mem_append_right _ (List.mem_append_left _ (List.mem_of_getElem? (i := 146) rfl))))))) rfl)⟩
theorem cwl_126 (h : KK l G s) : LkV s args R_L R_M 126 y_M_kind cc_M_kind 2 (some .int) 1 := ⟨⟨by decide +kernel, by decide +kernel, by decide +kernel⟩, h.w (List.mem_append_right _ (List.mem_append_right _ (List.mem_append_right _ (List.mem_append_right _ (List.mem_append_right _ (List.mem_append_left _ (List.mem_of_getElem? (i := 155) rfl))))))) rfl, h.w (List.mem_append_right _ (List.mem_append_right _ (List.mem_append_right _ (List.mem_append_right _ (List.mem_append_right _ (List.mem_append_left _ (List.mem_of_getElem? (i := 156) rfl))))))) rfl, (h.w (List.mem_append_right _ (List.mem_append_right _ (List.mem_append_right _ (List.mem_append_right _ (List.mem_append_right _ (List.mem_append_left _ (List.mem_of_getElem? (i := 157) rfl))))))) rfl), h.w (List.mem_append_right _ (List.mem_append_left _ (List.mem_of_getElem? (i := 11) rfl))) rfl, fun a U hW => wk_at hW rfl (h.w (a := #[]) (List.mem_append_right _ (List.mem_append_right _ (List.mem_append_right _ (List.mem_append_right _ (List.mem_append_right _ (List.mem_append_left _ (List.mem_of_getElem? (i := 158) rfl))))))) rfl)⟩
theorem cwl_129 (h : KK l G s) : LkV s args R_L R_M 129 y_M_blocked cc_M_blocked 4 (some .int) 1 := ⟨⟨by decide +kernel, by decide +kernel, by decide +kernel⟩, h.w (List.mem_append_right _ (List.mem_append_right _ (List.mem_append_right _ (List.mem_append_right _ (List.mem_append_right _ (List.mem_append_left _ (List.mem_of_getElem? (i := 159) rfl))))))) rfl, h.w (List.mem_append_right _ (List.mem_append_right _ (List.mem_append_right _ (List.mem_append_right _ (List.mem_append_right _ (List.mem_append_left _ (List.mem_of_getElem? (i := 160) rfl))))))) rfl, (h.w (List.mem_append_right _ (List.mem_append_right _ (List.mem_append_right _ (List.mem_append_right _ (List.mem_append_right _ (List.mem_append_left _ (List.mem_of_getElem? (i := 161) rfl))))))) rfl), h.w (List.mem_append_right _ (List.mem_append_left _ (List.mem_of_getElem? (i := 11) rfl))) rfl, fun a U hW => wk_at hW rfl (h.w (a := #[]) (List.mem_append_right _ (List.mem_append_right _ (List.mem_append_right _ (List.mem_append_right _ (List.mem_append_right _ (List.mem_append_left _ (List.mem_of_getElem? (i := 162) rfl))))))) rfl)⟩
theorem cwl_135 (h : KK l G s) : LkV s args R_L R_M 135 y_M_panel cc_M_panel 4 (some .int) 2 := ⟨⟨by decide +kernel, by decide +kernel, by decide +kernel⟩, h.w (List.mem_append_right _ (List.mem_append_right _ (List.mem_append_right _ (List.mem_append_right _ (List.mem_append_right _ (List.mem_append_left _ (List.mem_of_getElem? (i := 167) rfl))))))) rfl, h.w (List.mem_append_right _ (List.mem_append_right _ (List.mem_append_right _ (List.mem_append_right _ (List.mem_append_right _ (List.mem_append_left _ (List.mem_of_getElem? (i := 168) rfl))))))) rfl, (h.w (List.mem_append_right _ (List.mem_append_right _ (List.mem_append_right _ (List.mem_append_right _ (List.mem_append_right _ (List.mem_append_left _ (List.mem_of_getElem? (i := 169) rfl))))))) rfl), h.w (List.mem_append_right _ (List.mem_append_left _ (List.mem_of_getElem? (i := 11) rfl))) rfl, fun a U hW => wk_at hW rfl (h.w (a := #[]) (List.mem_append_right _ (List.mem_append_right _ (List.mem_append_right _ (List.mem_append_right _ (List.mem_append_right _ (List.mem_append_left _ (List.mem_of_getElem? (i := 170) rfl))))))) rfl)⟩
theorem cwl_138 (h : KK l G s) : LkV s args R_L R_M 138 y_M_mark cc_M_mark 2 (some .boolean) 1 := ⟨⟨by decide +kernel, by decide +kernel, by decide +kernel⟩, h.w (List.mem_append_right _ (List.mem_append_right _ (List.mem_append_right _ (List.mem_append_right _ (List.mem_append_right _ (List.mem_append_left _ (List.mem_of_getElem? (i := 183) rfl))))))) rfl, h.w (List.mem_append_right _ (List.mem_append_right _ (List.mem_append_right _ (List.mem_append_right _ (List.mem_append_right _ (List.mem_append_left _ (List.mem_of_getElem? (i := 184) rfl))))))) rfl, (h.w (List.mem_append_right _ (List.mem_append_right _ (List.mem_append_right _ (List.mem_append_right _ (List.mem_append_right _ (List.mem_append_left _ (List.mem_of_getElem? (i := 185) rfl))))))) rfl), h.w (List.mem_append_right _ (List.mem_append_left _ (List.mem_of_getElem? (i := 11) rfl))) rfl, fun a U hW => wk_at hW rfl (h.w (a := #[]) (List.mem_append_right _ (List.mem_append_right _ (List.mem_append_right _ (List.mem_append_right _ (List.mem_append_right _ (List.mem_append_left _ (List.mem_of_getElem? (i := 186) rfl))))))) rfl)⟩
theorem cwl_141 (h : KK l G s) : LkV s args R_L R_M 141 y_M_rank cc_M_rank 10 (some .long) 0 := ⟨⟨by decide +kernel, by decide +kernel, by decide +kernel⟩, h.w (List.mem_append_right _ (List.mem_append_right _ (List.mem_append_right _ (List.mem_append_right _ (List.mem_append_right _ (List.mem_append_left _ (List.mem_of_getElem? (i := 187) rfl))))))) rfl, h.w (List.mem_append_right _ (List.mem_append_right _ (List.mem_append_right _ (List.mem_append_right _ (List.mem_append_right _ (List.mem_append_left _ (List.mem_of_getElem? (i := 188) rfl))))))) rfl, (h.w (List.mem_append_right _ (List.mem_append_right _ (List.mem_append_right _ (List.mem_append_right _ (List.mem_append_right _ (List.mem_append_left _ (List.mem_of_getElem? (i := 189) rfl))))))) rfl), h.w (List.mem_append_right _ (List.mem_append_left _ (List.mem_of_getElem? (i := 11) rfl))) rfl, fun a U hW => wk_at hW rfl (h.w (a := #[]) (List.mem_append_right _ (List.mem_append_right _ (List.mem_append_right _ (List.mem_append_right _ (List.mem_append_right _ (List.mem_append_left _ (List.mem_of_getElem? (i := 190) rfl))))))) rfl)⟩
theorem cwl_144 (h : KK l G s) : LkV s args R_L R_M 144 y_M_dice cc_M_dice 2 (some .int) 1 := ⟨⟨by decide +kernel, by decide +kernel, by decide +kernel⟩, h.w (List.mem_append_right _ (List.mem_append_right _ (List.mem_append_right _ (List.mem_append_right _ (List.mem_append_right _ (List.mem_append_left _ (List.mem_of_getElem? (i := 195) rfl))))))) rfl, h.w (List.mem_append_right _ (List.mem_append_right _ (List.mem_append_right _ (List.mem_append_right _ (List.mem_append_right _ (List.mem_append_left _ (List.mem_of_getElem? (i := 196) rfl))))))) rfl, (h.w (List.mem_append_right _ (List.mem_append_right _ (List.mem_append_right _ (List.mem_append_right _ (List.mem_append_right _ (List.mem_append_left _ (List.mem_of_getElem? (i := 197) rfl))))))) rfl), h.w (List.mem_append_right _ (List.mem_append_left _ (List.mem_of_getElem? (i := 11) rfl))) rfl, fun a U hW => wk_at hW rfl (h.w (a := #[]) (List.mem_append_right _ (List.mem_append_right _ (List.mem_append_right _ (List.mem_append_right _ (List.mem_append_right _ (List.mem_append_left _ (List.mem_of_getElem? (i := 198) rfl))))))) rfl)⟩
theorem cwl_147 (h : KK l G s) : LkV s args R_L R_M 147 y_M_roll cc_M_roll 2 (some .int) 1 := ⟨⟨by decide +kernel, by decide +kernel, by decide +kernel⟩, h.w (List.mem_append_right _ (List.mem_append_right _ (List.mem_append_right _ (List.mem_append_right _ (List.mem_append_right _ (List.mem_append_left _ (List.mem_of_getElem? (i := 223) rfl))))))) rfl, h.w (List.mem_append_right _ (List.mem_append_right _ (List.mem_append_right _ (List.mem_append_right _ (List.mem_append_right _ (List.mem_append_left _ (List.mem_of_getElem? (i := 224) rfl))))))) rfl, (h.w (List.mem_append_right _ (List.mem_append_right _ (List.mem_append_right _ (List.mem_append_right _ (List.mem_append_right _ (List.mem_append_left _ (List.mem_of_getElem? (i := 225) rfl))))))) rfl), h.w (List.mem_append_right _ (List.mem_append_left _ (List.mem_of_getElem? (i := 11) rfl))) rfl, fun a U hW => wk_at hW rfl (h.w (a := #[]) (List.mem_append_right _ (List.mem_append_right _ (List.mem_append_right _ (List.mem_append_right _ (List.mem_append_right _ (List.mem_append_left _ (List.mem_of_getElem? (i := 226) rfl))))))) rfl)⟩
theorem cwl_150 (h : KK l G s) : LkV s args R_L R_M 150 y_M_number cc_M_number 1 (some .long) 0 := ⟨⟨by decide +kernel, by decide +kernel, by decide +kernel⟩, h.w (List.mem_append_right _ (List.mem_append_right _ (List.mem_append_right _ (List.mem_append_right _ (List.mem_append_right _ (List.mem_append_left _ (List.mem_of_getElem? (i := 227) rfl))))))) rfl, h.w (List.mem_append_right _ (List.mem_append_right _ (List.mem_append_right _ (List.mem_append_right _ (List.mem_append_right _ (List.mem_append_left _ (List.mem_of_getElem? (i := 228) rfl))))))) rfl, (h.w (List.mem_append_right _ (List.mem_append_right _ (List.mem_append_right _ (List.mem_append_right _ (List.mem_append_right _ (List.mem_append_left _ (List.mem_of_getElem? (i := 229) rfl))))))) rfl), h.w (List.mem_append_right _ (List.mem_append_left _ (List.mem_of_getElem? (i := 11) rfl))) rfl, fun a U hW => wk_at hW rfl (h.w (a := #[]) (List.mem_append_right _ (List.mem_append_right _ (List.mem_append_right _ (List.mem_append_right _ (List.mem_append_right _ (List.mem_append_left _ (List.mem_of_getElem? (i := 230) rfl))))))) rfl)⟩
theorem cwl_154 (h : KK l G s) : LkV s args R_L R_M 154 y_M_draw cc_M_draw 2 none 0 := ⟨⟨by decide +kernel, by decide +kernel, by decide +kernel⟩, h.w (List.mem_append_right _ (List.mem_append_right _ (List.mem_append_right _ (List.mem_append_right _ (List.mem_append_right _ (List.mem_append_left _ (List.mem_of_getElem? (i := 231) rfl))))))) rfl, h.w (List.mem_append_right _ (List.mem_append_right _ (List.mem_append_right _ (List.mem_append_right _ (List.mem_append_right _ (List.mem_append_left _ (List.mem_of_getElem? (i := 232) rfl))))))) rfl, (h.w (List.mem_append_right _ (List.mem_append_right _ (List.mem_append_right _ (List.mem_append_right _ (List.mem_append_right _ (List.mem_append_left _ (List.mem_of_getElem? (i := 233) rfl))))))) rfl), h.w (List.mem_append_right _ (List.mem_append_left _ (List.mem_of_getElem? (i := 11) rfl))) rfl, fun a U hW => wk_at hW rfl (h.w (a := #[]) (List.mem_append_right _ (List.mem_append_right _ (List.mem_append_right _ (List.mem_append_right _ (List.mem_append_right _ (List.mem_append_left _ (List.mem_of_getElem? (i := 234) rfl))))))) rfl)⟩
theorem cwl_157 (h : KK l G s) : LkV s args R_L R_M 157 y_M_member cc_M_member 2 (some .int) 1 := ⟨⟨by decide +kernel, by decide +kernel, by decide +kernel⟩, h.w (List.mem_append_right _ (List.mem_append_right _ (List.mem_append_right _ (List.mem_append_right _ (List.mem_append_right _ (List.mem_append_left _ (List.mem_of_getElem? (i := 239) rfl))))))) rfl, h.w (List.mem_append_right _ (List.mem_append_right _ (List.mem_append_right _ (List.mem_append_right _ (List.mem_append_right _ (List.mem_append_right _ (List.mem_of_getElem? (i := 0) rfl))))))) rfl, (h.w (List.mem_append_right _ (List.mem_append_right _ (List.mem_append_right _ (List.mem_append_right _ (List.mem_append_right _ (List.mem_append_right _ (List.mem_of_getElem? (i := 1) rfl))))))) rfl), h.w (List.mem_append_right _ (List.mem_append_left _ (List.mem_of_getElem? (i := 11) rfl))) rfl, fun a U hW => wk_at hW rfl (h.w (a := #[]) (List.mem_append_right _ (List.mem_append_right _ (List.mem_append_right _ (List.mem_append_right _ (List.mem_append_right _ (List.mem_append_right _ (List.mem_of_getElem? (i := 2) rfl))))))) rfl)⟩
theorem cwl_160 (h : KK l G s) : LkV s args R_L R_M 160 y_M_dropOut cc_M_dropOut 2 none 1 := ⟨⟨by decide +kernel, by decide +kernel, by decide +kernel⟩, h.w (List.mem_append_right _ (List.mem_append_right _ (List.mem_append_right _ (List.mem_append_right _ (List.mem_append_right _ (List.mem_append_right _ (List.mem_of_getElem? (i := 3) rfl))))))) rfl, h.w (List.mem_append_right _ (List.mem_append_right _ (List.mem_append_right _ (List.mem_append_right _ (List.mem_append_right _ (List.mem_append_right _ (List.mem_of_getElem? (i := 4) rfl))))))) rfl, (h.w (List.mem_append_right _ (List.mem_append_right _ (List.mem_append_right _ (List.mem_append_right _ (List.mem_append_right _ (List.mem_append_right _ (List.mem_of_getElem? (i := 5) rfl))))))) rfl), h.w (List.mem_append_right _ (List.mem_append_left _ (List.mem_of_getElem? (i := 11) rfl))) rfl, fun a U hW => wk_at hW rfl (h.w (a := #[]) (List.mem_append_right _ (List.mem_append_right _ (List.mem_append_right _ (List.mem_append_right _ (List.mem_append_right _ (List.mem_append_right _ (List.mem_of_getElem? (i := 6) rfl))))))) rfl)⟩
theorem cwl_163 (h : KK l G s) : LkV s args R_L R_M 163 y_M_candidate cc_M_candidate 2 (some .int) 1 := ⟨⟨by decide +kernel, by decide +kernel, by decide +kernel⟩, h.w (List.mem_append_right _ (List.mem_append_right _ (List.mem_append_right _ (List.mem_append_right _ (List.mem_append_right _ (List.mem_append_right _ (List.mem_of_getElem? (i := 7) rfl))))))) rfl, h.w (List.mem_append_right _ (List.mem_append_right _ (List.mem_append_right _ (List.mem_append_right _ (List.mem_append_right _ (List.mem_append_right _ (List.mem_of_getElem? (i := 8) rfl))))))) rfl, (h.w (List.mem_append_right _ (List.mem_append_right _ (List.mem_append_right _ (List.mem_append_right _ (List.mem_append_right _ (List.mem_append_right _ (List.mem_of_getElem? (i := 9) rfl))))))) rfl), h.w (List.mem_append_right _ (List.mem_append_left _ (List.mem_of_getElem? (i := 11) rfl))) rfl, fun a U hW => wk_at hW rfl (h.w (a := #[]) (List.mem_append_right _ (List.mem_append_right _ (List.mem_append_right _ (List.mem_append_right _ (List.mem_append_right _ (List.mem_append_right _ (List.mem_of_getElem? (i := 10) rfl))))))) rfl)⟩
theorem cwl_166 (h : KK l G s) : LkV s args R_L R_M 166 y_M_replace cc_M_replace 2 (some .int) 0 := ⟨⟨by decide +kernel, by decide +kernel, by decide +kernel⟩, h.w (List.mem_append_right _ (List.mem_append_right _ (List.mem_append_right _ (List.mem_append_right _ (List.mem_append_right _ (List.mem_append_right _ (List.mem_of_getElem? (i := 15) rfl))))))) rfl, h.w (List.mem_append_right _ (List.mem_append_right _ (List.mem_append_right _ (List.mem_append_right _ (List.mem_append_right _ (List.mem_append_right _ (List.mem_of_getElem? (i := 16) rfl))))))) rfl, (h.w (List.mem_append_right _ (List.mem_append_right _ (List.mem_append_right _ (List.mem_append_right _ (List.mem_append_right _ (List.mem_append_right _ (List.mem_of_getElem? (i := 17) rfl))))))) rfl), h.w (List.mem_append_right _ (List.mem_append_left _ (List.mem_of_getElem? (i := 11) rfl))) rfl, fun a U hW => wk_at hW rfl (h.w (a := #[]) (List.mem_append_right _ (List.mem_append_right _ (List.mem_append_right _ (List.mem_append_right _ (List.mem_append_right _ (List.mem_append_right _ (List.mem_of_getElem? (i := 18) rfl))))))) rfl)⟩
theorem cwl_169 (h : KK l G s) : LkV s args R_L R_M 169 y_M_breach cc_M_breach 1 (some .int) 0 := ⟨⟨by decide +kernel, by decide +kernel, by decide +kernel⟩, h.w (List.mem_append_right _ (List.mem_append_right _ (List.mem_append_right _ (List.mem_append_right _ (List.mem_append_right _ (List.mem_append_right _ (List.mem_of_getElem? (i := 19) rfl))))))) rfl, h.w (List.mem_append_right _ (List.mem_append_right _ (List.mem_append_right _ (List.mem_append_right _ (List.mem_append_right _ (List.mem_append_right _ (List.mem_of_getElem? (i := 20) rfl))))))) rfl, (h.w (List.mem_append_right _ (List.mem_append_right _ (List.mem_append_right _ (List.mem_append_right _ (List.mem_append_right _ (List.mem_append_right _ (List.mem_of_getElem? (i := 21) rfl))))))) rfl), h.w (List.mem_append_right _ (List.mem_append_left _ (List.mem_of_getElem? (i := 11) rfl))) rfl, fun a U hW => wk_at hW rfl (h.w (a := #[]) (List.mem_append_right _ (List.mem_append_right _ (List.mem_append_right _ (List.mem_append_right _ (List.mem_append_right _ (List.mem_append_right _ (List.mem_of_getElem? (i := 22) rfl))))))) rfl)⟩
theorem cwl_170 (h : KK l G s) : LkV s args R_L R_O 170 y_O_reset cc_O_reset 1 none 0 := ⟨⟨by decide +kernel, by decide +kernel, by decide +kernel⟩, h.w (List.mem_append_right _ (List.mem_append_right _ (List.mem_append_left _ (List.mem_of_getElem? (i := 111) rfl)))) rfl, h.w (List.mem_append_right _ (List.mem_append_right _ (List.mem_append_left _ (List.mem_of_getElem? (i := 112) rfl)))) rfl, (h.w (List.mem_append_right _ (List.mem_append_right _ (List.mem_append_left _ (List.mem_of_getElem? (i := 113) rfl)))) rfl), h.w (List.mem_append_right _ (List.mem_append_left _ (List.mem_of_getElem? (i := 1) rfl))) rfl, fun a U hW => wk_at hW rfl (h.w (a := #[]) (List.mem_append_right _ (List.mem_append_right _ (List.mem_append_left _ (List.mem_of_getElem? (i := 114) rfl)))) rfl)⟩
theorem cwl_173 (h : KK l G s) : LkV s args R_L R_M 173 y_M_reset cc_M_reset 2 none 0 := ⟨⟨by decide +kernel, by decide +kernel, by decide +kernel⟩, h.w (List.mem_append_right _ (List.mem_append_right _ (List.mem_append_right _ (List.mem_append_right _ (List.mem_append_right _ (List.mem_append_right _ (List.mem_of_getElem? (i := 23) rfl))))))) rfl, h.w (List.mem_append_right _ (List.mem_append_right _ (List.mem_append_right _ (List.mem_append_right _ (List.mem_append_right _ (List.mem_append_right _ (List.mem_of_getElem? (i := 24) rfl))))))) rfl, (h.w (List.mem_append_right _ (List.mem_append_right _ (List.mem_append_right _ (List.mem_append_right _ (List.mem_append_right _ (List.mem_append_right _ (List.mem_of_getElem? (i := 25) rfl))))))) rfl), h.w (List.mem_append_right _ (List.mem_append_left _ (List.mem_of_getElem? (i := 11) rfl))) rfl, fun a U hW => wk_at hW rfl (h.w (a := #[]) (List.mem_append_right _ (List.mem_append_right _ (List.mem_append_right _ (List.mem_append_right _ (List.mem_append_right _ (List.mem_append_right _ (List.mem_of_getElem? (i := 26) rfl))))))) rfl)⟩
theorem lk_L_130 (h : KK l G s) : (Cond.constantLong R_L 130 4294967295).before args s = true := h.w (List.mem_append_right _ (List.mem_append_right _ (List.mem_append_right _ (List.mem_append_right _ (List.mem_append_right _ (List.mem_append_right _ (List.mem_of_getElem? (i := 27) rfl))))))) rfl
end LLinks
section LCases
variable {p : Program} {l : Launch} {e : Env} {s : State} {m : MethodId} {args : Array Value} {below : List Frame} {meth : Method} {c : Code} {G : GG} {b L : Nat} {xs : Nat → Int32} {cells slots : Nat} {Qg : State → Prop}
def J_law_753 (K : St → Prop) (v4 : Int32) (t0 : Int64) (t1 : Int64) (z0 : St) : Prop := ((t1 = t0) → K z0) ∧ ((¬ t1 = t0) → False)
set_option maxHeartbeats 4000000 in
set_option maxRecDepth 100000 in
theorem wJ_law_753 {K : St → Prop} {v4 : Int32} {t0 : Int64} {t1 : Int64} (E : EnL p l s m meth c args b L xs G) (hcs : cells + 1 ≤ 1097 ∧ slots + 6 ≤ 24514) (hK : ∀ (z0 : St) (ls : Array Slot) (H : Heap) (locs : List Loc), K z0 → lv_has ls 8 [(0, .ref b), (1, .ref (ha G 0)), (2, .ref (ha G 31)), (3, .ref (ha G 49)), (4, .int v4)] → Wd G z0 s.heap H locs → W p l e room_1 s m args below meth c H locs (cells + 1) (slots + 6) Qg (F0 m 1231 ls [])) (z0 : St) (ls : Array Slot) (H : Heap) (locs : List Loc) (hP : J_law_753 K v4 t0 t1 z0) (hl : lv_has ls 8 [(0, .ref b), (1, .ref (ha G 0)), (2, .ref (ha G 31)), (3, .ref (ha G 49)), (4, .int v4)]) (hW : Wd G z0 s.heap H locs) : W p l e room_1 s m args below meth c H locs (cells + 1) (slots + 6) Qg (F0 m 753 ls [.long t0, .long t1]) := by
  obtain ⟨hx, hb, hml, hown, hr, hlk, hX, hbl, hba, hE⟩ := id E
  refine W.lcmp hx hb d_L_law_753 ?_
  refine lv_if_eq (tgt := 759) hx hb d_L_law_754 rfl (fun hc => ?_) (fun hc => ?_)
  · have hP := hP.1 (lgc_eqt hc)
    refine lv_goto (tgt := 1231) hx hb d_L_law_759 rfl ?_
    exact hK _ _ _ _ hP hl hW
  · have hP := hP.2 (lgc_eqf hc)
    exact hP.elim
def B_0 (x1 x2 x3 x4 v4 : Int32) (z0 : St) (K : St → Prop) : Prop := P_L_trait x1 x2 z0 (fun (y2 : Int32) (z1 : St) => P_M_trait x1 x2 z1 (fun (z3 : St) => P_M_thrown z3 (fun (y5 : Int32) (z4 : St) => ((y5 = y2) → K z4) ∧ ((¬ y5 = y2) → False))))
set_option maxHeartbeats 4000000 in
set_option maxRecDepth 100000 in
theorem wB_0 {K : St → Prop} {x1 x2 x3 x4 v4 : Int32} (E : EnL p l s m meth c args b L xs G) (hcs : cells + 1 ≤ 1097 ∧ slots + 6 ≤ 24514) (hK : ∀ (z0 : St) (ls : Array Slot) (H : Heap) (locs : List Loc), K z0 → lv_has ls 8 [(0, .ref b), (1, .ref (ha G 0)), (2, .ref (ha G 31)), (3, .ref (ha G 49)), (4, .int v4)] → Wd G z0 s.heap H locs → W p l e room_1 s m args below meth c H locs (cells + 1) (slots + 6) Qg (F0 m 1231 ls [])) (hs1 : vp_in (v4 + 1) L ∧ xs (v4 + 1).toNatClampNeg = x1) (hs2 : vp_in (v4 + 2) L ∧ xs (v4 + 2).toNatClampNeg = x2) (hs3 : vp_in (v4 + 3) L ∧ xs (v4 + 3).toNatClampNeg = x3) (hs4 : vp_in (v4 + 4) L ∧ xs (v4 + 4).toNatClampNeg = x4) (z0 : St) (ls : Array Slot) (H : Heap) (locs : List Loc) (hP : B_0 x1 x2 x3 x4 v4 z0 K) (hl : lv_has ls 8 [(0, .ref b), (1, .ref (ha G 0)), (2, .ref (ha G 31)), (3, .ref (ha G 49)), (4, .int v4)]) (hW : Wd G z0 s.heap H locs) : W p l e room_1 s m args below meth c H locs cells slots Qg (F0 m 140 ls []) := by
  obtain ⟨hx, hb, hml, hown, hr, hlk, hX, hbl, hba, hE⟩ := id E
  refine lv_aload_n hx hb d_L_law_140 rfl (lv_at hl 1 rfl) ?_
  refine lv_aload_n hx hb d_L_law_141 rfl (lv_at hl 0 rfl) ?_
  refine lv_iload hx hb d_L_law_142 (lv_at hl 4 rfl) ?_
  refine lv_iconst (v := 1) hx hb d_L_law_144 (by decide) ?_
  refine lv_iadd hx hb d_L_law_145 ?_
  refine ysl E hW hs1.1 hs1.2 d_L_law_146 ?_
  refine lv_aload_n hx hb d_L_law_147 rfl (lv_at hl 0 rfl) ?_
  refine lv_iload hx hb d_L_law_148 (lv_at hl 4 rfl) ?_
  refine lv_iconst (v := 2) hx hb d_L_law_150 (by decide) ?_
  refine lv_iadd hx hb d_L_law_151 ?_
  refine ysl E hW hs2.1 hs2.2 d_L_law_152 ?_
  refine yLS (As := [.ref (ha G 0), .int x1, .int x2]) (rest := []) E (c_L_trait _ _ _ _ hP) (cwl_91 hE) (by decide) hcs hW hl.1 rfl rfl rfl d_L_law_153 (fun y2 z1 H locs hP hW => ?_)
  refine lv_istore (lv' := [(5, .int y2), (0, .ref b), (1, .ref (ha G 0)), (2, .ref (ha G 31)), (3, .ref (ha G 49)), (4, .int v4)]) hx hb d_L_law_156 hl (by decide) rfl (fun ls hl => ?_)
  refine lv_aload_n hx hb d_L_law_158 rfl (lv_at hl 3 rfl) ?_
  refine lv_aload_n hx hb d_L_law_159 rfl (lv_at hl 1 rfl) ?_
  refine lv_iload hx hb d_L_law_160 (lv_at hl 5 rfl) ?_
  refine lv_iconst (v := 1) hx hb d_L_law_162 (by decide) ?_
  refine lv_iadd hx hb d_L_law_163 ?_
  refine ysl E hW hs1.1 hs1.2 d_L_law_164 ?_
  refine lv_aload_n hx hb d_L_law_165 rfl (lv_at hl 1 rfl) ?_
  refine lv_iload hx hb d_L_law_166 (lv_at hl 5 rfl) ?_
  refine lv_iconst (v := 2) hx hb d_L_law_168 (by decide) ?_
  refine lv_iadd hx hb d_L_law_169 ?_
  refine ysl E hW hs2.1 hs2.2 d_L_law_170 ?_
  refine yLV_v (As := [.int x1, .int x2]) (rest := []) E (c_M_trait _ _ _ _ hP) (cwl_96 hE) (yrv_31 hE hW) (by decide) hcs hW hl.1 rfl rfl rfl d_L_law_171 (fun z3 H locs hP hW => ?_)
  refine lv_aload_n hx hb d_L_law_174 rfl (lv_at hl 3 rfl) ?_
  refine yLV_i (As := []) (rest := []) E (c_M_thrown _ _ hP) (cwl_97 hE) (yrv_31 hE hW) (by decide) hcs hW hl.1 rfl rfl rfl d_L_law_175 (fun y5 z4 H locs hP hW => ?_)
  refine lv_iload hx hb d_L_law_178 (lv_at hl 0 rfl) ?_
  refine lv_icmp_eq (tgt := 185) hx hb d_L_law_180 rfl (fun hc => ?_) (fun hc => ?_)
  · have hP := hP.1 hc
    refine lv_goto (tgt := 1231) hx hb d_L_law_185 rfl ?_
    exact hK _ _ _ _ hP (lv_sub hl [1, 2, 3, 4, 5] rfl) hW
  · have hP := hP.2 hc
    exact hP.elim
def B_1 (x1 x2 x3 x4 v4 : Int32) (z0 : St) (K : St → Prop) : Prop := P_L_person x1 x2 x3 z0 (fun (y7 : Int32) (z6 : St) => P_M_person x1 x2 x3 z6 (fun (y9 : Int32) (z8 : St) => P_M_thrown z8 (fun (y11 : Int32) (z10 : St) => ((y11 = y7) → ((¬ y7 = 0) → K z10) ∧ ((y7 = 0) → vp_in (0 : Int32) 1 ∧ (((z10.2 49 (0 : Int32).toNatClampNeg) = y9.toInt64) → K z10) ∧ ((¬ (z10.2 49 (0 : Int32).toNatClampNeg) = y9.toInt64) → False))) ∧ ((¬ y11 = y7) → False))))
set_option maxHeartbeats 4000000 in
set_option maxRecDepth 100000 in
theorem wB_1 {K : St → Prop} {x1 x2 x3 x4 v4 : Int32} (E : EnL p l s m meth c args b L xs G) (hcs : cells + 1 ≤ 1097 ∧ slots + 6 ≤ 24514) (hK : ∀ (z0 : St) (ls : Array Slot) (H : Heap) (locs : List Loc), K z0 → lv_has ls 8 [(0, .ref b), (1, .ref (ha G 0)), (2, .ref (ha G 31)), (3, .ref (ha G 49)), (4, .int v4)] → Wd G z0 s.heap H locs → W p l e room_1 s m args below meth c H locs (cells + 1) (slots + 6) Qg (F0 m 1231 ls [])) (hs1 : vp_in (v4 + 1) L ∧ xs (v4 + 1).toNatClampNeg = x1) (hs2 : vp_in (v4 + 2) L ∧ xs (v4 + 2).toNatClampNeg = x2) (hs3 : vp_in (v4 + 3) L ∧ xs (v4 + 3).toNatClampNeg = x3) (hs4 : vp_in (v4 + 4) L ∧ xs (v4 + 4).toNatClampNeg = x4) (z0 : St) (ls : Array Slot) (H : Heap) (locs : List Loc) (hP : B_1 x1 x2 x3 x4 v4 z0 K) (hl : lv_has ls 8 [(0, .ref b), (1, .ref (ha G 0)), (2, .ref (ha G 31)), (3, .ref (ha G 49)), (4, .int v4)]) (hW : Wd G z0 s.heap H locs) : W p l e room_1 s m args below meth c H locs cells slots Qg (F0 m 188 ls []) := by
  obtain ⟨hx, hb, hml, hown, hr, hlk, hX, hbl, hba, hE⟩ := id E
  refine lv_aload_n hx hb d_L_law_188 rfl (lv_at hl 1 rfl) ?_
  refine lv_aload_n hx hb d_L_law_189 rfl (lv_at hl 0 rfl) ?_
  refine lv_iload hx hb d_L_law_190 (lv_at hl 4 rfl) ?_
  refine lv_iconst (v := 1) hx hb d_L_law_192 (by decide) ?_
  refine lv_iadd hx hb d_L_law_193 ?_
  refine ysl E hW hs1.1 hs1.2 d_L_law_194 ?_
  refine lv_aload_n hx hb d_L_law_195 rfl (lv_at hl 0 rfl) ?_
  refine lv_iload hx hb d_L_law_196 (lv_at hl 4 rfl) ?_
  refine lv_iconst (v := 2) hx hb d_L_law_198 (by decide) ?_
  refine lv_iadd hx hb d_L_law_199 ?_
  refine ysl E hW hs2.1 hs2.2 d_L_law_200 ?_
  refine lv_aload_n hx hb d_L_law_201 rfl (lv_at hl 0 rfl) ?_
  refine lv_iload hx hb d_L_law_202 (lv_at hl 4 rfl) ?_
  refine lv_iconst (v := 3) hx hb d_L_law_204 (by decide) ?_
  refine lv_iadd hx hb d_L_law_205 ?_
  refine ysl E hW hs3.1 hs3.2 d_L_law_206 ?_
  refine lv_aload_n hx hb d_L_law_207 rfl (lv_at hl 3 rfl) ?_
  refine yLS (As := [.ref (ha G 0), .int x1, .int x2, .int x3, .ref (ha G 49)]) (rest := []) E (c_L_person _ _ _ _ _ hP) (cwl_100 hE) (by decide) hcs hW hl.1 rfl rfl rfl d_L_law_208 (fun y7 z6 H locs hP hW => ?_)
  refine lv_istore (lv' := [(5, .int y7), (0, .ref b), (1, .ref (ha G 0)), (2, .ref (ha G 31)), (3, .ref (ha G 49)), (4, .int v4)]) hx hb d_L_law_211 hl (by decide) rfl (fun ls hl => ?_)
  refine lv_aload_n hx hb d_L_law_213 rfl (lv_at hl 3 rfl) ?_
  refine lv_aload_n hx hb d_L_law_214 rfl (lv_at hl 1 rfl) ?_
  refine lv_iload hx hb d_L_law_215 (lv_at hl 5 rfl) ?_
  refine lv_iconst (v := 1) hx hb d_L_law_217 (by decide) ?_
  refine lv_iadd hx hb d_L_law_218 ?_
  refine ysl E hW hs1.1 hs1.2 d_L_law_219 ?_
  refine lv_aload_n hx hb d_L_law_220 rfl (lv_at hl 1 rfl) ?_
  refine lv_iload hx hb d_L_law_221 (lv_at hl 5 rfl) ?_
  refine lv_iconst (v := 2) hx hb d_L_law_223 (by decide) ?_
  refine lv_iadd hx hb d_L_law_224 ?_
  refine ysl E hW hs2.1 hs2.2 d_L_law_225 ?_
  refine lv_aload_n hx hb d_L_law_226 rfl (lv_at hl 1 rfl) ?_
  refine lv_iload hx hb d_L_law_227 (lv_at hl 5 rfl) ?_
  refine lv_iconst (v := 3) hx hb d_L_law_229 (by decide) ?_
  refine lv_iadd hx hb d_L_law_230 ?_
  refine ysl E hW hs3.1 hs3.2 d_L_law_231 ?_
  refine yLV_i (As := [.int x1, .int x2, .int x3]) (rest := []) E (c_M_person _ _ _ _ _ hP) (cwl_103 hE) (yrv_31 hE hW) (by decide) hcs hW hl.1 rfl rfl rfl d_L_law_232 (fun y9 z8 H locs hP hW => ?_)
  refine lv_istore (lv' := [(6, .int y9), (5, .int y7), (0, .ref b), (1, .ref (ha G 0)), (2, .ref (ha G 31)), (3, .ref (ha G 49)), (4, .int v4)]) hx hb d_L_law_235 hl (by decide) rfl (fun ls hl => ?_)
  refine lv_aload_n hx hb d_L_law_237 rfl (lv_at hl 4 rfl) ?_
  refine yLV_i (As := []) (rest := []) E (c_M_thrown _ _ hP) (cwl_97 hE) (yrv_31 hE hW) (by decide) hcs hW hl.1 rfl rfl rfl d_L_law_238 (fun y11 z10 H locs hP hW => ?_)
  refine lv_iload hx hb d_L_law_241 (lv_at hl 1 rfl) ?_
  refine lv_icmp_eq (tgt := 248) hx hb d_L_law_243 rfl (fun hc => ?_) (fun hc => ?_)
  · have hP := hP.1 hc
    refine lv_iload hx hb d_L_law_248 (lv_at hl 1 rfl) ?_
    refine lv_if_ne (tgt := 265) hx hb d_L_law_250 rfl (fun hc => ?_) (fun hc => ?_)
    · have hP := hP.1 hc
      refine lv_goto (tgt := 1231) hx hb d_L_law_265 rfl ?_
      exact hK _ _ _ _ hP (lv_sub hl [2, 3, 4, 5, 6] rfl) hW
    · have hP := hP.2 hc
      refine lv_aload_n hx hb d_L_law_253 rfl (lv_at hl 5 rfl) ?_
      refine lv_iconst (v := 0) hx hb d_L_law_254 (by decide) ?_
      refine ya_49 hx hb hE hW hP.1 d_L_law_255 ?_
      have hP := hP.2
      refine lv_iload hx hb d_L_law_256 (lv_at hl 0 rfl) ?_
      refine lv_i2l hx hb d_L_law_258 rfl ?_
      refine W.lcmp hx hb d_L_law_259 ?_
      refine lv_if_eq (tgt := 265) hx hb d_L_law_260 rfl (fun hc => ?_) (fun hc => ?_)
      · have hP := hP.1 (lgc_eqt hc)
        refine lv_goto (tgt := 1231) hx hb d_L_law_265 rfl ?_
        exact hK _ _ _ _ hP (lv_sub hl [2, 3, 4, 5, 6] rfl) hW
      · have hP := hP.2 (lgc_eqf hc)
        exact hP.elim
  · have hP := hP.2 hc
    exact hP.elim
def B_2 (x1 x2 x3 x4 v4 : Int32) (z0 : St) (K : St → Prop) : Prop := P_L_quota x1 x2 x3 x4 z0 (fun (y13 : Int32) (z12 : St) => P_M_quota x1 x2 x3 x4 z12 (fun (z14 : St) => P_M_thrown z14 (fun (y16 : Int32) (z15 : St) => ((y16 = y13) → K z15) ∧ ((¬ y16 = y13) → False))))
set_option maxHeartbeats 4000000 in
set_option maxRecDepth 100000 in
theorem wB_2 {K : St → Prop} {x1 x2 x3 x4 v4 : Int32} (E : EnL p l s m meth c args b L xs G) (hcs : cells + 1 ≤ 1097 ∧ slots + 6 ≤ 24514) (hK : ∀ (z0 : St) (ls : Array Slot) (H : Heap) (locs : List Loc), K z0 → lv_has ls 8 [(0, .ref b), (1, .ref (ha G 0)), (2, .ref (ha G 31)), (3, .ref (ha G 49)), (4, .int v4)] → Wd G z0 s.heap H locs → W p l e room_1 s m args below meth c H locs (cells + 1) (slots + 6) Qg (F0 m 1231 ls [])) (hs1 : vp_in (v4 + 1) L ∧ xs (v4 + 1).toNatClampNeg = x1) (hs2 : vp_in (v4 + 2) L ∧ xs (v4 + 2).toNatClampNeg = x2) (hs3 : vp_in (v4 + 3) L ∧ xs (v4 + 3).toNatClampNeg = x3) (hs4 : vp_in (v4 + 4) L ∧ xs (v4 + 4).toNatClampNeg = x4) (z0 : St) (ls : Array Slot) (H : Heap) (locs : List Loc) (hP : B_2 x1 x2 x3 x4 v4 z0 K) (hl : lv_has ls 8 [(0, .ref b), (1, .ref (ha G 0)), (2, .ref (ha G 31)), (3, .ref (ha G 49)), (4, .int v4)]) (hW : Wd G z0 s.heap H locs) : W p l e room_1 s m args below meth c H locs cells slots Qg (F0 m 268 ls []) := by
  obtain ⟨hx, hb, hml, hown, hr, hlk, hX, hbl, hba, hE⟩ := id E
  refine lv_aload_n hx hb d_L_law_268 rfl (lv_at hl 1 rfl) ?_
  refine lv_aload_n hx hb d_L_law_269 rfl (lv_at hl 0 rfl) ?_
  refine lv_iload hx hb d_L_law_270 (lv_at hl 4 rfl) ?_
  refine lv_iconst (v := 1) hx hb d_L_law_272 (by decide) ?_
  refine lv_iadd hx hb d_L_law_273 ?_
  refine ysl E hW hs1.1 hs1.2 d_L_law_274 ?_
  refine lv_aload_n hx hb d_L_law_275 rfl (lv_at hl 0 rfl) ?_
  refine lv_iload hx hb d_L_law_276 (lv_at hl 4 rfl) ?_
  refine lv_iconst (v := 2) hx hb d_L_law_278 (by decide) ?_
  refine lv_iadd hx hb d_L_law_279 ?_
  refine ysl E hW hs2.1 hs2.2 d_L_law_280 ?_
  refine lv_aload_n hx hb d_L_law_281 rfl (lv_at hl 0 rfl) ?_
  refine lv_iload hx hb d_L_law_282 (lv_at hl 4 rfl) ?_
  refine lv_iconst (v := 3) hx hb d_L_law_284 (by decide) ?_
  refine lv_iadd hx hb d_L_law_285 ?_
  refine ysl E hW hs3.1 hs3.2 d_L_law_286 ?_
  refine lv_aload_n hx hb d_L_law_287 rfl (lv_at hl 0 rfl) ?_
  refine lv_iload hx hb d_L_law_288 (lv_at hl 4 rfl) ?_
  refine lv_iconst (v := 4) hx hb d_L_law_290 (by decide) ?_
  refine lv_iadd hx hb d_L_law_291 ?_
  refine ysl E hW hs4.1 hs4.2 d_L_law_292 ?_
  refine yLS (As := [.ref (ha G 0), .int x1, .int x2, .int x3, .int x4]) (rest := []) E (c_L_quota _ _ _ _ _ _ hP) (cwl_104 hE) (by decide) hcs hW hl.1 rfl rfl rfl d_L_law_293 (fun y13 z12 H locs hP hW => ?_)
  refine lv_istore (lv' := [(5, .int y13), (0, .ref b), (1, .ref (ha G 0)), (2, .ref (ha G 31)), (3, .ref (ha G 49)), (4, .int v4)]) hx hb d_L_law_296 hl (by decide) rfl (fun ls hl => ?_)
  refine lv_aload_n hx hb d_L_law_298 rfl (lv_at hl 3 rfl) ?_
  refine lv_aload_n hx hb d_L_law_299 rfl (lv_at hl 1 rfl) ?_
  refine lv_iload hx hb d_L_law_300 (lv_at hl 5 rfl) ?_
  refine lv_iconst (v := 1) hx hb d_L_law_302 (by decide) ?_
  refine lv_iadd hx hb d_L_law_303 ?_
  refine ysl E hW hs1.1 hs1.2 d_L_law_304 ?_
  refine lv_aload_n hx hb d_L_law_305 rfl (lv_at hl 1 rfl) ?_
  refine lv_iload hx hb d_L_law_306 (lv_at hl 5 rfl) ?_
  refine lv_iconst (v := 2) hx hb d_L_law_308 (by decide) ?_
  refine lv_iadd hx hb d_L_law_309 ?_
  refine ysl E hW hs2.1 hs2.2 d_L_law_310 ?_
  refine lv_aload_n hx hb d_L_law_311 rfl (lv_at hl 1 rfl) ?_
  refine lv_iload hx hb d_L_law_312 (lv_at hl 5 rfl) ?_
  refine lv_iconst (v := 3) hx hb d_L_law_314 (by decide) ?_
  refine lv_iadd hx hb d_L_law_315 ?_
  refine ysl E hW hs3.1 hs3.2 d_L_law_316 ?_
  refine lv_aload_n hx hb d_L_law_317 rfl (lv_at hl 1 rfl) ?_
  refine lv_iload hx hb d_L_law_318 (lv_at hl 5 rfl) ?_
  refine lv_iconst (v := 4) hx hb d_L_law_320 (by decide) ?_
  refine lv_iadd hx hb d_L_law_321 ?_
  refine ysl E hW hs4.1 hs4.2 d_L_law_322 ?_
  refine yLV_v (As := [.int x1, .int x2, .int x3, .int x4]) (rest := []) E (c_M_quota _ _ _ _ _ _ hP) (cwl_107 hE) (yrv_31 hE hW) (by decide) hcs hW hl.1 rfl rfl rfl d_L_law_323 (fun z14 H locs hP hW => ?_)
  refine lv_aload_n hx hb d_L_law_326 rfl (lv_at hl 3 rfl) ?_
  refine yLV_i (As := []) (rest := []) E (c_M_thrown _ _ hP) (cwl_97 hE) (yrv_31 hE hW) (by decide) hcs hW hl.1 rfl rfl rfl d_L_law_327 (fun y16 z15 H locs hP hW => ?_)
  refine lv_iload hx hb d_L_law_330 (lv_at hl 0 rfl) ?_
  refine lv_icmp_eq (tgt := 337) hx hb d_L_law_332 rfl (fun hc => ?_) (fun hc => ?_)
  · have hP := hP.1 hc
    refine lv_goto (tgt := 1231) hx hb d_L_law_337 rfl ?_
    exact hK _ _ _ _ hP (lv_sub hl [1, 2, 3, 4, 5] rfl) hW
  · have hP := hP.2 hc
    exact hP.elim
def B_3 (x1 x2 x3 x4 v4 : Int32) (z0 : St) (K : St → Prop) : Prop := P_L_size x1 z0 (fun (y18 : Int32) (z17 : St) => P_M_size x1 z17 (fun (z19 : St) => P_M_thrown z19 (fun (y21 : Int32) (z20 : St) => ((y21 = y18) → K z20) ∧ ((¬ y21 = y18) → False))))
set_option maxHeartbeats 4000000 in
set_option maxRecDepth 100000 in
theorem wB_3 {K : St → Prop} {x1 x2 x3 x4 v4 : Int32} (E : EnL p l s m meth c args b L xs G) (hcs : cells + 1 ≤ 1097 ∧ slots + 6 ≤ 24514) (hK : ∀ (z0 : St) (ls : Array Slot) (H : Heap) (locs : List Loc), K z0 → lv_has ls 8 [(0, .ref b), (1, .ref (ha G 0)), (2, .ref (ha G 31)), (3, .ref (ha G 49)), (4, .int v4)] → Wd G z0 s.heap H locs → W p l e room_1 s m args below meth c H locs (cells + 1) (slots + 6) Qg (F0 m 1231 ls [])) (hs1 : vp_in (v4 + 1) L ∧ xs (v4 + 1).toNatClampNeg = x1) (hs2 : vp_in (v4 + 2) L ∧ xs (v4 + 2).toNatClampNeg = x2) (hs3 : vp_in (v4 + 3) L ∧ xs (v4 + 3).toNatClampNeg = x3) (hs4 : vp_in (v4 + 4) L ∧ xs (v4 + 4).toNatClampNeg = x4) (z0 : St) (ls : Array Slot) (H : Heap) (locs : List Loc) (hP : B_3 x1 x2 x3 x4 v4 z0 K) (hl : lv_has ls 8 [(0, .ref b), (1, .ref (ha G 0)), (2, .ref (ha G 31)), (3, .ref (ha G 49)), (4, .int v4)]) (hW : Wd G z0 s.heap H locs) : W p l e room_1 s m args below meth c H locs cells slots Qg (F0 m 340 ls []) := by
  obtain ⟨hx, hb, hml, hown, hr, hlk, hX, hbl, hba, hE⟩ := id E
  refine lv_aload_n hx hb d_L_law_340 rfl (lv_at hl 1 rfl) ?_
  refine lv_aload_n hx hb d_L_law_341 rfl (lv_at hl 0 rfl) ?_
  refine lv_iload hx hb d_L_law_342 (lv_at hl 4 rfl) ?_
  refine lv_iconst (v := 1) hx hb d_L_law_344 (by decide) ?_
  refine lv_iadd hx hb d_L_law_345 ?_
  refine ysl E hW hs1.1 hs1.2 d_L_law_346 ?_
  refine yLS (As := [.ref (ha G 0), .int x1]) (rest := []) E (c_L_size _ _ _ hP) (cwl_108 hE) (by decide) hcs hW hl.1 rfl rfl rfl d_L_law_347 (fun y18 z17 H locs hP hW => ?_)
  refine lv_istore (lv' := [(5, .int y18), (0, .ref b), (1, .ref (ha G 0)), (2, .ref (ha G 31)), (3, .ref (ha G 49)), (4, .int v4)]) hx hb d_L_law_350 hl (by decide) rfl (fun ls hl => ?_)
  refine lv_aload_n hx hb d_L_law_352 rfl (lv_at hl 3 rfl) ?_
  refine lv_aload_n hx hb d_L_law_353 rfl (lv_at hl 1 rfl) ?_
  refine lv_iload hx hb d_L_law_354 (lv_at hl 5 rfl) ?_
  refine lv_iconst (v := 1) hx hb d_L_law_356 (by decide) ?_
  refine lv_iadd hx hb d_L_law_357 ?_
  refine ysl E hW hs1.1 hs1.2 d_L_law_358 ?_
  refine yLV_v (As := [.int x1]) (rest := []) E (c_M_size _ _ _ hP) (cwl_111 hE) (yrv_31 hE hW) (by decide) hcs hW hl.1 rfl rfl rfl d_L_law_359 (fun z19 H locs hP hW => ?_)
  refine lv_aload_n hx hb d_L_law_362 rfl (lv_at hl 3 rfl) ?_
  refine yLV_i (As := []) (rest := []) E (c_M_thrown _ _ hP) (cwl_97 hE) (yrv_31 hE hW) (by decide) hcs hW hl.1 rfl rfl rfl d_L_law_363 (fun y21 z20 H locs hP hW => ?_)
  refine lv_iload hx hb d_L_law_366 (lv_at hl 0 rfl) ?_
  refine lv_icmp_eq (tgt := 373) hx hb d_L_law_368 rfl (fun hc => ?_) (fun hc => ?_)
  · have hP := hP.1 hc
    refine lv_goto (tgt := 1231) hx hb d_L_law_373 rfl ?_
    exact hK _ _ _ _ hP (lv_sub hl [1, 2, 3, 4, 5] rfl) hW
  · have hP := hP.2 hc
    exact hP.elim
def B_4 (x1 x2 x3 x4 v4 : Int32) (z0 : St) (K : St → Prop) : Prop := P_L_count z0 (fun (y23 : Int32) (z22 : St) => P_M_count z22 (fun (y25 : Int64) (z24 : St) => P_M_thrown z24 (fun (y27 : Int32) (z26 : St) => ((y27 = y23) → ((¬ y23 = 0) → K z26) ∧ ((y23 = 0) → vp_in (0 : Int32) 1 ∧ (((z26.2 49 (0 : Int32).toNatClampNeg) = y25) → K z26) ∧ ((¬ (z26.2 49 (0 : Int32).toNatClampNeg) = y25) → False))) ∧ ((¬ y27 = y23) → False))))
set_option maxHeartbeats 4000000 in
set_option maxRecDepth 100000 in
theorem wB_4 {K : St → Prop} {x1 x2 x3 x4 v4 : Int32} (E : EnL p l s m meth c args b L xs G) (hcs : cells + 1 ≤ 1097 ∧ slots + 6 ≤ 24514) (hK : ∀ (z0 : St) (ls : Array Slot) (H : Heap) (locs : List Loc), K z0 → lv_has ls 8 [(0, .ref b), (1, .ref (ha G 0)), (2, .ref (ha G 31)), (3, .ref (ha G 49)), (4, .int v4)] → Wd G z0 s.heap H locs → W p l e room_1 s m args below meth c H locs (cells + 1) (slots + 6) Qg (F0 m 1231 ls [])) (hs1 : vp_in (v4 + 1) L ∧ xs (v4 + 1).toNatClampNeg = x1) (hs2 : vp_in (v4 + 2) L ∧ xs (v4 + 2).toNatClampNeg = x2) (hs3 : vp_in (v4 + 3) L ∧ xs (v4 + 3).toNatClampNeg = x3) (hs4 : vp_in (v4 + 4) L ∧ xs (v4 + 4).toNatClampNeg = x4) (z0 : St) (ls : Array Slot) (H : Heap) (locs : List Loc) (hP : B_4 x1 x2 x3 x4 v4 z0 K) (hl : lv_has ls 8 [(0, .ref b), (1, .ref (ha G 0)), (2, .ref (ha G 31)), (3, .ref (ha G 49)), (4, .int v4)]) (hW : Wd G z0 s.heap H locs) : W p l e room_1 s m args below meth c H locs cells slots Qg (F0 m 376 ls []) := by
  obtain ⟨hx, hb, hml, hown, hr, hlk, hX, hbl, hba, hE⟩ := id E
  refine lv_aload_n hx hb d_L_law_376 rfl (lv_at hl 1 rfl) ?_
  refine lv_aload_n hx hb d_L_law_377 rfl (lv_at hl 3 rfl) ?_
  refine yLS (As := [.ref (ha G 0), .ref (ha G 49)]) (rest := []) E (c_L_count _ _ hP) (cwl_112 hE) (by decide) hcs hW hl.1 rfl rfl rfl d_L_law_378 (fun y23 z22 H locs hP hW => ?_)
  refine lv_istore (lv' := [(5, .int y23), (0, .ref b), (1, .ref (ha G 0)), (2, .ref (ha G 31)), (3, .ref (ha G 49)), (4, .int v4)]) hx hb d_L_law_381 hl (by decide) rfl (fun ls hl => ?_)
  refine lv_aload_n hx hb d_L_law_383 rfl (lv_at hl 3 rfl) ?_
  refine yLV_l (As := []) (rest := []) E (c_M_count _ _ hP) (cwl_115 hE) (yrv_31 hE hW) (by decide) hcs hW hl.1 rfl rfl rfl d_L_law_384 (fun y25 z24 H locs hP hW => ?_)
  refine lv_lstore (lv' := [(6, .long y25), (5, .int y23), (0, .ref b), (1, .ref (ha G 0)), (2, .ref (ha G 31)), (3, .ref (ha G 49)), (4, .int v4)]) hx hb d_L_law_387 hl (by decide) rfl (fun ls hl => ?_)
  refine lv_aload_n hx hb d_L_law_389 rfl (lv_at hl 4 rfl) ?_
  refine yLV_i (As := []) (rest := []) E (c_M_thrown _ _ hP) (cwl_97 hE) (yrv_31 hE hW) (by decide) hcs hW hl.1 rfl rfl rfl d_L_law_390 (fun y27 z26 H locs hP hW => ?_)
  refine lv_iload hx hb d_L_law_393 (lv_at hl 1 rfl) ?_
  refine lv_icmp_eq (tgt := 400) hx hb d_L_law_395 rfl (fun hc => ?_) (fun hc => ?_)
  · have hP := hP.1 hc
    refine lv_iload hx hb d_L_law_400 (lv_at hl 1 rfl) ?_
    refine lv_if_ne (tgt := 416) hx hb d_L_law_402 rfl (fun hc => ?_) (fun hc => ?_)
    · have hP := hP.1 hc
      refine lv_goto (tgt := 1231) hx hb d_L_law_416 rfl ?_
      exact hK _ _ _ _ hP (lv_sub hl [2, 3, 4, 5, 6] rfl) hW
    · have hP := hP.2 hc
      refine lv_aload_n hx hb d_L_law_405 rfl (lv_at hl 5 rfl) ?_
      refine lv_iconst (v := 0) hx hb d_L_law_406 (by decide) ?_
      refine ya_49 hx hb hE hW hP.1 d_L_law_407 ?_
      have hP := hP.2
      refine lv_lload hx hb d_L_law_408 (lv_at hl 0 rfl) ?_
      refine W.lcmp hx hb d_L_law_410 ?_
      refine lv_if_eq (tgt := 416) hx hb d_L_law_411 rfl (fun hc => ?_) (fun hc => ?_)
      · have hP := hP.1 (lgc_eqt hc)
        refine lv_goto (tgt := 1231) hx hb d_L_law_416 rfl ?_
        exact hK _ _ _ _ hP (lv_sub hl [2, 3, 4, 5, 6] rfl) hW
      · have hP := hP.2 (lgc_eqf hc)
        exact hP.elim
  · have hP := hP.2 hc
    exact hP.elim
def B_5 (x1 x2 x3 x4 v4 : Int32) (z0 : St) (K : St → Prop) : Prop := P_O_states z0 (fun (y29 : Int32) (z28 : St) => P_M_states z28 (fun (y31 : Int32) (z30 : St) => ((y29 = y31) → K z30) ∧ ((¬ y29 = y31) → False)))
set_option maxHeartbeats 4000000 in
set_option maxRecDepth 100000 in
theorem wB_5 {K : St → Prop} {x1 x2 x3 x4 v4 : Int32} (E : EnL p l s m meth c args b L xs G) (hcs : cells + 1 ≤ 1097 ∧ slots + 6 ≤ 24514) (hK : ∀ (z0 : St) (ls : Array Slot) (H : Heap) (locs : List Loc), K z0 → lv_has ls 8 [(0, .ref b), (1, .ref (ha G 0)), (2, .ref (ha G 31)), (3, .ref (ha G 49)), (4, .int v4)] → Wd G z0 s.heap H locs → W p l e room_1 s m args below meth c H locs (cells + 1) (slots + 6) Qg (F0 m 1231 ls [])) (hs1 : vp_in (v4 + 1) L ∧ xs (v4 + 1).toNatClampNeg = x1) (hs2 : vp_in (v4 + 2) L ∧ xs (v4 + 2).toNatClampNeg = x2) (hs3 : vp_in (v4 + 3) L ∧ xs (v4 + 3).toNatClampNeg = x3) (hs4 : vp_in (v4 + 4) L ∧ xs (v4 + 4).toNatClampNeg = x4) (z0 : St) (ls : Array Slot) (H : Heap) (locs : List Loc) (hP : B_5 x1 x2 x3 x4 v4 z0 K) (hl : lv_has ls 8 [(0, .ref b), (1, .ref (ha G 0)), (2, .ref (ha G 31)), (3, .ref (ha G 49)), (4, .int v4)]) (hW : Wd G z0 s.heap H locs) : W p l e room_1 s m args below meth c H locs cells slots Qg (F0 m 419 ls []) := by
  obtain ⟨hx, hb, hml, hown, hr, hlk, hX, hbl, hba, hE⟩ := id E
  refine lv_aload_n hx hb d_L_law_419 rfl (lv_at hl 1 rfl) ?_
  refine yLV_i (As := []) (rest := []) E (c_O_states _ _ hP) (cwl_116 hE) (yrv_0 hE hW) (by decide) ⟨by omega, by omega⟩ hW hl.1 rfl rfl rfl d_L_law_420 (fun y29 z28 H locs hP hW => ?_)
  refine lv_aload_n hx hb d_L_law_423 rfl (lv_at hl 2 rfl) ?_
  refine yLV_i (As := []) (rest := [.int y29]) E (c_M_states _ _ hP) (cwl_119 hE) (yrv_31 hE hW) (by decide) ⟨by omega, by omega⟩ hW hl.1 rfl rfl rfl d_L_law_424 (fun y31 z30 H locs hP hW => ?_)
  refine lv_icmp_eq (tgt := 1231) hx hb d_L_law_427 rfl (fun hc => ?_) (fun hc => ?_)
  · have hP := hP.1 hc
    refine W.widen (Nat.le_add_right _ 1) (Nat.le_add_right _ 6) ?_
    exact hK _ _ _ _ hP hl hW
  · have hP := hP.2 hc
    exact hP.elim
def B_6 (x1 x2 x3 x4 v4 : Int32) (z0 : St) (K : St → Prop) : Prop := P_L_chance x1 z0 (fun (y33 : Int32) (z32 : St) => P_M_chance x1 z32 (fun (y35 : Int64) (z34 : St) => P_M_thrown z34 (fun (y37 : Int32) (z36 : St) => ((y37 = y33) → ((¬ y33 = 0) → K z36) ∧ ((y33 = 0) → vp_in (0 : Int32) 1 ∧ (((z36.2 49 (0 : Int32).toNatClampNeg) = y35) → K z36) ∧ ((¬ (z36.2 49 (0 : Int32).toNatClampNeg) = y35) → False))) ∧ ((¬ y37 = y33) → False))))
set_option maxHeartbeats 4000000 in
set_option maxRecDepth 100000 in
theorem wB_6 {K : St → Prop} {x1 x2 x3 x4 v4 : Int32} (E : EnL p l s m meth c args b L xs G) (hcs : cells + 1 ≤ 1097 ∧ slots + 6 ≤ 24514) (hK : ∀ (z0 : St) (ls : Array Slot) (H : Heap) (locs : List Loc), K z0 → lv_has ls 8 [(0, .ref b), (1, .ref (ha G 0)), (2, .ref (ha G 31)), (3, .ref (ha G 49)), (4, .int v4)] → Wd G z0 s.heap H locs → W p l e room_1 s m args below meth c H locs (cells + 1) (slots + 6) Qg (F0 m 1231 ls [])) (hs1 : vp_in (v4 + 1) L ∧ xs (v4 + 1).toNatClampNeg = x1) (hs2 : vp_in (v4 + 2) L ∧ xs (v4 + 2).toNatClampNeg = x2) (hs3 : vp_in (v4 + 3) L ∧ xs (v4 + 3).toNatClampNeg = x3) (hs4 : vp_in (v4 + 4) L ∧ xs (v4 + 4).toNatClampNeg = x4) (z0 : St) (ls : Array Slot) (H : Heap) (locs : List Loc) (hP : B_6 x1 x2 x3 x4 v4 z0 K) (hl : lv_has ls 8 [(0, .ref b), (1, .ref (ha G 0)), (2, .ref (ha G 31)), (3, .ref (ha G 49)), (4, .int v4)]) (hW : Wd G z0 s.heap H locs) : W p l e room_1 s m args below meth c H locs cells slots Qg (F0 m 432 ls []) := by
  obtain ⟨hx, hb, hml, hown, hr, hlk, hX, hbl, hba, hE⟩ := id E
  refine lv_aload_n hx hb d_L_law_432 rfl (lv_at hl 1 rfl) ?_
  refine lv_aload_n hx hb d_L_law_433 rfl (lv_at hl 0 rfl) ?_
  refine lv_iload hx hb d_L_law_434 (lv_at hl 4 rfl) ?_
  refine lv_iconst (v := 1) hx hb d_L_law_436 (by decide) ?_
  refine lv_iadd hx hb d_L_law_437 ?_
  refine ysl E hW hs1.1 hs1.2 d_L_law_438 ?_
  refine lv_aload_n hx hb d_L_law_439 rfl (lv_at hl 3 rfl) ?_
  refine yLS (As := [.ref (ha G 0), .int x1, .ref (ha G 49)]) (rest := []) E (c_L_chance _ _ _ hP) (cwl_120 hE) (by decide) hcs hW hl.1 rfl rfl rfl d_L_law_440 (fun y33 z32 H locs hP hW => ?_)
  refine lv_istore (lv' := [(5, .int y33), (0, .ref b), (1, .ref (ha G 0)), (2, .ref (ha G 31)), (3, .ref (ha G 49)), (4, .int v4)]) hx hb d_L_law_443 hl (by decide) rfl (fun ls hl => ?_)
  refine lv_aload_n hx hb d_L_law_445 rfl (lv_at hl 3 rfl) ?_
  refine lv_aload_n hx hb d_L_law_446 rfl (lv_at hl 1 rfl) ?_
  refine lv_iload hx hb d_L_law_447 (lv_at hl 5 rfl) ?_
  refine lv_iconst (v := 1) hx hb d_L_law_449 (by decide) ?_
  refine lv_iadd hx hb d_L_law_450 ?_
  refine ysl E hW hs1.1 hs1.2 d_L_law_451 ?_
  refine yLV_l (As := [.int x1]) (rest := []) E (c_M_chance _ _ _ hP) (cwl_123 hE) (yrv_31 hE hW) (by decide) hcs hW hl.1 rfl rfl rfl d_L_law_452 (fun y35 z34 H locs hP hW => ?_)
  refine lv_lstore (lv' := [(6, .long y35), (5, .int y33), (0, .ref b), (1, .ref (ha G 0)), (2, .ref (ha G 31)), (3, .ref (ha G 49)), (4, .int v4)]) hx hb d_L_law_455 hl (by decide) rfl (fun ls hl => ?_)
  refine lv_aload_n hx hb d_L_law_457 rfl (lv_at hl 4 rfl) ?_
  refine yLV_i (As := []) (rest := []) E (c_M_thrown _ _ hP) (cwl_97 hE) (yrv_31 hE hW) (by decide) hcs hW hl.1 rfl rfl rfl d_L_law_458 (fun y37 z36 H locs hP hW => ?_)
  refine lv_iload hx hb d_L_law_461 (lv_at hl 1 rfl) ?_
  refine lv_icmp_eq (tgt := 468) hx hb d_L_law_463 rfl (fun hc => ?_) (fun hc => ?_)
  · have hP := hP.1 hc
    refine lv_iload hx hb d_L_law_468 (lv_at hl 1 rfl) ?_
    refine lv_if_ne (tgt := 484) hx hb d_L_law_470 rfl (fun hc => ?_) (fun hc => ?_)
    · have hP := hP.1 hc
      refine lv_goto (tgt := 1231) hx hb d_L_law_484 rfl ?_
      exact hK _ _ _ _ hP (lv_sub hl [2, 3, 4, 5, 6] rfl) hW
    · have hP := hP.2 hc
      refine lv_aload_n hx hb d_L_law_473 rfl (lv_at hl 5 rfl) ?_
      refine lv_iconst (v := 0) hx hb d_L_law_474 (by decide) ?_
      refine ya_49 hx hb hE hW hP.1 d_L_law_475 ?_
      have hP := hP.2
      refine lv_lload hx hb d_L_law_476 (lv_at hl 0 rfl) ?_
      refine W.lcmp hx hb d_L_law_478 ?_
      refine lv_if_eq (tgt := 484) hx hb d_L_law_479 rfl (fun hc => ?_) (fun hc => ?_)
      · have hP := hP.1 (lgc_eqt hc)
        refine lv_goto (tgt := 1231) hx hb d_L_law_484 rfl ?_
        exact hK _ _ _ _ hP (lv_sub hl [2, 3, 4, 5, 6] rfl) hW
      · have hP := hP.2 (lgc_eqf hc)
        exact hP.elim
  · have hP := hP.2 hc
    exact hP.elim
def B_7 (x1 x2 x3 x4 v4 : Int32) (z0 : St) (K : St → Prop) : Prop := P_L_kind x1 z0 (fun (y39 : Int32) (z38 : St) => P_M_kind x1 z38 (fun (y41 : Int32) (z40 : St) => P_M_thrown z40 (fun (y43 : Int32) (z42 : St) => ((y43 = y39) → ((¬ y39 = 0) → K z42) ∧ ((y39 = 0) → vp_in (0 : Int32) 1 ∧ (((z42.2 49 (0 : Int32).toNatClampNeg) = y41.toInt64) → K z42) ∧ ((¬ (z42.2 49 (0 : Int32).toNatClampNeg) = y41.toInt64) → False))) ∧ ((¬ y43 = y39) → False))))
set_option maxHeartbeats 4000000 in
set_option maxRecDepth 100000 in
theorem wB_7 {K : St → Prop} {x1 x2 x3 x4 v4 : Int32} (E : EnL p l s m meth c args b L xs G) (hcs : cells + 1 ≤ 1097 ∧ slots + 6 ≤ 24514) (hK : ∀ (z0 : St) (ls : Array Slot) (H : Heap) (locs : List Loc), K z0 → lv_has ls 8 [(0, .ref b), (1, .ref (ha G 0)), (2, .ref (ha G 31)), (3, .ref (ha G 49)), (4, .int v4)] → Wd G z0 s.heap H locs → W p l e room_1 s m args below meth c H locs (cells + 1) (slots + 6) Qg (F0 m 1231 ls [])) (hs1 : vp_in (v4 + 1) L ∧ xs (v4 + 1).toNatClampNeg = x1) (hs2 : vp_in (v4 + 2) L ∧ xs (v4 + 2).toNatClampNeg = x2) (hs3 : vp_in (v4 + 3) L ∧ xs (v4 + 3).toNatClampNeg = x3) (hs4 : vp_in (v4 + 4) L ∧ xs (v4 + 4).toNatClampNeg = x4) (z0 : St) (ls : Array Slot) (H : Heap) (locs : List Loc) (hP : B_7 x1 x2 x3 x4 v4 z0 K) (hl : lv_has ls 8 [(0, .ref b), (1, .ref (ha G 0)), (2, .ref (ha G 31)), (3, .ref (ha G 49)), (4, .int v4)]) (hW : Wd G z0 s.heap H locs) : W p l e room_1 s m args below meth c H locs cells slots Qg (F0 m 487 ls []) := by
  obtain ⟨hx, hb, hml, hown, hr, hlk, hX, hbl, hba, hE⟩ := id E
  refine lv_aload_n hx hb d_L_law_487 rfl (lv_at hl 1 rfl) ?_
  refine lv_aload_n hx hb d_L_law_488 rfl (lv_at hl 0 rfl) ?_
  refine lv_iload hx hb d_L_law_489 (lv_at hl 4 rfl) ?_
  refine lv_iconst (v := 1) hx hb d_L_law_491 (by decide) ?_
  refine lv_iadd hx hb d_L_law_492 ?_
  refine ysl E hW hs1.1 hs1.2 d_L_law_493 ?_
  refine lv_aload_n hx hb d_L_law_494 rfl (lv_at hl 3 rfl) ?_
  refine yLS (As := [.ref (ha G 0), .int x1, .ref (ha G 49)]) (rest := []) E (c_L_kind _ _ _ hP) (cwl_124 hE) (by decide) hcs hW hl.1 rfl rfl rfl d_L_law_495 (fun y39 z38 H locs hP hW => ?_)
  refine lv_istore (lv' := [(5, .int y39), (0, .ref b), (1, .ref (ha G 0)), (2, .ref (ha G 31)), (3, .ref (ha G 49)), (4, .int v4)]) hx hb d_L_law_498 hl (by decide) rfl (fun ls hl => ?_)
  refine lv_aload_n hx hb d_L_law_500 rfl (lv_at hl 3 rfl) ?_
  refine lv_aload_n hx hb d_L_law_501 rfl (lv_at hl 1 rfl) ?_
  refine lv_iload hx hb d_L_law_502 (lv_at hl 5 rfl) ?_
  refine lv_iconst (v := 1) hx hb d_L_law_504 (by decide) ?_
  refine lv_iadd hx hb d_L_law_505 ?_
  refine ysl E hW hs1.1 hs1.2 d_L_law_506 ?_
  refine yLV_i (As := [.int x1]) (rest := []) E (c_M_kind _ _ _ hP) (cwl_126 hE) (yrv_31 hE hW) (by decide) hcs hW hl.1 rfl rfl rfl d_L_law_507 (fun y41 z40 H locs hP hW => ?_)
  refine lv_istore (lv' := [(6, .int y41), (5, .int y39), (0, .ref b), (1, .ref (ha G 0)), (2, .ref (ha G 31)), (3, .ref (ha G 49)), (4, .int v4)]) hx hb d_L_law_510 hl (by decide) rfl (fun ls hl => ?_)
  refine lv_aload_n hx hb d_L_law_512 rfl (lv_at hl 4 rfl) ?_
  refine yLV_i (As := []) (rest := []) E (c_M_thrown _ _ hP) (cwl_97 hE) (yrv_31 hE hW) (by decide) hcs hW hl.1 rfl rfl rfl d_L_law_513 (fun y43 z42 H locs hP hW => ?_)
  refine lv_iload hx hb d_L_law_516 (lv_at hl 1 rfl) ?_
  refine lv_icmp_eq (tgt := 523) hx hb d_L_law_518 rfl (fun hc => ?_) (fun hc => ?_)
  · have hP := hP.1 hc
    refine lv_iload hx hb d_L_law_523 (lv_at hl 1 rfl) ?_
    refine lv_if_ne (tgt := 540) hx hb d_L_law_525 rfl (fun hc => ?_) (fun hc => ?_)
    · have hP := hP.1 hc
      refine lv_goto (tgt := 1231) hx hb d_L_law_540 rfl ?_
      exact hK _ _ _ _ hP (lv_sub hl [2, 3, 4, 5, 6] rfl) hW
    · have hP := hP.2 hc
      refine lv_aload_n hx hb d_L_law_528 rfl (lv_at hl 5 rfl) ?_
      refine lv_iconst (v := 0) hx hb d_L_law_529 (by decide) ?_
      refine ya_49 hx hb hE hW hP.1 d_L_law_530 ?_
      have hP := hP.2
      refine lv_iload hx hb d_L_law_531 (lv_at hl 0 rfl) ?_
      refine lv_i2l hx hb d_L_law_533 rfl ?_
      refine W.lcmp hx hb d_L_law_534 ?_
      refine lv_if_eq (tgt := 540) hx hb d_L_law_535 rfl (fun hc => ?_) (fun hc => ?_)
      · have hP := hP.1 (lgc_eqt hc)
        refine lv_goto (tgt := 1231) hx hb d_L_law_540 rfl ?_
        exact hK _ _ _ _ hP (lv_sub hl [2, 3, 4, 5, 6] rfl) hW
      · have hP := hP.2 (lgc_eqf hc)
        exact hP.elim
  · have hP := hP.2 hc
    exact hP.elim
def B_8 (x1 x2 x3 x4 v4 : Int32) (z0 : St) (K : St → Prop) : Prop := P_L_blocked x1 z0 (fun (y45 : Int32) (z44 : St) => P_M_blocked x1 z44 (fun (y47 : Int32) (z46 : St) => P_M_thrown z46 (fun (y49 : Int32) (z48 : St) => ((y49 = y45) → ((¬ y45 = 0) → K z48) ∧ ((y45 = 0) → vp_in (0 : Int32) 1 ∧ (((z48.2 49 (0 : Int32).toNatClampNeg) = y47.toInt64) → K z48) ∧ ((¬ (z48.2 49 (0 : Int32).toNatClampNeg) = y47.toInt64) → False))) ∧ ((¬ y49 = y45) → False))))
set_option maxHeartbeats 4000000 in
set_option maxRecDepth 100000 in
theorem wB_8 {K : St → Prop} {x1 x2 x3 x4 v4 : Int32} (E : EnL p l s m meth c args b L xs G) (hcs : cells + 1 ≤ 1097 ∧ slots + 6 ≤ 24514) (hK : ∀ (z0 : St) (ls : Array Slot) (H : Heap) (locs : List Loc), K z0 → lv_has ls 8 [(0, .ref b), (1, .ref (ha G 0)), (2, .ref (ha G 31)), (3, .ref (ha G 49)), (4, .int v4)] → Wd G z0 s.heap H locs → W p l e room_1 s m args below meth c H locs (cells + 1) (slots + 6) Qg (F0 m 1231 ls [])) (hs1 : vp_in (v4 + 1) L ∧ xs (v4 + 1).toNatClampNeg = x1) (hs2 : vp_in (v4 + 2) L ∧ xs (v4 + 2).toNatClampNeg = x2) (hs3 : vp_in (v4 + 3) L ∧ xs (v4 + 3).toNatClampNeg = x3) (hs4 : vp_in (v4 + 4) L ∧ xs (v4 + 4).toNatClampNeg = x4) (z0 : St) (ls : Array Slot) (H : Heap) (locs : List Loc) (hP : B_8 x1 x2 x3 x4 v4 z0 K) (hl : lv_has ls 8 [(0, .ref b), (1, .ref (ha G 0)), (2, .ref (ha G 31)), (3, .ref (ha G 49)), (4, .int v4)]) (hW : Wd G z0 s.heap H locs) : W p l e room_1 s m args below meth c H locs cells slots Qg (F0 m 543 ls []) := by
  obtain ⟨hx, hb, hml, hown, hr, hlk, hX, hbl, hba, hE⟩ := id E
  refine lv_aload_n hx hb d_L_law_543 rfl (lv_at hl 1 rfl) ?_
  refine lv_aload_n hx hb d_L_law_544 rfl (lv_at hl 0 rfl) ?_
  refine lv_iload hx hb d_L_law_545 (lv_at hl 4 rfl) ?_
  refine lv_iconst (v := 1) hx hb d_L_law_547 (by decide) ?_
  refine lv_iadd hx hb d_L_law_548 ?_
  refine ysl E hW hs1.1 hs1.2 d_L_law_549 ?_
  refine lv_aload_n hx hb d_L_law_550 rfl (lv_at hl 3 rfl) ?_
  refine yLS (As := [.ref (ha G 0), .int x1, .ref (ha G 49)]) (rest := []) E (c_L_blocked _ _ _ hP) (cwl_127 hE) (by decide) hcs hW hl.1 rfl rfl rfl d_L_law_551 (fun y45 z44 H locs hP hW => ?_)
  refine lv_istore (lv' := [(5, .int y45), (0, .ref b), (1, .ref (ha G 0)), (2, .ref (ha G 31)), (3, .ref (ha G 49)), (4, .int v4)]) hx hb d_L_law_554 hl (by decide) rfl (fun ls hl => ?_)
  refine lv_aload_n hx hb d_L_law_556 rfl (lv_at hl 3 rfl) ?_
  refine lv_aload_n hx hb d_L_law_557 rfl (lv_at hl 1 rfl) ?_
  refine lv_iload hx hb d_L_law_558 (lv_at hl 5 rfl) ?_
  refine lv_iconst (v := 1) hx hb d_L_law_560 (by decide) ?_
  refine lv_iadd hx hb d_L_law_561 ?_
  refine ysl E hW hs1.1 hs1.2 d_L_law_562 ?_
  refine yLV_i (As := [.int x1]) (rest := []) E (c_M_blocked _ _ _ hP) (cwl_129 hE) (yrv_31 hE hW) (by decide) hcs hW hl.1 rfl rfl rfl d_L_law_563 (fun y47 z46 H locs hP hW => ?_)
  refine lv_istore (lv' := [(6, .int y47), (5, .int y45), (0, .ref b), (1, .ref (ha G 0)), (2, .ref (ha G 31)), (3, .ref (ha G 49)), (4, .int v4)]) hx hb d_L_law_566 hl (by decide) rfl (fun ls hl => ?_)
  refine lv_aload_n hx hb d_L_law_568 rfl (lv_at hl 4 rfl) ?_
  refine yLV_i (As := []) (rest := []) E (c_M_thrown _ _ hP) (cwl_97 hE) (yrv_31 hE hW) (by decide) hcs hW hl.1 rfl rfl rfl d_L_law_569 (fun y49 z48 H locs hP hW => ?_)
  refine lv_iload hx hb d_L_law_572 (lv_at hl 1 rfl) ?_
  refine lv_icmp_eq (tgt := 579) hx hb d_L_law_574 rfl (fun hc => ?_) (fun hc => ?_)
  · have hP := hP.1 hc
    refine lv_iload hx hb d_L_law_579 (lv_at hl 1 rfl) ?_
    refine lv_if_ne (tgt := 596) hx hb d_L_law_581 rfl (fun hc => ?_) (fun hc => ?_)
    · have hP := hP.1 hc
      refine lv_goto (tgt := 1231) hx hb d_L_law_596 rfl ?_
      exact hK _ _ _ _ hP (lv_sub hl [2, 3, 4, 5, 6] rfl) hW
    · have hP := hP.2 hc
      refine lv_aload_n hx hb d_L_law_584 rfl (lv_at hl 5 rfl) ?_
      refine lv_iconst (v := 0) hx hb d_L_law_585 (by decide) ?_
      refine ya_49 hx hb hE hW hP.1 d_L_law_586 ?_
      have hP := hP.2
      refine lv_iload hx hb d_L_law_587 (lv_at hl 0 rfl) ?_
      refine lv_i2l hx hb d_L_law_589 rfl ?_
      refine W.lcmp hx hb d_L_law_590 ?_
      refine lv_if_eq (tgt := 596) hx hb d_L_law_591 rfl (fun hc => ?_) (fun hc => ?_)
      · have hP := hP.1 (lgc_eqt hc)
        refine lv_goto (tgt := 1231) hx hb d_L_law_596 rfl ?_
        exact hK _ _ _ _ hP (lv_sub hl [2, 3, 4, 5, 6] rfl) hW
      · have hP := hP.2 (lgc_eqf hc)
        exact hP.elim
  · have hP := hP.2 hc
    exact hP.elim
def B_9 (x1 x2 x3 x4 v4 : Int32) (z0 : St) (K : St → Prop) : Prop := P_L_panel ((x1.toInt64 <<< ((32 : Int32).toInt64 &&& 63)) ||| (x2.toInt64 &&& (4294967295 : Int64))) x3 z0 (fun (y51 : Int32) (z50 : St) => P_M_panel ((x1.toInt64 <<< ((32 : Int32).toInt64 &&& 63)) ||| (x2.toInt64 &&& (4294967295 : Int64))) x3 z50 (fun (y53 : Int32) (z52 : St) => P_M_thrown z52 (fun (y55 : Int32) (z54 : St) => ((y55 = y51) → ((¬ y51 = 0) → K z54) ∧ ((y51 = 0) → vp_in (0 : Int32) 1 ∧ (((z54.2 49 (0 : Int32).toNatClampNeg) = y53.toInt64) → K z54) ∧ ((¬ (z54.2 49 (0 : Int32).toNatClampNeg) = y53.toInt64) → False))) ∧ ((¬ y55 = y51) → False))))
set_option maxHeartbeats 4000000 in
set_option maxRecDepth 100000 in
theorem wB_9 {K : St → Prop} {x1 x2 x3 x4 v4 : Int32} (E : EnL p l s m meth c args b L xs G) (hcs : cells + 1 ≤ 1097 ∧ slots + 6 ≤ 24514) (hK : ∀ (z0 : St) (ls : Array Slot) (H : Heap) (locs : List Loc), K z0 → lv_has ls 8 [(0, .ref b), (1, .ref (ha G 0)), (2, .ref (ha G 31)), (3, .ref (ha G 49)), (4, .int v4)] → Wd G z0 s.heap H locs → W p l e room_1 s m args below meth c H locs (cells + 1) (slots + 6) Qg (F0 m 1231 ls [])) (hs1 : vp_in (v4 + 1) L ∧ xs (v4 + 1).toNatClampNeg = x1) (hs2 : vp_in (v4 + 2) L ∧ xs (v4 + 2).toNatClampNeg = x2) (hs3 : vp_in (v4 + 3) L ∧ xs (v4 + 3).toNatClampNeg = x3) (hs4 : vp_in (v4 + 4) L ∧ xs (v4 + 4).toNatClampNeg = x4) (z0 : St) (ls : Array Slot) (H : Heap) (locs : List Loc) (hP : B_9 x1 x2 x3 x4 v4 z0 K) (hl : lv_has ls 8 [(0, .ref b), (1, .ref (ha G 0)), (2, .ref (ha G 31)), (3, .ref (ha G 49)), (4, .int v4)]) (hW : Wd G z0 s.heap H locs) : W p l e room_1 s m args below meth c H locs cells slots Qg (F0 m 599 ls []) := by
  obtain ⟨hx, hb, hml, hown, hr, hlk, hX, hbl, hba, hE⟩ := id E
  refine lv_aload_n hx hb d_L_law_599 rfl (lv_at hl 1 rfl) ?_
  refine lv_aload_n hx hb d_L_law_600 rfl (lv_at hl 0 rfl) ?_
  refine lv_iload hx hb d_L_law_601 (lv_at hl 4 rfl) ?_
  refine lv_iconst (v := 1) hx hb d_L_law_603 (by decide) ?_
  refine lv_iadd hx hb d_L_law_604 ?_
  refine ysl E hW hs1.1 hs1.2 d_L_law_605 ?_
  refine lv_i2l hx hb d_L_law_606 rfl ?_
  refine lv_bipush (v := 32) hx hb d_L_law_607 (by decide) ?_
  refine lv_lshl hx hb d_L_law_609 rfl ?_
  refine lv_aload_n hx hb d_L_law_610 rfl (lv_at hl 0 rfl) ?_
  refine lv_iload hx hb d_L_law_611 (lv_at hl 4 rfl) ?_
  refine lv_iconst (v := 2) hx hb d_L_law_613 (by decide) ?_
  refine lv_iadd hx hb d_L_law_614 ?_
  refine ysl E hW hs2.1 hs2.2 d_L_law_615 ?_
  refine lv_i2l hx hb d_L_law_616 rfl ?_
  refine lv_ldc2 (v := 4294967295) hx hb hown (lk_L_130 hE) d_L_law_617 ?_
  refine lv_land hx hb d_L_law_620 ?_
  refine lv_lor hx hb d_L_law_621 ?_
  refine lv_aload_n hx hb d_L_law_622 rfl (lv_at hl 0 rfl) ?_
  refine lv_iload hx hb d_L_law_623 (lv_at hl 4 rfl) ?_
  refine lv_iconst (v := 3) hx hb d_L_law_625 (by decide) ?_
  refine lv_iadd hx hb d_L_law_626 ?_
  refine ysl E hW hs3.1 hs3.2 d_L_law_627 ?_
  refine lv_aload_n hx hb d_L_law_628 rfl (lv_at hl 3 rfl) ?_
  refine yLS (As := [.ref (ha G 0), .long ((x1.toInt64 <<< ((32 : Int32).toInt64 &&& 63)) ||| (x2.toInt64 &&& (4294967295 : Int64))), .int x3, .ref (ha G 49)]) (rest := []) E (c_L_panel _ _ _ _ hP) (cwl_132 hE) (by decide) hcs hW hl.1 rfl rfl rfl d_L_law_629 (fun y51 z50 H locs hP hW => ?_)
  refine lv_istore (lv' := [(5, .int y51), (0, .ref b), (1, .ref (ha G 0)), (2, .ref (ha G 31)), (3, .ref (ha G 49)), (4, .int v4)]) hx hb d_L_law_632 hl (by decide) rfl (fun ls hl => ?_)
  refine lv_aload_n hx hb d_L_law_634 rfl (lv_at hl 3 rfl) ?_
  refine lv_aload_n hx hb d_L_law_635 rfl (lv_at hl 1 rfl) ?_
  refine lv_iload hx hb d_L_law_636 (lv_at hl 5 rfl) ?_
  refine lv_iconst (v := 1) hx hb d_L_law_638 (by decide) ?_
  refine lv_iadd hx hb d_L_law_639 ?_
  refine ysl E hW hs1.1 hs1.2 d_L_law_640 ?_
  refine lv_i2l hx hb d_L_law_641 rfl ?_
  refine lv_bipush (v := 32) hx hb d_L_law_642 (by decide) ?_
  refine lv_lshl hx hb d_L_law_644 rfl ?_
  refine lv_aload_n hx hb d_L_law_645 rfl (lv_at hl 1 rfl) ?_
  refine lv_iload hx hb d_L_law_646 (lv_at hl 5 rfl) ?_
  refine lv_iconst (v := 2) hx hb d_L_law_648 (by decide) ?_
  refine lv_iadd hx hb d_L_law_649 ?_
  refine ysl E hW hs2.1 hs2.2 d_L_law_650 ?_
  refine lv_i2l hx hb d_L_law_651 rfl ?_
  refine lv_ldc2 (v := 4294967295) hx hb hown (lk_L_130 hE) d_L_law_652 ?_
  refine lv_land hx hb d_L_law_655 ?_
  refine lv_lor hx hb d_L_law_656 ?_
  refine lv_aload_n hx hb d_L_law_657 rfl (lv_at hl 1 rfl) ?_
  refine lv_iload hx hb d_L_law_658 (lv_at hl 5 rfl) ?_
  refine lv_iconst (v := 3) hx hb d_L_law_660 (by decide) ?_
  refine lv_iadd hx hb d_L_law_661 ?_
  refine ysl E hW hs3.1 hs3.2 d_L_law_662 ?_
  refine yLV_i (As := [.long ((x1.toInt64 <<< ((32 : Int32).toInt64 &&& 63)) ||| (x2.toInt64 &&& (4294967295 : Int64))), .int x3]) (rest := []) E (c_M_panel _ _ _ _ hP) (cwl_135 hE) (yrv_31 hE hW) (by decide) hcs hW hl.1 rfl rfl rfl d_L_law_663 (fun y53 z52 H locs hP hW => ?_)
  refine lv_istore (lv' := [(6, .int y53), (5, .int y51), (0, .ref b), (1, .ref (ha G 0)), (2, .ref (ha G 31)), (3, .ref (ha G 49)), (4, .int v4)]) hx hb d_L_law_666 hl (by decide) rfl (fun ls hl => ?_)
  refine lv_aload_n hx hb d_L_law_668 rfl (lv_at hl 4 rfl) ?_
  refine yLV_i (As := []) (rest := []) E (c_M_thrown _ _ hP) (cwl_97 hE) (yrv_31 hE hW) (by decide) hcs hW hl.1 rfl rfl rfl d_L_law_669 (fun y55 z54 H locs hP hW => ?_)
  refine lv_iload hx hb d_L_law_672 (lv_at hl 1 rfl) ?_
  refine lv_icmp_eq (tgt := 679) hx hb d_L_law_674 rfl (fun hc => ?_) (fun hc => ?_)
  · have hP := hP.1 hc
    refine lv_iload hx hb d_L_law_679 (lv_at hl 1 rfl) ?_
    refine lv_if_ne (tgt := 696) hx hb d_L_law_681 rfl (fun hc => ?_) (fun hc => ?_)
    · have hP := hP.1 hc
      refine lv_goto (tgt := 1231) hx hb d_L_law_696 rfl ?_
      exact hK _ _ _ _ hP (lv_sub hl [2, 3, 4, 5, 6] rfl) hW
    · have hP := hP.2 hc
      refine lv_aload_n hx hb d_L_law_684 rfl (lv_at hl 5 rfl) ?_
      refine lv_iconst (v := 0) hx hb d_L_law_685 (by decide) ?_
      refine ya_49 hx hb hE hW hP.1 d_L_law_686 ?_
      have hP := hP.2
      refine lv_iload hx hb d_L_law_687 (lv_at hl 0 rfl) ?_
      refine lv_i2l hx hb d_L_law_689 rfl ?_
      refine W.lcmp hx hb d_L_law_690 ?_
      refine lv_if_eq (tgt := 696) hx hb d_L_law_691 rfl (fun hc => ?_) (fun hc => ?_)
      · have hP := hP.1 (lgc_eqt hc)
        refine lv_goto (tgt := 1231) hx hb d_L_law_696 rfl ?_
        exact hK _ _ _ _ hP (lv_sub hl [2, 3, 4, 5, 6] rfl) hW
      · have hP := hP.2 (lgc_eqf hc)
        exact hP.elim
  · have hP := hP.2 hc
    exact hP.elim
def B_10 (x1 x2 x3 x4 v4 : Int32) (z0 : St) (K : St → Prop) : Prop := P_L_mark x1 z0 (fun (y57 : Int32) (z56 : St) => P_M_mark x1 z56 (fun (y59 : Int32) (z58 : St) => P_M_thrown z58 (fun (y61 : Int32) (z60 : St) => ((y61 = y57) → ((¬ y57 = 0) → K z60) ∧ ((y57 = 0) → vp_in (0 : Int32) 1 ∧ ((y59 = 0) → J_law_753 K v4 (0 : Int64) (z60.2 49 (0 : Int32).toNatClampNeg) z60) ∧ ((¬ y59 = 0) → J_law_753 K v4 (1 : Int64) (z60.2 49 (0 : Int32).toNatClampNeg) z60))) ∧ ((¬ y61 = y57) → False))))
set_option maxHeartbeats 4000000 in
set_option maxRecDepth 100000 in
theorem wB_10 {K : St → Prop} {x1 x2 x3 x4 v4 : Int32} (E : EnL p l s m meth c args b L xs G) (hcs : cells + 1 ≤ 1097 ∧ slots + 6 ≤ 24514) (hK : ∀ (z0 : St) (ls : Array Slot) (H : Heap) (locs : List Loc), K z0 → lv_has ls 8 [(0, .ref b), (1, .ref (ha G 0)), (2, .ref (ha G 31)), (3, .ref (ha G 49)), (4, .int v4)] → Wd G z0 s.heap H locs → W p l e room_1 s m args below meth c H locs (cells + 1) (slots + 6) Qg (F0 m 1231 ls [])) (hs1 : vp_in (v4 + 1) L ∧ xs (v4 + 1).toNatClampNeg = x1) (hs2 : vp_in (v4 + 2) L ∧ xs (v4 + 2).toNatClampNeg = x2) (hs3 : vp_in (v4 + 3) L ∧ xs (v4 + 3).toNatClampNeg = x3) (hs4 : vp_in (v4 + 4) L ∧ xs (v4 + 4).toNatClampNeg = x4) (z0 : St) (ls : Array Slot) (H : Heap) (locs : List Loc) (hP : B_10 x1 x2 x3 x4 v4 z0 K) (hl : lv_has ls 8 [(0, .ref b), (1, .ref (ha G 0)), (2, .ref (ha G 31)), (3, .ref (ha G 49)), (4, .int v4)]) (hW : Wd G z0 s.heap H locs) : W p l e room_1 s m args below meth c H locs cells slots Qg (F0 m 699 ls []) := by
  obtain ⟨hx, hb, hml, hown, hr, hlk, hX, hbl, hba, hE⟩ := id E
  refine lv_aload_n hx hb d_L_law_699 rfl (lv_at hl 1 rfl) ?_
  refine lv_aload_n hx hb d_L_law_700 rfl (lv_at hl 0 rfl) ?_
  refine lv_iload hx hb d_L_law_701 (lv_at hl 4 rfl) ?_
  refine lv_iconst (v := 1) hx hb d_L_law_703 (by decide) ?_
  refine lv_iadd hx hb d_L_law_704 ?_
  refine ysl E hW hs1.1 hs1.2 d_L_law_705 ?_
  refine lv_aload_n hx hb d_L_law_706 rfl (lv_at hl 3 rfl) ?_
  refine yLS (As := [.ref (ha G 0), .int x1, .ref (ha G 49)]) (rest := []) E (c_L_mark _ _ _ hP) (cwl_136 hE) (by decide) hcs hW hl.1 rfl rfl rfl d_L_law_707 (fun y57 z56 H locs hP hW => ?_)
  refine lv_istore (lv' := [(5, .int y57), (0, .ref b), (1, .ref (ha G 0)), (2, .ref (ha G 31)), (3, .ref (ha G 49)), (4, .int v4)]) hx hb d_L_law_710 hl (by decide) rfl (fun ls hl => ?_)
  refine lv_aload_n hx hb d_L_law_712 rfl (lv_at hl 3 rfl) ?_
  refine lv_aload_n hx hb d_L_law_713 rfl (lv_at hl 1 rfl) ?_
  refine lv_iload hx hb d_L_law_714 (lv_at hl 5 rfl) ?_
  refine lv_iconst (v := 1) hx hb d_L_law_716 (by decide) ?_
  refine lv_iadd hx hb d_L_law_717 ?_
  refine ysl E hW hs1.1 hs1.2 d_L_law_718 ?_
  refine yLV_i (As := [.int x1]) (rest := []) E (c_M_mark _ _ _ hP) (cwl_138 hE) (yrv_31 hE hW) (by decide) hcs hW hl.1 rfl rfl rfl d_L_law_719 (fun y59 z58 H locs hP hW => ?_)
  refine lv_istore (lv' := [(6, .int y59), (5, .int y57), (0, .ref b), (1, .ref (ha G 0)), (2, .ref (ha G 31)), (3, .ref (ha G 49)), (4, .int v4)]) hx hb d_L_law_722 hl (by decide) rfl (fun ls hl => ?_)
  refine lv_aload_n hx hb d_L_law_724 rfl (lv_at hl 4 rfl) ?_
  refine yLV_i (As := []) (rest := []) E (c_M_thrown _ _ hP) (cwl_97 hE) (yrv_31 hE hW) (by decide) hcs hW hl.1 rfl rfl rfl d_L_law_725 (fun y61 z60 H locs hP hW => ?_)
  refine lv_iload hx hb d_L_law_728 (lv_at hl 1 rfl) ?_
  refine lv_icmp_eq (tgt := 735) hx hb d_L_law_730 rfl (fun hc => ?_) (fun hc => ?_)
  · have hP := hP.1 hc
    refine lv_iload hx hb d_L_law_735 (lv_at hl 1 rfl) ?_
    refine lv_if_ne (tgt := 759) hx hb d_L_law_737 rfl (fun hc => ?_) (fun hc => ?_)
    · have hP := hP.1 hc
      refine lv_goto (tgt := 1231) hx hb d_L_law_759 rfl ?_
      exact hK _ _ _ _ hP (lv_sub hl [2, 3, 4, 5, 6] rfl) hW
    · have hP := hP.2 hc
      refine lv_aload_n hx hb d_L_law_740 rfl (lv_at hl 5 rfl) ?_
      refine lv_iconst (v := 0) hx hb d_L_law_741 (by decide) ?_
      refine ya_49 hx hb hE hW hP.1 d_L_law_742 ?_
      have hP := hP.2
      refine lv_iload hx hb d_L_law_743 (lv_at hl 0 rfl) ?_
      refine lv_if_eq (tgt := 752) hx hb d_L_law_745 rfl (fun hc => ?_) (fun hc => ?_)
      · have hP := hP.1 hc
        refine lv_lconst (v := 0) hx hb d_L_law_752 (by decide) ?_
        exact wJ_law_753 E hcs hK _ _ _ _ hP (lv_sub hl [2, 3, 4, 5, 6] rfl) hW
      · have hP := hP.2 hc
        refine lv_lconst (v := 1) hx hb d_L_law_748 (by decide) ?_
        refine lv_goto (tgt := 753) hx hb d_L_law_749 rfl ?_
        exact wJ_law_753 E hcs hK _ _ _ _ hP (lv_sub hl [2, 3, 4, 5, 6] rfl) hW
  · have hP := hP.2 hc
    exact hP.elim
def B_11 (x1 x2 x3 x4 v4 : Int32) (z0 : St) (K : St → Prop) : Prop := P_L_rank z0 (fun (y63 : Int32) (z62 : St) => P_M_rank z62 (fun (y65 : Int64) (z64 : St) => P_M_thrown z64 (fun (y67 : Int32) (z66 : St) => ((y67 = y63) → ((¬ y63 = 0) → K z66) ∧ ((y63 = 0) → vp_in (0 : Int32) 1 ∧ (((z66.2 49 (0 : Int32).toNatClampNeg) = y65) → K z66) ∧ ((¬ (z66.2 49 (0 : Int32).toNatClampNeg) = y65) → False))) ∧ ((¬ y67 = y63) → False))))
set_option maxHeartbeats 4000000 in
set_option maxRecDepth 100000 in
theorem wB_11 {K : St → Prop} {x1 x2 x3 x4 v4 : Int32} (E : EnL p l s m meth c args b L xs G) (hcs : cells + 1 ≤ 1097 ∧ slots + 6 ≤ 24514) (hK : ∀ (z0 : St) (ls : Array Slot) (H : Heap) (locs : List Loc), K z0 → lv_has ls 8 [(0, .ref b), (1, .ref (ha G 0)), (2, .ref (ha G 31)), (3, .ref (ha G 49)), (4, .int v4)] → Wd G z0 s.heap H locs → W p l e room_1 s m args below meth c H locs (cells + 1) (slots + 6) Qg (F0 m 1231 ls [])) (hs1 : vp_in (v4 + 1) L ∧ xs (v4 + 1).toNatClampNeg = x1) (hs2 : vp_in (v4 + 2) L ∧ xs (v4 + 2).toNatClampNeg = x2) (hs3 : vp_in (v4 + 3) L ∧ xs (v4 + 3).toNatClampNeg = x3) (hs4 : vp_in (v4 + 4) L ∧ xs (v4 + 4).toNatClampNeg = x4) (z0 : St) (ls : Array Slot) (H : Heap) (locs : List Loc) (hP : B_11 x1 x2 x3 x4 v4 z0 K) (hl : lv_has ls 8 [(0, .ref b), (1, .ref (ha G 0)), (2, .ref (ha G 31)), (3, .ref (ha G 49)), (4, .int v4)]) (hW : Wd G z0 s.heap H locs) : W p l e room_1 s m args below meth c H locs cells slots Qg (F0 m 762 ls []) := by
  obtain ⟨hx, hb, hml, hown, hr, hlk, hX, hbl, hba, hE⟩ := id E
  refine lv_aload_n hx hb d_L_law_762 rfl (lv_at hl 1 rfl) ?_
  refine lv_aload_n hx hb d_L_law_763 rfl (lv_at hl 3 rfl) ?_
  refine yLS (As := [.ref (ha G 0), .ref (ha G 49)]) (rest := []) E (c_L_rank _ _ hP) (cwl_139 hE) (by decide) hcs hW hl.1 rfl rfl rfl d_L_law_764 (fun y63 z62 H locs hP hW => ?_)
  refine lv_istore (lv' := [(5, .int y63), (0, .ref b), (1, .ref (ha G 0)), (2, .ref (ha G 31)), (3, .ref (ha G 49)), (4, .int v4)]) hx hb d_L_law_767 hl (by decide) rfl (fun ls hl => ?_)
  refine lv_aload_n hx hb d_L_law_769 rfl (lv_at hl 3 rfl) ?_
  refine yLV_l (As := []) (rest := []) E (c_M_rank _ _ hP) (cwl_141 hE) (yrv_31 hE hW) (by decide) hcs hW hl.1 rfl rfl rfl d_L_law_770 (fun y65 z64 H locs hP hW => ?_)
  refine lv_lstore (lv' := [(6, .long y65), (5, .int y63), (0, .ref b), (1, .ref (ha G 0)), (2, .ref (ha G 31)), (3, .ref (ha G 49)), (4, .int v4)]) hx hb d_L_law_773 hl (by decide) rfl (fun ls hl => ?_)
  refine lv_aload_n hx hb d_L_law_775 rfl (lv_at hl 4 rfl) ?_
  refine yLV_i (As := []) (rest := []) E (c_M_thrown _ _ hP) (cwl_97 hE) (yrv_31 hE hW) (by decide) hcs hW hl.1 rfl rfl rfl d_L_law_776 (fun y67 z66 H locs hP hW => ?_)
  refine lv_iload hx hb d_L_law_779 (lv_at hl 1 rfl) ?_
  refine lv_icmp_eq (tgt := 786) hx hb d_L_law_781 rfl (fun hc => ?_) (fun hc => ?_)
  · have hP := hP.1 hc
    refine lv_iload hx hb d_L_law_786 (lv_at hl 1 rfl) ?_
    refine lv_if_ne (tgt := 802) hx hb d_L_law_788 rfl (fun hc => ?_) (fun hc => ?_)
    · have hP := hP.1 hc
      refine lv_goto (tgt := 1231) hx hb d_L_law_802 rfl ?_
      exact hK _ _ _ _ hP (lv_sub hl [2, 3, 4, 5, 6] rfl) hW
    · have hP := hP.2 hc
      refine lv_aload_n hx hb d_L_law_791 rfl (lv_at hl 5 rfl) ?_
      refine lv_iconst (v := 0) hx hb d_L_law_792 (by decide) ?_
      refine ya_49 hx hb hE hW hP.1 d_L_law_793 ?_
      have hP := hP.2
      refine lv_lload hx hb d_L_law_794 (lv_at hl 0 rfl) ?_
      refine W.lcmp hx hb d_L_law_796 ?_
      refine lv_if_eq (tgt := 802) hx hb d_L_law_797 rfl (fun hc => ?_) (fun hc => ?_)
      · have hP := hP.1 (lgc_eqt hc)
        refine lv_goto (tgt := 1231) hx hb d_L_law_802 rfl ?_
        exact hK _ _ _ _ hP (lv_sub hl [2, 3, 4, 5, 6] rfl) hW
      · have hP := hP.2 (lgc_eqf hc)
        exact hP.elim
  · have hP := hP.2 hc
    exact hP.elim
def B_12 (x1 x2 x3 x4 v4 : Int32) (z0 : St) (K : St → Prop) : Prop := P_L_dice x1 z0 (fun (y69 : Int32) (z68 : St) => P_M_dice x1 z68 (fun (y71 : Int32) (z70 : St) => P_M_thrown z70 (fun (y73 : Int32) (z72 : St) => ((y73 = y69) → ((¬ y69 = 0) → K z72) ∧ ((y69 = 0) → vp_in (0 : Int32) 1 ∧ (((z72.2 49 (0 : Int32).toNatClampNeg) = y71.toInt64) → K z72) ∧ ((¬ (z72.2 49 (0 : Int32).toNatClampNeg) = y71.toInt64) → False))) ∧ ((¬ y73 = y69) → False))))
set_option maxHeartbeats 4000000 in
set_option maxRecDepth 100000 in
theorem wB_12 {K : St → Prop} {x1 x2 x3 x4 v4 : Int32} (E : EnL p l s m meth c args b L xs G) (hcs : cells + 1 ≤ 1097 ∧ slots + 6 ≤ 24514) (hK : ∀ (z0 : St) (ls : Array Slot) (H : Heap) (locs : List Loc), K z0 → lv_has ls 8 [(0, .ref b), (1, .ref (ha G 0)), (2, .ref (ha G 31)), (3, .ref (ha G 49)), (4, .int v4)] → Wd G z0 s.heap H locs → W p l e room_1 s m args below meth c H locs (cells + 1) (slots + 6) Qg (F0 m 1231 ls [])) (hs1 : vp_in (v4 + 1) L ∧ xs (v4 + 1).toNatClampNeg = x1) (hs2 : vp_in (v4 + 2) L ∧ xs (v4 + 2).toNatClampNeg = x2) (hs3 : vp_in (v4 + 3) L ∧ xs (v4 + 3).toNatClampNeg = x3) (hs4 : vp_in (v4 + 4) L ∧ xs (v4 + 4).toNatClampNeg = x4) (z0 : St) (ls : Array Slot) (H : Heap) (locs : List Loc) (hP : B_12 x1 x2 x3 x4 v4 z0 K) (hl : lv_has ls 8 [(0, .ref b), (1, .ref (ha G 0)), (2, .ref (ha G 31)), (3, .ref (ha G 49)), (4, .int v4)]) (hW : Wd G z0 s.heap H locs) : W p l e room_1 s m args below meth c H locs cells slots Qg (F0 m 805 ls []) := by
  obtain ⟨hx, hb, hml, hown, hr, hlk, hX, hbl, hba, hE⟩ := id E
  refine lv_aload_n hx hb d_L_law_805 rfl (lv_at hl 1 rfl) ?_
  refine lv_aload_n hx hb d_L_law_806 rfl (lv_at hl 0 rfl) ?_
  refine lv_iload hx hb d_L_law_807 (lv_at hl 4 rfl) ?_
  refine lv_iconst (v := 1) hx hb d_L_law_809 (by decide) ?_
  refine lv_iadd hx hb d_L_law_810 ?_
  refine ysl E hW hs1.1 hs1.2 d_L_law_811 ?_
  refine lv_aload_n hx hb d_L_law_812 rfl (lv_at hl 3 rfl) ?_
  refine yLS (As := [.ref (ha G 0), .int x1, .ref (ha G 49)]) (rest := []) E (c_L_dice _ _ _ hP) (cwl_142 hE) (by decide) hcs hW hl.1 rfl rfl rfl d_L_law_813 (fun y69 z68 H locs hP hW => ?_)
  refine lv_istore (lv' := [(5, .int y69), (0, .ref b), (1, .ref (ha G 0)), (2, .ref (ha G 31)), (3, .ref (ha G 49)), (4, .int v4)]) hx hb d_L_law_816 hl (by decide) rfl (fun ls hl => ?_)
  refine lv_aload_n hx hb d_L_law_818 rfl (lv_at hl 3 rfl) ?_
  refine lv_aload_n hx hb d_L_law_819 rfl (lv_at hl 1 rfl) ?_
  refine lv_iload hx hb d_L_law_820 (lv_at hl 5 rfl) ?_
  refine lv_iconst (v := 1) hx hb d_L_law_822 (by decide) ?_
  refine lv_iadd hx hb d_L_law_823 ?_
  refine ysl E hW hs1.1 hs1.2 d_L_law_824 ?_
  refine yLV_i (As := [.int x1]) (rest := []) E (c_M_dice _ _ _ hP) (cwl_144 hE) (yrv_31 hE hW) (by decide) hcs hW hl.1 rfl rfl rfl d_L_law_825 (fun y71 z70 H locs hP hW => ?_)
  refine lv_istore (lv' := [(6, .int y71), (5, .int y69), (0, .ref b), (1, .ref (ha G 0)), (2, .ref (ha G 31)), (3, .ref (ha G 49)), (4, .int v4)]) hx hb d_L_law_828 hl (by decide) rfl (fun ls hl => ?_)
  refine lv_aload_n hx hb d_L_law_830 rfl (lv_at hl 4 rfl) ?_
  refine yLV_i (As := []) (rest := []) E (c_M_thrown _ _ hP) (cwl_97 hE) (yrv_31 hE hW) (by decide) hcs hW hl.1 rfl rfl rfl d_L_law_831 (fun y73 z72 H locs hP hW => ?_)
  refine lv_iload hx hb d_L_law_834 (lv_at hl 1 rfl) ?_
  refine lv_icmp_eq (tgt := 841) hx hb d_L_law_836 rfl (fun hc => ?_) (fun hc => ?_)
  · have hP := hP.1 hc
    refine lv_iload hx hb d_L_law_841 (lv_at hl 1 rfl) ?_
    refine lv_if_ne (tgt := 858) hx hb d_L_law_843 rfl (fun hc => ?_) (fun hc => ?_)
    · have hP := hP.1 hc
      refine lv_goto (tgt := 1231) hx hb d_L_law_858 rfl ?_
      exact hK _ _ _ _ hP (lv_sub hl [2, 3, 4, 5, 6] rfl) hW
    · have hP := hP.2 hc
      refine lv_aload_n hx hb d_L_law_846 rfl (lv_at hl 5 rfl) ?_
      refine lv_iconst (v := 0) hx hb d_L_law_847 (by decide) ?_
      refine ya_49 hx hb hE hW hP.1 d_L_law_848 ?_
      have hP := hP.2
      refine lv_iload hx hb d_L_law_849 (lv_at hl 0 rfl) ?_
      refine lv_i2l hx hb d_L_law_851 rfl ?_
      refine W.lcmp hx hb d_L_law_852 ?_
      refine lv_if_eq (tgt := 858) hx hb d_L_law_853 rfl (fun hc => ?_) (fun hc => ?_)
      · have hP := hP.1 (lgc_eqt hc)
        refine lv_goto (tgt := 1231) hx hb d_L_law_858 rfl ?_
        exact hK _ _ _ _ hP (lv_sub hl [2, 3, 4, 5, 6] rfl) hW
      · have hP := hP.2 (lgc_eqf hc)
        exact hP.elim
  · have hP := hP.2 hc
    exact hP.elim
def B_13 (x1 x2 x3 x4 v4 : Int32) (z0 : St) (K : St → Prop) : Prop := P_L_roll x1 z0 (fun (y75 : Int32) (z74 : St) => P_M_roll x1 z74 (fun (y77 : Int32) (z76 : St) => P_M_thrown z76 (fun (y79 : Int32) (z78 : St) => ((y79 = y75) → ((¬ y75 = 0) → K z78) ∧ ((y75 = 0) → vp_in (0 : Int32) 1 ∧ (((z78.2 49 (0 : Int32).toNatClampNeg) = y77.toInt64) → K z78) ∧ ((¬ (z78.2 49 (0 : Int32).toNatClampNeg) = y77.toInt64) → False))) ∧ ((¬ y79 = y75) → False))))
set_option maxHeartbeats 4000000 in
set_option maxRecDepth 100000 in
theorem wB_13 {K : St → Prop} {x1 x2 x3 x4 v4 : Int32} (E : EnL p l s m meth c args b L xs G) (hcs : cells + 1 ≤ 1097 ∧ slots + 6 ≤ 24514) (hK : ∀ (z0 : St) (ls : Array Slot) (H : Heap) (locs : List Loc), K z0 → lv_has ls 8 [(0, .ref b), (1, .ref (ha G 0)), (2, .ref (ha G 31)), (3, .ref (ha G 49)), (4, .int v4)] → Wd G z0 s.heap H locs → W p l e room_1 s m args below meth c H locs (cells + 1) (slots + 6) Qg (F0 m 1231 ls [])) (hs1 : vp_in (v4 + 1) L ∧ xs (v4 + 1).toNatClampNeg = x1) (hs2 : vp_in (v4 + 2) L ∧ xs (v4 + 2).toNatClampNeg = x2) (hs3 : vp_in (v4 + 3) L ∧ xs (v4 + 3).toNatClampNeg = x3) (hs4 : vp_in (v4 + 4) L ∧ xs (v4 + 4).toNatClampNeg = x4) (z0 : St) (ls : Array Slot) (H : Heap) (locs : List Loc) (hP : B_13 x1 x2 x3 x4 v4 z0 K) (hl : lv_has ls 8 [(0, .ref b), (1, .ref (ha G 0)), (2, .ref (ha G 31)), (3, .ref (ha G 49)), (4, .int v4)]) (hW : Wd G z0 s.heap H locs) : W p l e room_1 s m args below meth c H locs cells slots Qg (F0 m 861 ls []) := by
  obtain ⟨hx, hb, hml, hown, hr, hlk, hX, hbl, hba, hE⟩ := id E
  refine lv_aload_n hx hb d_L_law_861 rfl (lv_at hl 1 rfl) ?_
  refine lv_aload_n hx hb d_L_law_862 rfl (lv_at hl 0 rfl) ?_
  refine lv_iload hx hb d_L_law_863 (lv_at hl 4 rfl) ?_
  refine lv_iconst (v := 1) hx hb d_L_law_865 (by decide) ?_
  refine lv_iadd hx hb d_L_law_866 ?_
  refine ysl E hW hs1.1 hs1.2 d_L_law_867 ?_
  refine lv_aload_n hx hb d_L_law_868 rfl (lv_at hl 3 rfl) ?_
  refine yLS (As := [.ref (ha G 0), .int x1, .ref (ha G 49)]) (rest := []) E (c_L_roll _ _ _ hP) (cwl_145 hE) (by decide) hcs hW hl.1 rfl rfl rfl d_L_law_869 (fun y75 z74 H locs hP hW => ?_)
  refine lv_istore (lv' := [(5, .int y75), (0, .ref b), (1, .ref (ha G 0)), (2, .ref (ha G 31)), (3, .ref (ha G 49)), (4, .int v4)]) hx hb d_L_law_872 hl (by decide) rfl (fun ls hl => ?_)
  refine lv_aload_n hx hb d_L_law_874 rfl (lv_at hl 3 rfl) ?_
  refine lv_aload_n hx hb d_L_law_875 rfl (lv_at hl 1 rfl) ?_
  refine lv_iload hx hb d_L_law_876 (lv_at hl 5 rfl) ?_
  refine lv_iconst (v := 1) hx hb d_L_law_878 (by decide) ?_
  refine lv_iadd hx hb d_L_law_879 ?_
  refine ysl E hW hs1.1 hs1.2 d_L_law_880 ?_
  refine yLV_i (As := [.int x1]) (rest := []) E (c_M_roll _ _ _ hP) (cwl_147 hE) (yrv_31 hE hW) (by decide) hcs hW hl.1 rfl rfl rfl d_L_law_881 (fun y77 z76 H locs hP hW => ?_)
  refine lv_istore (lv' := [(6, .int y77), (5, .int y75), (0, .ref b), (1, .ref (ha G 0)), (2, .ref (ha G 31)), (3, .ref (ha G 49)), (4, .int v4)]) hx hb d_L_law_884 hl (by decide) rfl (fun ls hl => ?_)
  refine lv_aload_n hx hb d_L_law_886 rfl (lv_at hl 4 rfl) ?_
  refine yLV_i (As := []) (rest := []) E (c_M_thrown _ _ hP) (cwl_97 hE) (yrv_31 hE hW) (by decide) hcs hW hl.1 rfl rfl rfl d_L_law_887 (fun y79 z78 H locs hP hW => ?_)
  refine lv_iload hx hb d_L_law_890 (lv_at hl 1 rfl) ?_
  refine lv_icmp_eq (tgt := 897) hx hb d_L_law_892 rfl (fun hc => ?_) (fun hc => ?_)
  · have hP := hP.1 hc
    refine lv_iload hx hb d_L_law_897 (lv_at hl 1 rfl) ?_
    refine lv_if_ne (tgt := 914) hx hb d_L_law_899 rfl (fun hc => ?_) (fun hc => ?_)
    · have hP := hP.1 hc
      refine lv_goto (tgt := 1231) hx hb d_L_law_914 rfl ?_
      exact hK _ _ _ _ hP (lv_sub hl [2, 3, 4, 5, 6] rfl) hW
    · have hP := hP.2 hc
      refine lv_aload_n hx hb d_L_law_902 rfl (lv_at hl 5 rfl) ?_
      refine lv_iconst (v := 0) hx hb d_L_law_903 (by decide) ?_
      refine ya_49 hx hb hE hW hP.1 d_L_law_904 ?_
      have hP := hP.2
      refine lv_iload hx hb d_L_law_905 (lv_at hl 0 rfl) ?_
      refine lv_i2l hx hb d_L_law_907 rfl ?_
      refine W.lcmp hx hb d_L_law_908 ?_
      refine lv_if_eq (tgt := 914) hx hb d_L_law_909 rfl (fun hc => ?_) (fun hc => ?_)
      · have hP := hP.1 (lgc_eqt hc)
        refine lv_goto (tgt := 1231) hx hb d_L_law_914 rfl ?_
        exact hK _ _ _ _ hP (lv_sub hl [2, 3, 4, 5, 6] rfl) hW
      · have hP := hP.2 (lgc_eqf hc)
        exact hP.elim
  · have hP := hP.2 hc
    exact hP.elim
def B_14 (x1 x2 x3 x4 v4 : Int32) (z0 : St) (K : St → Prop) : Prop := P_L_number z0 (fun (y81 : Int32) (z80 : St) => P_M_number z80 (fun (y83 : Int64) (z82 : St) => P_M_thrown z82 (fun (y85 : Int32) (z84 : St) => ((y85 = y81) → ((¬ y81 = 0) → K z84) ∧ ((y81 = 0) → vp_in (0 : Int32) 1 ∧ (((z84.2 49 (0 : Int32).toNatClampNeg) = y83) → K z84) ∧ ((¬ (z84.2 49 (0 : Int32).toNatClampNeg) = y83) → False))) ∧ ((¬ y85 = y81) → False))))
set_option maxHeartbeats 4000000 in
set_option maxRecDepth 100000 in
theorem wB_14 {K : St → Prop} {x1 x2 x3 x4 v4 : Int32} (E : EnL p l s m meth c args b L xs G) (hcs : cells + 1 ≤ 1097 ∧ slots + 6 ≤ 24514) (hK : ∀ (z0 : St) (ls : Array Slot) (H : Heap) (locs : List Loc), K z0 → lv_has ls 8 [(0, .ref b), (1, .ref (ha G 0)), (2, .ref (ha G 31)), (3, .ref (ha G 49)), (4, .int v4)] → Wd G z0 s.heap H locs → W p l e room_1 s m args below meth c H locs (cells + 1) (slots + 6) Qg (F0 m 1231 ls [])) (hs1 : vp_in (v4 + 1) L ∧ xs (v4 + 1).toNatClampNeg = x1) (hs2 : vp_in (v4 + 2) L ∧ xs (v4 + 2).toNatClampNeg = x2) (hs3 : vp_in (v4 + 3) L ∧ xs (v4 + 3).toNatClampNeg = x3) (hs4 : vp_in (v4 + 4) L ∧ xs (v4 + 4).toNatClampNeg = x4) (z0 : St) (ls : Array Slot) (H : Heap) (locs : List Loc) (hP : B_14 x1 x2 x3 x4 v4 z0 K) (hl : lv_has ls 8 [(0, .ref b), (1, .ref (ha G 0)), (2, .ref (ha G 31)), (3, .ref (ha G 49)), (4, .int v4)]) (hW : Wd G z0 s.heap H locs) : W p l e room_1 s m args below meth c H locs cells slots Qg (F0 m 917 ls []) := by
  obtain ⟨hx, hb, hml, hown, hr, hlk, hX, hbl, hba, hE⟩ := id E
  refine lv_aload_n hx hb d_L_law_917 rfl (lv_at hl 1 rfl) ?_
  refine lv_aload_n hx hb d_L_law_918 rfl (lv_at hl 3 rfl) ?_
  refine yLS (As := [.ref (ha G 0), .ref (ha G 49)]) (rest := []) E (c_L_number _ _ hP) (cwl_148 hE) (by decide) hcs hW hl.1 rfl rfl rfl d_L_law_919 (fun y81 z80 H locs hP hW => ?_)
  refine lv_istore (lv' := [(5, .int y81), (0, .ref b), (1, .ref (ha G 0)), (2, .ref (ha G 31)), (3, .ref (ha G 49)), (4, .int v4)]) hx hb d_L_law_922 hl (by decide) rfl (fun ls hl => ?_)
  refine lv_aload_n hx hb d_L_law_924 rfl (lv_at hl 3 rfl) ?_
  refine yLV_l (As := []) (rest := []) E (c_M_number _ _ hP) (cwl_150 hE) (yrv_31 hE hW) (by decide) hcs hW hl.1 rfl rfl rfl d_L_law_925 (fun y83 z82 H locs hP hW => ?_)
  refine lv_lstore (lv' := [(6, .long y83), (5, .int y81), (0, .ref b), (1, .ref (ha G 0)), (2, .ref (ha G 31)), (3, .ref (ha G 49)), (4, .int v4)]) hx hb d_L_law_928 hl (by decide) rfl (fun ls hl => ?_)
  refine lv_aload_n hx hb d_L_law_930 rfl (lv_at hl 4 rfl) ?_
  refine yLV_i (As := []) (rest := []) E (c_M_thrown _ _ hP) (cwl_97 hE) (yrv_31 hE hW) (by decide) hcs hW hl.1 rfl rfl rfl d_L_law_931 (fun y85 z84 H locs hP hW => ?_)
  refine lv_iload hx hb d_L_law_934 (lv_at hl 1 rfl) ?_
  refine lv_icmp_eq (tgt := 941) hx hb d_L_law_936 rfl (fun hc => ?_) (fun hc => ?_)
  · have hP := hP.1 hc
    refine lv_iload hx hb d_L_law_941 (lv_at hl 1 rfl) ?_
    refine lv_if_ne (tgt := 957) hx hb d_L_law_943 rfl (fun hc => ?_) (fun hc => ?_)
    · have hP := hP.1 hc
      refine lv_goto (tgt := 1231) hx hb d_L_law_957 rfl ?_
      exact hK _ _ _ _ hP (lv_sub hl [2, 3, 4, 5, 6] rfl) hW
    · have hP := hP.2 hc
      refine lv_aload_n hx hb d_L_law_946 rfl (lv_at hl 5 rfl) ?_
      refine lv_iconst (v := 0) hx hb d_L_law_947 (by decide) ?_
      refine ya_49 hx hb hE hW hP.1 d_L_law_948 ?_
      have hP := hP.2
      refine lv_lload hx hb d_L_law_949 (lv_at hl 0 rfl) ?_
      refine W.lcmp hx hb d_L_law_951 ?_
      refine lv_if_eq (tgt := 957) hx hb d_L_law_952 rfl (fun hc => ?_) (fun hc => ?_)
      · have hP := hP.1 (lgc_eqt hc)
        refine lv_goto (tgt := 1231) hx hb d_L_law_957 rfl ?_
        exact hK _ _ _ _ hP (lv_sub hl [2, 3, 4, 5, 6] rfl) hW
      · have hP := hP.2 (lgc_eqf hc)
        exact hP.elim
  · have hP := hP.2 hc
    exact hP.elim
def B_15 (x1 x2 x3 x4 v4 : Int32) (z0 : St) (K : St → Prop) : Prop := P_L_draw z0 (fun (y87 : Int32) (z86 : St) => P_M_draw z86 (fun (z88 : St) => P_M_thrown z88 (fun (y90 : Int32) (z89 : St) => ((y90 = y87) → K z89) ∧ ((¬ y90 = y87) → False))))
set_option maxHeartbeats 4000000 in
set_option maxRecDepth 100000 in
theorem wB_15 {K : St → Prop} {x1 x2 x3 x4 v4 : Int32} (E : EnL p l s m meth c args b L xs G) (hcs : cells + 1 ≤ 1097 ∧ slots + 6 ≤ 24514) (hK : ∀ (z0 : St) (ls : Array Slot) (H : Heap) (locs : List Loc), K z0 → lv_has ls 8 [(0, .ref b), (1, .ref (ha G 0)), (2, .ref (ha G 31)), (3, .ref (ha G 49)), (4, .int v4)] → Wd G z0 s.heap H locs → W p l e room_1 s m args below meth c H locs (cells + 1) (slots + 6) Qg (F0 m 1231 ls [])) (hs1 : vp_in (v4 + 1) L ∧ xs (v4 + 1).toNatClampNeg = x1) (hs2 : vp_in (v4 + 2) L ∧ xs (v4 + 2).toNatClampNeg = x2) (hs3 : vp_in (v4 + 3) L ∧ xs (v4 + 3).toNatClampNeg = x3) (hs4 : vp_in (v4 + 4) L ∧ xs (v4 + 4).toNatClampNeg = x4) (z0 : St) (ls : Array Slot) (H : Heap) (locs : List Loc) (hP : B_15 x1 x2 x3 x4 v4 z0 K) (hl : lv_has ls 8 [(0, .ref b), (1, .ref (ha G 0)), (2, .ref (ha G 31)), (3, .ref (ha G 49)), (4, .int v4)]) (hW : Wd G z0 s.heap H locs) : W p l e room_1 s m args below meth c H locs cells slots Qg (F0 m 960 ls []) := by
  obtain ⟨hx, hb, hml, hown, hr, hlk, hX, hbl, hba, hE⟩ := id E
  refine lv_aload_n hx hb d_L_law_960 rfl (lv_at hl 1 rfl) ?_
  refine yLS (As := [.ref (ha G 0)]) (rest := []) E (c_L_draw _ _ hP) (cwl_151 hE) (by decide) hcs hW hl.1 rfl rfl rfl d_L_law_961 (fun y87 z86 H locs hP hW => ?_)
  refine lv_istore (lv' := [(5, .int y87), (0, .ref b), (1, .ref (ha G 0)), (2, .ref (ha G 31)), (3, .ref (ha G 49)), (4, .int v4)]) hx hb d_L_law_964 hl (by decide) rfl (fun ls hl => ?_)
  refine lv_aload_n hx hb d_L_law_966 rfl (lv_at hl 3 rfl) ?_
  refine yLV_v (As := []) (rest := []) E (c_M_draw _ _ hP) (cwl_154 hE) (yrv_31 hE hW) (by decide) hcs hW hl.1 rfl rfl rfl d_L_law_967 (fun z88 H locs hP hW => ?_)
  refine lv_aload_n hx hb d_L_law_970 rfl (lv_at hl 3 rfl) ?_
  refine yLV_i (As := []) (rest := []) E (c_M_thrown _ _ hP) (cwl_97 hE) (yrv_31 hE hW) (by decide) hcs hW hl.1 rfl rfl rfl d_L_law_971 (fun y90 z89 H locs hP hW => ?_)
  refine lv_iload hx hb d_L_law_974 (lv_at hl 0 rfl) ?_
  refine lv_icmp_eq (tgt := 981) hx hb d_L_law_976 rfl (fun hc => ?_) (fun hc => ?_)
  · have hP := hP.1 hc
    refine lv_goto (tgt := 1231) hx hb d_L_law_981 rfl ?_
    exact hK _ _ _ _ hP (lv_sub hl [1, 2, 3, 4, 5] rfl) hW
  · have hP := hP.2 hc
    exact hP.elim
def B_16 (x1 x2 x3 x4 v4 : Int32) (z0 : St) (K : St → Prop) : Prop := P_L_member x1 z0 (fun (y92 : Int32) (z91 : St) => P_M_member x1 z91 (fun (y94 : Int32) (z93 : St) => P_M_thrown z93 (fun (y96 : Int32) (z95 : St) => ((y96 = y92) → ((¬ y92 = 0) → K z95) ∧ ((y92 = 0) → vp_in (0 : Int32) 1 ∧ (((z95.2 49 (0 : Int32).toNatClampNeg) = y94.toInt64) → K z95) ∧ ((¬ (z95.2 49 (0 : Int32).toNatClampNeg) = y94.toInt64) → False))) ∧ ((¬ y96 = y92) → False))))
set_option maxHeartbeats 4000000 in
set_option maxRecDepth 100000 in
theorem wB_16 {K : St → Prop} {x1 x2 x3 x4 v4 : Int32} (E : EnL p l s m meth c args b L xs G) (hcs : cells + 1 ≤ 1097 ∧ slots + 6 ≤ 24514) (hK : ∀ (z0 : St) (ls : Array Slot) (H : Heap) (locs : List Loc), K z0 → lv_has ls 8 [(0, .ref b), (1, .ref (ha G 0)), (2, .ref (ha G 31)), (3, .ref (ha G 49)), (4, .int v4)] → Wd G z0 s.heap H locs → W p l e room_1 s m args below meth c H locs (cells + 1) (slots + 6) Qg (F0 m 1231 ls [])) (hs1 : vp_in (v4 + 1) L ∧ xs (v4 + 1).toNatClampNeg = x1) (hs2 : vp_in (v4 + 2) L ∧ xs (v4 + 2).toNatClampNeg = x2) (hs3 : vp_in (v4 + 3) L ∧ xs (v4 + 3).toNatClampNeg = x3) (hs4 : vp_in (v4 + 4) L ∧ xs (v4 + 4).toNatClampNeg = x4) (z0 : St) (ls : Array Slot) (H : Heap) (locs : List Loc) (hP : B_16 x1 x2 x3 x4 v4 z0 K) (hl : lv_has ls 8 [(0, .ref b), (1, .ref (ha G 0)), (2, .ref (ha G 31)), (3, .ref (ha G 49)), (4, .int v4)]) (hW : Wd G z0 s.heap H locs) : W p l e room_1 s m args below meth c H locs cells slots Qg (F0 m 984 ls []) := by
  obtain ⟨hx, hb, hml, hown, hr, hlk, hX, hbl, hba, hE⟩ := id E
  refine lv_aload_n hx hb d_L_law_984 rfl (lv_at hl 1 rfl) ?_
  refine lv_aload_n hx hb d_L_law_985 rfl (lv_at hl 0 rfl) ?_
  refine lv_iload hx hb d_L_law_986 (lv_at hl 4 rfl) ?_
  refine lv_iconst (v := 1) hx hb d_L_law_988 (by decide) ?_
  refine lv_iadd hx hb d_L_law_989 ?_
  refine ysl E hW hs1.1 hs1.2 d_L_law_990 ?_
  refine lv_aload_n hx hb d_L_law_991 rfl (lv_at hl 3 rfl) ?_
  refine yLS (As := [.ref (ha G 0), .int x1, .ref (ha G 49)]) (rest := []) E (c_L_member _ _ _ hP) (cwl_155 hE) (by decide) hcs hW hl.1 rfl rfl rfl d_L_law_992 (fun y92 z91 H locs hP hW => ?_)
  refine lv_istore (lv' := [(5, .int y92), (0, .ref b), (1, .ref (ha G 0)), (2, .ref (ha G 31)), (3, .ref (ha G 49)), (4, .int v4)]) hx hb d_L_law_995 hl (by decide) rfl (fun ls hl => ?_)
  refine lv_aload_n hx hb d_L_law_997 rfl (lv_at hl 3 rfl) ?_
  refine lv_aload_n hx hb d_L_law_998 rfl (lv_at hl 1 rfl) ?_
  refine lv_iload hx hb d_L_law_999 (lv_at hl 5 rfl) ?_
  refine lv_iconst (v := 1) hx hb d_L_law_1001 (by decide) ?_
  refine lv_iadd hx hb d_L_law_1002 ?_
  refine ysl E hW hs1.1 hs1.2 d_L_law_1003 ?_
  refine yLV_i (As := [.int x1]) (rest := []) E (c_M_member _ _ _ hP) (cwl_157 hE) (yrv_31 hE hW) (by decide) hcs hW hl.1 rfl rfl rfl d_L_law_1004 (fun y94 z93 H locs hP hW => ?_)
  refine lv_istore (lv' := [(6, .int y94), (5, .int y92), (0, .ref b), (1, .ref (ha G 0)), (2, .ref (ha G 31)), (3, .ref (ha G 49)), (4, .int v4)]) hx hb d_L_law_1007 hl (by decide) rfl (fun ls hl => ?_)
  refine lv_aload_n hx hb d_L_law_1009 rfl (lv_at hl 4 rfl) ?_
  refine yLV_i (As := []) (rest := []) E (c_M_thrown _ _ hP) (cwl_97 hE) (yrv_31 hE hW) (by decide) hcs hW hl.1 rfl rfl rfl d_L_law_1010 (fun y96 z95 H locs hP hW => ?_)
  refine lv_iload hx hb d_L_law_1013 (lv_at hl 1 rfl) ?_
  refine lv_icmp_eq (tgt := 1020) hx hb d_L_law_1015 rfl (fun hc => ?_) (fun hc => ?_)
  · have hP := hP.1 hc
    refine lv_iload hx hb d_L_law_1020 (lv_at hl 1 rfl) ?_
    refine lv_if_ne (tgt := 1037) hx hb d_L_law_1022 rfl (fun hc => ?_) (fun hc => ?_)
    · have hP := hP.1 hc
      refine lv_goto (tgt := 1231) hx hb d_L_law_1037 rfl ?_
      exact hK _ _ _ _ hP (lv_sub hl [2, 3, 4, 5, 6] rfl) hW
    · have hP := hP.2 hc
      refine lv_aload_n hx hb d_L_law_1025 rfl (lv_at hl 5 rfl) ?_
      refine lv_iconst (v := 0) hx hb d_L_law_1026 (by decide) ?_
      refine ya_49 hx hb hE hW hP.1 d_L_law_1027 ?_
      have hP := hP.2
      refine lv_iload hx hb d_L_law_1028 (lv_at hl 0 rfl) ?_
      refine lv_i2l hx hb d_L_law_1030 rfl ?_
      refine W.lcmp hx hb d_L_law_1031 ?_
      refine lv_if_eq (tgt := 1037) hx hb d_L_law_1032 rfl (fun hc => ?_) (fun hc => ?_)
      · have hP := hP.1 (lgc_eqt hc)
        refine lv_goto (tgt := 1231) hx hb d_L_law_1037 rfl ?_
        exact hK _ _ _ _ hP (lv_sub hl [2, 3, 4, 5, 6] rfl) hW
      · have hP := hP.2 (lgc_eqf hc)
        exact hP.elim
  · have hP := hP.2 hc
    exact hP.elim
def B_17 (x1 x2 x3 x4 v4 : Int32) (z0 : St) (K : St → Prop) : Prop := P_L_dropOut x1 z0 (fun (y98 : Int32) (z97 : St) => P_M_dropOut x1 z97 (fun (z99 : St) => P_M_thrown z99 (fun (y101 : Int32) (z100 : St) => ((y101 = y98) → K z100) ∧ ((¬ y101 = y98) → False))))
set_option maxHeartbeats 4000000 in
set_option maxRecDepth 100000 in
theorem wB_17 {K : St → Prop} {x1 x2 x3 x4 v4 : Int32} (E : EnL p l s m meth c args b L xs G) (hcs : cells + 1 ≤ 1097 ∧ slots + 6 ≤ 24514) (hK : ∀ (z0 : St) (ls : Array Slot) (H : Heap) (locs : List Loc), K z0 → lv_has ls 8 [(0, .ref b), (1, .ref (ha G 0)), (2, .ref (ha G 31)), (3, .ref (ha G 49)), (4, .int v4)] → Wd G z0 s.heap H locs → W p l e room_1 s m args below meth c H locs (cells + 1) (slots + 6) Qg (F0 m 1231 ls [])) (hs1 : vp_in (v4 + 1) L ∧ xs (v4 + 1).toNatClampNeg = x1) (hs2 : vp_in (v4 + 2) L ∧ xs (v4 + 2).toNatClampNeg = x2) (hs3 : vp_in (v4 + 3) L ∧ xs (v4 + 3).toNatClampNeg = x3) (hs4 : vp_in (v4 + 4) L ∧ xs (v4 + 4).toNatClampNeg = x4) (z0 : St) (ls : Array Slot) (H : Heap) (locs : List Loc) (hP : B_17 x1 x2 x3 x4 v4 z0 K) (hl : lv_has ls 8 [(0, .ref b), (1, .ref (ha G 0)), (2, .ref (ha G 31)), (3, .ref (ha G 49)), (4, .int v4)]) (hW : Wd G z0 s.heap H locs) : W p l e room_1 s m args below meth c H locs cells slots Qg (F0 m 1040 ls []) := by
  obtain ⟨hx, hb, hml, hown, hr, hlk, hX, hbl, hba, hE⟩ := id E
  refine lv_aload_n hx hb d_L_law_1040 rfl (lv_at hl 1 rfl) ?_
  refine lv_aload_n hx hb d_L_law_1041 rfl (lv_at hl 0 rfl) ?_
  refine lv_iload hx hb d_L_law_1042 (lv_at hl 4 rfl) ?_
  refine lv_iconst (v := 1) hx hb d_L_law_1044 (by decide) ?_
  refine lv_iadd hx hb d_L_law_1045 ?_
  refine ysl E hW hs1.1 hs1.2 d_L_law_1046 ?_
  refine yLS (As := [.ref (ha G 0), .int x1]) (rest := []) E (c_L_dropOut _ _ _ hP) (cwl_158 hE) (by decide) hcs hW hl.1 rfl rfl rfl d_L_law_1047 (fun y98 z97 H locs hP hW => ?_)
  refine lv_istore (lv' := [(5, .int y98), (0, .ref b), (1, .ref (ha G 0)), (2, .ref (ha G 31)), (3, .ref (ha G 49)), (4, .int v4)]) hx hb d_L_law_1050 hl (by decide) rfl (fun ls hl => ?_)
  refine lv_aload_n hx hb d_L_law_1052 rfl (lv_at hl 3 rfl) ?_
  refine lv_aload_n hx hb d_L_law_1053 rfl (lv_at hl 1 rfl) ?_
  refine lv_iload hx hb d_L_law_1054 (lv_at hl 5 rfl) ?_
  refine lv_iconst (v := 1) hx hb d_L_law_1056 (by decide) ?_
  refine lv_iadd hx hb d_L_law_1057 ?_
  refine ysl E hW hs1.1 hs1.2 d_L_law_1058 ?_
  refine yLV_v (As := [.int x1]) (rest := []) E (c_M_dropOut _ _ _ hP) (cwl_160 hE) (yrv_31 hE hW) (by decide) hcs hW hl.1 rfl rfl rfl d_L_law_1059 (fun z99 H locs hP hW => ?_)
  refine lv_aload_n hx hb d_L_law_1062 rfl (lv_at hl 3 rfl) ?_
  refine yLV_i (As := []) (rest := []) E (c_M_thrown _ _ hP) (cwl_97 hE) (yrv_31 hE hW) (by decide) hcs hW hl.1 rfl rfl rfl d_L_law_1063 (fun y101 z100 H locs hP hW => ?_)
  refine lv_iload hx hb d_L_law_1066 (lv_at hl 0 rfl) ?_
  refine lv_icmp_eq (tgt := 1073) hx hb d_L_law_1068 rfl (fun hc => ?_) (fun hc => ?_)
  · have hP := hP.1 hc
    refine lv_goto (tgt := 1231) hx hb d_L_law_1073 rfl ?_
    exact hK _ _ _ _ hP (lv_sub hl [1, 2, 3, 4, 5] rfl) hW
  · have hP := hP.2 hc
    exact hP.elim
def B_18 (x1 x2 x3 x4 v4 : Int32) (z0 : St) (K : St → Prop) : Prop := P_L_candidate x1 z0 (fun (y103 : Int32) (z102 : St) => P_M_candidate x1 z102 (fun (y105 : Int32) (z104 : St) => P_M_thrown z104 (fun (y107 : Int32) (z106 : St) => ((y107 = y103) → ((¬ y103 = 0) → K z106) ∧ ((y103 = 0) → vp_in (0 : Int32) 1 ∧ (((z106.2 49 (0 : Int32).toNatClampNeg) = y105.toInt64) → K z106) ∧ ((¬ (z106.2 49 (0 : Int32).toNatClampNeg) = y105.toInt64) → False))) ∧ ((¬ y107 = y103) → False))))
set_option maxHeartbeats 4000000 in
set_option maxRecDepth 100000 in
theorem wB_18 {K : St → Prop} {x1 x2 x3 x4 v4 : Int32} (E : EnL p l s m meth c args b L xs G) (hcs : cells + 1 ≤ 1097 ∧ slots + 6 ≤ 24514) (hK : ∀ (z0 : St) (ls : Array Slot) (H : Heap) (locs : List Loc), K z0 → lv_has ls 8 [(0, .ref b), (1, .ref (ha G 0)), (2, .ref (ha G 31)), (3, .ref (ha G 49)), (4, .int v4)] → Wd G z0 s.heap H locs → W p l e room_1 s m args below meth c H locs (cells + 1) (slots + 6) Qg (F0 m 1231 ls [])) (hs1 : vp_in (v4 + 1) L ∧ xs (v4 + 1).toNatClampNeg = x1) (hs2 : vp_in (v4 + 2) L ∧ xs (v4 + 2).toNatClampNeg = x2) (hs3 : vp_in (v4 + 3) L ∧ xs (v4 + 3).toNatClampNeg = x3) (hs4 : vp_in (v4 + 4) L ∧ xs (v4 + 4).toNatClampNeg = x4) (z0 : St) (ls : Array Slot) (H : Heap) (locs : List Loc) (hP : B_18 x1 x2 x3 x4 v4 z0 K) (hl : lv_has ls 8 [(0, .ref b), (1, .ref (ha G 0)), (2, .ref (ha G 31)), (3, .ref (ha G 49)), (4, .int v4)]) (hW : Wd G z0 s.heap H locs) : W p l e room_1 s m args below meth c H locs cells slots Qg (F0 m 1076 ls []) := by
  obtain ⟨hx, hb, hml, hown, hr, hlk, hX, hbl, hba, hE⟩ := id E
  refine lv_aload_n hx hb d_L_law_1076 rfl (lv_at hl 1 rfl) ?_
  refine lv_aload_n hx hb d_L_law_1077 rfl (lv_at hl 0 rfl) ?_
  refine lv_iload hx hb d_L_law_1078 (lv_at hl 4 rfl) ?_
  refine lv_iconst (v := 1) hx hb d_L_law_1080 (by decide) ?_
  refine lv_iadd hx hb d_L_law_1081 ?_
  refine ysl E hW hs1.1 hs1.2 d_L_law_1082 ?_
  refine lv_aload_n hx hb d_L_law_1083 rfl (lv_at hl 3 rfl) ?_
  refine yLS (As := [.ref (ha G 0), .int x1, .ref (ha G 49)]) (rest := []) E (c_L_candidate _ _ _ hP) (cwl_161 hE) (by decide) hcs hW hl.1 rfl rfl rfl d_L_law_1084 (fun y103 z102 H locs hP hW => ?_)
  refine lv_istore (lv' := [(5, .int y103), (0, .ref b), (1, .ref (ha G 0)), (2, .ref (ha G 31)), (3, .ref (ha G 49)), (4, .int v4)]) hx hb d_L_law_1087 hl (by decide) rfl (fun ls hl => ?_)
  refine lv_aload_n hx hb d_L_law_1089 rfl (lv_at hl 3 rfl) ?_
  refine lv_aload_n hx hb d_L_law_1090 rfl (lv_at hl 1 rfl) ?_
  refine lv_iload hx hb d_L_law_1091 (lv_at hl 5 rfl) ?_
  refine lv_iconst (v := 1) hx hb d_L_law_1093 (by decide) ?_
  refine lv_iadd hx hb d_L_law_1094 ?_
  refine ysl E hW hs1.1 hs1.2 d_L_law_1095 ?_
  refine yLV_i (As := [.int x1]) (rest := []) E (c_M_candidate _ _ _ hP) (cwl_163 hE) (yrv_31 hE hW) (by decide) hcs hW hl.1 rfl rfl rfl d_L_law_1096 (fun y105 z104 H locs hP hW => ?_)
  refine lv_istore (lv' := [(6, .int y105), (5, .int y103), (0, .ref b), (1, .ref (ha G 0)), (2, .ref (ha G 31)), (3, .ref (ha G 49)), (4, .int v4)]) hx hb d_L_law_1099 hl (by decide) rfl (fun ls hl => ?_)
  refine lv_aload_n hx hb d_L_law_1101 rfl (lv_at hl 4 rfl) ?_
  refine yLV_i (As := []) (rest := []) E (c_M_thrown _ _ hP) (cwl_97 hE) (yrv_31 hE hW) (by decide) hcs hW hl.1 rfl rfl rfl d_L_law_1102 (fun y107 z106 H locs hP hW => ?_)
  refine lv_iload hx hb d_L_law_1105 (lv_at hl 1 rfl) ?_
  refine lv_icmp_eq (tgt := 1112) hx hb d_L_law_1107 rfl (fun hc => ?_) (fun hc => ?_)
  · have hP := hP.1 hc
    refine lv_iload hx hb d_L_law_1112 (lv_at hl 1 rfl) ?_
    refine lv_if_ne (tgt := 1129) hx hb d_L_law_1114 rfl (fun hc => ?_) (fun hc => ?_)
    · have hP := hP.1 hc
      refine lv_goto (tgt := 1231) hx hb d_L_law_1129 rfl ?_
      exact hK _ _ _ _ hP (lv_sub hl [2, 3, 4, 5, 6] rfl) hW
    · have hP := hP.2 hc
      refine lv_aload_n hx hb d_L_law_1117 rfl (lv_at hl 5 rfl) ?_
      refine lv_iconst (v := 0) hx hb d_L_law_1118 (by decide) ?_
      refine ya_49 hx hb hE hW hP.1 d_L_law_1119 ?_
      have hP := hP.2
      refine lv_iload hx hb d_L_law_1120 (lv_at hl 0 rfl) ?_
      refine lv_i2l hx hb d_L_law_1122 rfl ?_
      refine W.lcmp hx hb d_L_law_1123 ?_
      refine lv_if_eq (tgt := 1129) hx hb d_L_law_1124 rfl (fun hc => ?_) (fun hc => ?_)
      · have hP := hP.1 (lgc_eqt hc)
        refine lv_goto (tgt := 1231) hx hb d_L_law_1129 rfl ?_
        exact hK _ _ _ _ hP (lv_sub hl [2, 3, 4, 5, 6] rfl) hW
      · have hP := hP.2 (lgc_eqf hc)
        exact hP.elim
  · have hP := hP.2 hc
    exact hP.elim
def B_19 (x1 x2 x3 x4 v4 : Int32) (z0 : St) (K : St → Prop) : Prop := P_L_replace z0 (fun (y109 : Int32) (z108 : St) => P_M_replace z108 (fun (y111 : Int32) (z110 : St) => P_M_thrown z110 (fun (y113 : Int32) (z112 : St) => ((y113 = y109) → ((¬ y109 = 0) → K z112) ∧ ((y109 = 0) → vp_in (0 : Int32) 1 ∧ (((z112.2 49 (0 : Int32).toNatClampNeg) = y111.toInt64) → K z112) ∧ ((¬ (z112.2 49 (0 : Int32).toNatClampNeg) = y111.toInt64) → False))) ∧ ((¬ y113 = y109) → False))))
set_option maxHeartbeats 4000000 in
set_option maxRecDepth 100000 in
theorem wB_19 {K : St → Prop} {x1 x2 x3 x4 v4 : Int32} (E : EnL p l s m meth c args b L xs G) (hcs : cells + 1 ≤ 1097 ∧ slots + 6 ≤ 24514) (hK : ∀ (z0 : St) (ls : Array Slot) (H : Heap) (locs : List Loc), K z0 → lv_has ls 8 [(0, .ref b), (1, .ref (ha G 0)), (2, .ref (ha G 31)), (3, .ref (ha G 49)), (4, .int v4)] → Wd G z0 s.heap H locs → W p l e room_1 s m args below meth c H locs (cells + 1) (slots + 6) Qg (F0 m 1231 ls [])) (hs1 : vp_in (v4 + 1) L ∧ xs (v4 + 1).toNatClampNeg = x1) (hs2 : vp_in (v4 + 2) L ∧ xs (v4 + 2).toNatClampNeg = x2) (hs3 : vp_in (v4 + 3) L ∧ xs (v4 + 3).toNatClampNeg = x3) (hs4 : vp_in (v4 + 4) L ∧ xs (v4 + 4).toNatClampNeg = x4) (z0 : St) (ls : Array Slot) (H : Heap) (locs : List Loc) (hP : B_19 x1 x2 x3 x4 v4 z0 K) (hl : lv_has ls 8 [(0, .ref b), (1, .ref (ha G 0)), (2, .ref (ha G 31)), (3, .ref (ha G 49)), (4, .int v4)]) (hW : Wd G z0 s.heap H locs) : W p l e room_1 s m args below meth c H locs cells slots Qg (F0 m 1132 ls []) := by
  obtain ⟨hx, hb, hml, hown, hr, hlk, hX, hbl, hba, hE⟩ := id E
  refine lv_aload_n hx hb d_L_law_1132 rfl (lv_at hl 1 rfl) ?_
  refine lv_aload_n hx hb d_L_law_1133 rfl (lv_at hl 3 rfl) ?_
  refine yLS (As := [.ref (ha G 0), .ref (ha G 49)]) (rest := []) E (c_L_replace _ _ hP) (cwl_164 hE) (by decide) hcs hW hl.1 rfl rfl rfl d_L_law_1134 (fun y109 z108 H locs hP hW => ?_)
  refine lv_istore (lv' := [(5, .int y109), (0, .ref b), (1, .ref (ha G 0)), (2, .ref (ha G 31)), (3, .ref (ha G 49)), (4, .int v4)]) hx hb d_L_law_1137 hl (by decide) rfl (fun ls hl => ?_)
  refine lv_aload_n hx hb d_L_law_1139 rfl (lv_at hl 3 rfl) ?_
  refine yLV_i (As := []) (rest := []) E (c_M_replace _ _ hP) (cwl_166 hE) (yrv_31 hE hW) (by decide) hcs hW hl.1 rfl rfl rfl d_L_law_1140 (fun y111 z110 H locs hP hW => ?_)
  refine lv_istore (lv' := [(6, .int y111), (5, .int y109), (0, .ref b), (1, .ref (ha G 0)), (2, .ref (ha G 31)), (3, .ref (ha G 49)), (4, .int v4)]) hx hb d_L_law_1143 hl (by decide) rfl (fun ls hl => ?_)
  refine lv_aload_n hx hb d_L_law_1145 rfl (lv_at hl 4 rfl) ?_
  refine yLV_i (As := []) (rest := []) E (c_M_thrown _ _ hP) (cwl_97 hE) (yrv_31 hE hW) (by decide) hcs hW hl.1 rfl rfl rfl d_L_law_1146 (fun y113 z112 H locs hP hW => ?_)
  refine lv_iload hx hb d_L_law_1149 (lv_at hl 1 rfl) ?_
  refine lv_icmp_eq (tgt := 1156) hx hb d_L_law_1151 rfl (fun hc => ?_) (fun hc => ?_)
  · have hP := hP.1 hc
    refine lv_iload hx hb d_L_law_1156 (lv_at hl 1 rfl) ?_
    refine lv_if_ne (tgt := 1173) hx hb d_L_law_1158 rfl (fun hc => ?_) (fun hc => ?_)
    · have hP := hP.1 hc
      refine lv_goto (tgt := 1231) hx hb d_L_law_1173 rfl ?_
      exact hK _ _ _ _ hP (lv_sub hl [2, 3, 4, 5, 6] rfl) hW
    · have hP := hP.2 hc
      refine lv_aload_n hx hb d_L_law_1161 rfl (lv_at hl 5 rfl) ?_
      refine lv_iconst (v := 0) hx hb d_L_law_1162 (by decide) ?_
      refine ya_49 hx hb hE hW hP.1 d_L_law_1163 ?_
      have hP := hP.2
      refine lv_iload hx hb d_L_law_1164 (lv_at hl 0 rfl) ?_
      refine lv_i2l hx hb d_L_law_1166 rfl ?_
      refine W.lcmp hx hb d_L_law_1167 ?_
      refine lv_if_eq (tgt := 1173) hx hb d_L_law_1168 rfl (fun hc => ?_) (fun hc => ?_)
      · have hP := hP.1 (lgc_eqt hc)
        refine lv_goto (tgt := 1231) hx hb d_L_law_1173 rfl ?_
        exact hK _ _ _ _ hP (lv_sub hl [2, 3, 4, 5, 6] rfl) hW
      · have hP := hP.2 (lgc_eqf hc)
        exact hP.elim
  · have hP := hP.2 hc
    exact hP.elim
def B_20 (x1 x2 x3 x4 v4 : Int32) (z0 : St) (K : St → Prop) : Prop := P_L_breach z0 (fun (y115 : Int32) (z114 : St) => P_M_breach z114 (fun (y117 : Int32) (z116 : St) => P_M_thrown z116 (fun (y119 : Int32) (z118 : St) => ((y119 = y115) → ((¬ y115 = 0) → K z118) ∧ ((y115 = 0) → vp_in (0 : Int32) 1 ∧ (((z118.2 49 (0 : Int32).toNatClampNeg) = y117.toInt64) → K z118) ∧ ((¬ (z118.2 49 (0 : Int32).toNatClampNeg) = y117.toInt64) → False))) ∧ ((¬ y119 = y115) → False))))
set_option maxHeartbeats 4000000 in
set_option maxRecDepth 100000 in
theorem wB_20 {K : St → Prop} {x1 x2 x3 x4 v4 : Int32} (E : EnL p l s m meth c args b L xs G) (hcs : cells + 1 ≤ 1097 ∧ slots + 6 ≤ 24514) (hK : ∀ (z0 : St) (ls : Array Slot) (H : Heap) (locs : List Loc), K z0 → lv_has ls 8 [(0, .ref b), (1, .ref (ha G 0)), (2, .ref (ha G 31)), (3, .ref (ha G 49)), (4, .int v4)] → Wd G z0 s.heap H locs → W p l e room_1 s m args below meth c H locs (cells + 1) (slots + 6) Qg (F0 m 1231 ls [])) (hs1 : vp_in (v4 + 1) L ∧ xs (v4 + 1).toNatClampNeg = x1) (hs2 : vp_in (v4 + 2) L ∧ xs (v4 + 2).toNatClampNeg = x2) (hs3 : vp_in (v4 + 3) L ∧ xs (v4 + 3).toNatClampNeg = x3) (hs4 : vp_in (v4 + 4) L ∧ xs (v4 + 4).toNatClampNeg = x4) (z0 : St) (ls : Array Slot) (H : Heap) (locs : List Loc) (hP : B_20 x1 x2 x3 x4 v4 z0 K) (hl : lv_has ls 8 [(0, .ref b), (1, .ref (ha G 0)), (2, .ref (ha G 31)), (3, .ref (ha G 49)), (4, .int v4)]) (hW : Wd G z0 s.heap H locs) : W p l e room_1 s m args below meth c H locs cells slots Qg (F0 m 1176 ls []) := by
  obtain ⟨hx, hb, hml, hown, hr, hlk, hX, hbl, hba, hE⟩ := id E
  refine lv_aload_n hx hb d_L_law_1176 rfl (lv_at hl 1 rfl) ?_
  refine lv_aload_n hx hb d_L_law_1177 rfl (lv_at hl 3 rfl) ?_
  refine yLS (As := [.ref (ha G 0), .ref (ha G 49)]) (rest := []) E (c_L_breach _ _ hP) (cwl_167 hE) (by decide) hcs hW hl.1 rfl rfl rfl d_L_law_1178 (fun y115 z114 H locs hP hW => ?_)
  refine lv_istore (lv' := [(5, .int y115), (0, .ref b), (1, .ref (ha G 0)), (2, .ref (ha G 31)), (3, .ref (ha G 49)), (4, .int v4)]) hx hb d_L_law_1181 hl (by decide) rfl (fun ls hl => ?_)
  refine lv_aload_n hx hb d_L_law_1183 rfl (lv_at hl 3 rfl) ?_
  refine yLV_i (As := []) (rest := []) E (c_M_breach _ _ hP) (cwl_169 hE) (yrv_31 hE hW) (by decide) hcs hW hl.1 rfl rfl rfl d_L_law_1184 (fun y117 z116 H locs hP hW => ?_)
  refine lv_istore (lv' := [(6, .int y117), (5, .int y115), (0, .ref b), (1, .ref (ha G 0)), (2, .ref (ha G 31)), (3, .ref (ha G 49)), (4, .int v4)]) hx hb d_L_law_1187 hl (by decide) rfl (fun ls hl => ?_)
  refine lv_aload_n hx hb d_L_law_1189 rfl (lv_at hl 4 rfl) ?_
  refine yLV_i (As := []) (rest := []) E (c_M_thrown _ _ hP) (cwl_97 hE) (yrv_31 hE hW) (by decide) hcs hW hl.1 rfl rfl rfl d_L_law_1190 (fun y119 z118 H locs hP hW => ?_)
  refine lv_iload hx hb d_L_law_1193 (lv_at hl 1 rfl) ?_
  refine lv_icmp_eq (tgt := 1200) hx hb d_L_law_1195 rfl (fun hc => ?_) (fun hc => ?_)
  · have hP := hP.1 hc
    refine lv_iload hx hb d_L_law_1200 (lv_at hl 1 rfl) ?_
    refine lv_if_ne (tgt := 1217) hx hb d_L_law_1202 rfl (fun hc => ?_) (fun hc => ?_)
    · have hP := hP.1 hc
      refine lv_goto (tgt := 1231) hx hb d_L_law_1217 rfl ?_
      exact hK _ _ _ _ hP (lv_sub hl [2, 3, 4, 5, 6] rfl) hW
    · have hP := hP.2 hc
      refine lv_aload_n hx hb d_L_law_1205 rfl (lv_at hl 5 rfl) ?_
      refine lv_iconst (v := 0) hx hb d_L_law_1206 (by decide) ?_
      refine ya_49 hx hb hE hW hP.1 d_L_law_1207 ?_
      have hP := hP.2
      refine lv_iload hx hb d_L_law_1208 (lv_at hl 0 rfl) ?_
      refine lv_i2l hx hb d_L_law_1210 rfl ?_
      refine W.lcmp hx hb d_L_law_1211 ?_
      refine lv_if_eq (tgt := 1217) hx hb d_L_law_1212 rfl (fun hc => ?_) (fun hc => ?_)
      · have hP := hP.1 (lgc_eqt hc)
        refine lv_goto (tgt := 1231) hx hb d_L_law_1217 rfl ?_
        exact hK _ _ _ _ hP (lv_sub hl [2, 3, 4, 5, 6] rfl) hW
      · have hP := hP.2 (lgc_eqf hc)
        exact hP.elim
  · have hP := hP.2 hc
    exact hP.elim
def B_21 (x1 x2 x3 x4 v4 : Int32) (z0 : St) (K : St → Prop) : Prop := P_O_reset z0 (fun (z120 : St) => P_M_reset z120 (fun (z121 : St) => K z121))
set_option maxHeartbeats 4000000 in
set_option maxRecDepth 100000 in
theorem wB_21 {K : St → Prop} {x1 x2 x3 x4 v4 : Int32} (E : EnL p l s m meth c args b L xs G) (hcs : cells + 1 ≤ 1097 ∧ slots + 6 ≤ 24514) (hK : ∀ (z0 : St) (ls : Array Slot) (H : Heap) (locs : List Loc), K z0 → lv_has ls 8 [(0, .ref b), (1, .ref (ha G 0)), (2, .ref (ha G 31)), (3, .ref (ha G 49)), (4, .int v4)] → Wd G z0 s.heap H locs → W p l e room_1 s m args below meth c H locs (cells + 1) (slots + 6) Qg (F0 m 1231 ls [])) (hs1 : vp_in (v4 + 1) L ∧ xs (v4 + 1).toNatClampNeg = x1) (hs2 : vp_in (v4 + 2) L ∧ xs (v4 + 2).toNatClampNeg = x2) (hs3 : vp_in (v4 + 3) L ∧ xs (v4 + 3).toNatClampNeg = x3) (hs4 : vp_in (v4 + 4) L ∧ xs (v4 + 4).toNatClampNeg = x4) (z0 : St) (ls : Array Slot) (H : Heap) (locs : List Loc) (hP : B_21 x1 x2 x3 x4 v4 z0 K) (hl : lv_has ls 8 [(0, .ref b), (1, .ref (ha G 0)), (2, .ref (ha G 31)), (3, .ref (ha G 49)), (4, .int v4)]) (hW : Wd G z0 s.heap H locs) : W p l e room_1 s m args below meth c H locs cells slots Qg (F0 m 1220 ls []) := by
  obtain ⟨hx, hb, hml, hown, hr, hlk, hX, hbl, hba, hE⟩ := id E
  refine lv_aload_n hx hb d_L_law_1220 rfl (lv_at hl 1 rfl) ?_
  refine yLV_v (As := []) (rest := []) E (c_O_reset _ _ hP) (cwl_170 hE) (yrv_0 hE hW) (by decide) ⟨by omega, by omega⟩ hW hl.1 rfl rfl rfl d_L_law_1221 (fun z120 H locs hP hW => ?_)
  refine lv_aload_n hx hb d_L_law_1224 rfl (lv_at hl 2 rfl) ?_
  refine yLV_v (As := []) (rest := []) E (c_M_reset _ _ hP) (cwl_173 hE) (yrv_31 hE hW) (by decide) ⟨by omega, by omega⟩ hW hl.1 rfl rfl rfl d_L_law_1225 (fun z121 H locs hP hW => ?_)
  refine lv_goto (tgt := 1231) hx hb d_L_law_1228 rfl ?_
  refine W.widen (Nat.le_add_right _ 1) (Nat.le_add_right _ 6) ?_
  exact hK _ _ _ _ hP hl hW
end LCases
