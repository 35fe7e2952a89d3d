theorem tm_1 {w : Cond} (h : w ∈ tables_1_1) : w ∈ lw_tbl := List.mem_append_right _ (show w ∈ tables_1 from List.mem_append_left _ h)
theorem tm_2 {w : Cond} (h : w ∈ tables_1_2) : w ∈ lw_tbl := List.mem_append_right _ (show w ∈ tables_1 from List.mem_append_right _ (List.mem_append_left _ h))
theorem tm_3 {w : Cond} (h : w ∈ tables_1_3) : w ∈ lw_tbl := List.mem_append_right _ (show w ∈ tables_1 from List.mem_append_right _ (List.mem_append_right _ (List.mem_append_left _ h)))
theorem tm_4 {w : Cond} (h : w ∈ tables_1_4) : w ∈ lw_tbl := List.mem_append_right _ (show w ∈ tables_1 from List.mem_append_right _ (List.mem_append_right _ (List.mem_append_right _ (List.mem_append_left _ h))))
theorem tm_5 {w : Cond} (h : w ∈ tables_1_5) : w ∈ lw_tbl := List.mem_append_right _ (show w ∈ tables_1 from List.mem_append_right _ (List.mem_append_right _ (List.mem_append_right _ (List.mem_append_right _ (List.mem_append_left _ h)))))
theorem tm_6 {w : Cond} (h : w ∈ tables_1_6) : w ∈ lw_tbl := List.mem_append_right _ (show w ∈ tables_1 from List.mem_append_right _ (List.mem_append_right _ (List.mem_append_right _ (List.mem_append_right _ (List.mem_append_right _ (List.mem_append_left _ h))))))
theorem tm_7 {w : Cond} (h : w ∈ tables_1_7) : w ∈ lw_tbl := List.mem_append_right _ (show w ∈ tables_1 from List.mem_append_right _ (List.mem_append_right _ (List.mem_append_right _ (List.mem_append_right _ (List.mem_append_right _ (List.mem_append_right _ (List.mem_append_left _ h)))))))
theorem tm_8 {w : Cond} (h : w ∈ tables_1_8) : w ∈ lw_tbl := List.mem_append_right _ (show w ∈ tables_1 from List.mem_append_right _ (List.mem_append_right _ (List.mem_append_right _ (List.mem_append_right _ (List.mem_append_right _ (List.mem_append_right _ (List.mem_append_right _ (h))))))))
theorem inG0 : ∀ w ∈ u_ws RX0 TX0 14, w ∈ lw_good := fun w hw => lg_mem (inX0 w hw) (by obtain ⟨k, -, rfl⟩ := List.mem_map.mp hw; exact u_lay_good _ _ _)
theorem df_0 (E : EV) : ∀ j, j < 14 → defaultValue (tyX 0 j) = eV E (tagT (tyX 0 j), 0) := by
  have h : ∀ j, j < 14 → dfO (tyX 0 j) = true := by decide
  exact fun j hj => dfV E (dfO_ok (h j hj))
theorem in_0 : Cond.instantiable "SignSquares$Arranger" 14 ∈ lw_tbl := tm_1 (List.mem_of_getElem? (i := 213) rfl)
theorem ii_0 : Cond.initialized "SignSquares$Arranger" ∈ lw_tbl := tm_1 (List.mem_of_getElem? (i := 8) rfl)
theorem inG1 : ∀ w ∈ u_ws RX1 TX1 2, w ∈ lw_good := fun w hw => lg_mem (inX1 w hw) (by obtain ⟨k, -, rfl⟩ := List.mem_map.mp hw; exact u_lay_good _ _ _)
theorem df_1 (E : EV) : ∀ j, j < 2 → defaultValue (tyX 1 j) = eV E (tagT (tyX 1 j), 0) := by
  have h : ∀ j, j < 2 → dfO (tyX 1 j) = true := by decide
  exact fun j hj => dfV E (dfO_ok (h j hj))
theorem in_1 : Cond.instantiable "SignSquares$Draft" 2 ∈ lw_tbl := tm_1 (List.mem_of_getElem? (i := 76) rfl)
theorem ii_1 : Cond.initialized "SignSquares$Draft" ∈ lw_tbl := tm_1 (List.mem_of_getElem? (i := 4) rfl)
theorem inG2 : ∀ w ∈ u_ws RX2 TX2 8, w ∈ lw_good := fun w hw => lg_mem (inX2 w hw) (by obtain ⟨k, -, rfl⟩ := List.mem_map.mp hw; exact u_lay_good _ _ _)
theorem df_2 (E : EV) : ∀ j, j < 8 → defaultValue (tyX 2 j) = eV E (tagT (tyX 2 j), 0) := by
  have h : ∀ j, j < 8 → dfO (tyX 2 j) = true := by decide
  exact fun j hj => dfV E (dfO_ok (h j hj))
theorem in_2 : Cond.instantiable "SignSquares$Layout" 8 ∈ lw_tbl := tm_1 (List.mem_of_getElem? (i := 143) rfl)
theorem ii_2 : Cond.initialized "SignSquares$Layout" ∈ lw_tbl := tm_1 (List.mem_of_getElem? (i := 6) rfl)
theorem inG3 : ∀ w ∈ u_ws RX3 TX3 2, w ∈ lw_good := fun w hw => lg_mem (inX3 w hw) (by obtain ⟨k, -, rfl⟩ := List.mem_map.mp hw; exact u_lay_good _ _ _)
theorem df_3 (E : EV) : ∀ j, j < 2 → defaultValue (tyX 3 j) = eV E (tagT (tyX 3 j), 0) := by
  have h : ∀ j, j < 2 → dfO (tyX 3 j) = true := by decide
  exact fun j hj => dfV E (dfO_ok (h j hj))
theorem in_3 : Cond.instantiable "SignSquares$Line" 2 ∈ lw_tbl := tm_3 (List.mem_of_getElem? (i := 50) rfl)
theorem ii_3 : Cond.initialized "SignSquares$Line" ∈ lw_tbl := tm_1 (List.mem_of_getElem? (i := 18) rfl)
theorem inG4 : ∀ w ∈ u_ws RX4 TX4 3, w ∈ lw_good := fun w hw => lg_mem (inX4 w hw) (by obtain ⟨k, -, rfl⟩ := List.mem_map.mp hw; exact u_lay_good _ _ _)
theorem df_4 (E : EV) : ∀ j, j < 3 → defaultValue (tyX 4 j) = eV E (tagT (tyX 4 j), 0) := by
  have h : ∀ j, j < 3 → dfO (tyX 4 j) = true := by decide
  exact fun j hj => dfV E (dfO_ok (h j hj))
theorem in_4 : Cond.instantiable "SignSquares$Moment" 3 ∈ lw_tbl := tm_1 (List.mem_of_getElem? (i := 49) rfl)
theorem ii_4 : Cond.initialized "SignSquares$Moment" ∈ lw_tbl := tm_1 (List.mem_of_getElem? (i := 3) rfl)
theorem inG5 : ∀ w ∈ u_ws RX5 TX5 12, w ∈ lw_good := fun w hw => lg_mem (inX5 w hw) (by obtain ⟨k, -, rfl⟩ := List.mem_map.mp hw; exact u_lay_good _ _ _)
theorem df_5 (E : EV) : ∀ j, j < 12 → defaultValue (tyX 5 j) = eV E (tagT (tyX 5 j), 0) := by
  have h : ∀ j, j < 12 → dfO (tyX 5 j) = true := by decide
  exact fun j hj => dfV E (dfO_ok (h j hj))
theorem in_5 : Cond.instantiable "SignSquares$Reader" 12 ∈ lw_tbl := tm_1 (List.mem_of_getElem? (i := 90) rfl)
theorem ii_5 : Cond.initialized "SignSquares$Reader" ∈ lw_tbl := tm_1 (List.mem_of_getElem? (i := 5) rfl)
theorem inG6 : ∀ w ∈ u_ws RX6 TX6 9, w ∈ lw_good := fun w hw => lg_mem (inX6 w hw) (by obtain ⟨k, -, rfl⟩ := List.mem_map.mp hw; exact u_lay_good _ _ _)
theorem df_6 (E : EV) : ∀ j, j < 9 → defaultValue (tyX 6 j) = eV E (tagT (tyX 6 j), 0) := by
  have h : ∀ j, j < 9 → dfO (tyX 6 j) = true := by decide
  exact fun j hj => dfV E (dfO_ok (h j hj))
theorem in_6 : Cond.instantiable "SignSquares$Speller" 9 ∈ lw_tbl := tm_1 (List.mem_of_getElem? (i := 176) rfl)
theorem ii_6 : Cond.initialized "SignSquares$Speller" ∈ lw_tbl := tm_1 (List.mem_of_getElem? (i := 7) rfl)
theorem inG7 : ∀ w ∈ u_ws RX7 TX7 1, w ∈ lw_good := fun w hw => lg_mem (inX7 w hw) (by obtain ⟨k, -, rfl⟩ := List.mem_map.mp hw; exact u_lay_good _ _ _)
theorem df_7 (E : EV) : ∀ j, j < 1 → defaultValue (tyX 7 j) = eV E (tagT (tyX 7 j), 0) := by
  have h : ∀ j, j < 1 → dfO (tyX 7 j) = true := by decide
  exact fun j hj => dfV E (dfO_ok (h j hj))
theorem in_7 : Cond.instantiable "SignSquares$Square" 1 ∈ lw_tbl := tm_3 (List.mem_of_getElem? (i := 22) rfl)
theorem ii_7 : Cond.initialized "SignSquares$Square" ∈ lw_tbl := tm_1 (List.mem_of_getElem? (i := 15) rfl)
theorem inG8 : ∀ w ∈ u_ws RX8 TX8 4, w ∈ lw_good := fun w hw => lg_mem (inX8 w hw) (by obtain ⟨k, -, rfl⟩ := List.mem_map.mp hw; exact u_lay_good _ _ _)
theorem df_8 (E : EV) : ∀ j, j < 4 → defaultValue (tyX 8 j) = eV E (tagT (tyX 8 j), 0) := by
  have h : ∀ j, j < 4 → dfO (tyX 8 j) = true := by decide
  exact fun j hj => dfV E (dfO_ok (h j hj))
theorem in_8 : Cond.instantiable "SignSquares$Table" 4 ∈ lw_tbl := tm_1 (List.mem_of_getElem? (i := 29) rfl)
theorem ii_8 : Cond.initialized "SignSquares$Table" ∈ lw_tbl := tm_1 (List.mem_of_getElem? (i := 2) rfl)
theorem inG9 : ∀ w ∈ u_ws RX9 TX9 9, w ∈ lw_good := fun w hw => lg_mem (inX9 w hw) (by obtain ⟨k, -, rfl⟩ := List.mem_map.mp hw; exact u_lay_good _ _ _)
theorem df_9 (E : EV) : ∀ j, j < 9 → defaultValue (tyX 9 j) = eV E (tagT (tyX 9 j), 0) := by
  have h : ∀ j, j < 9 → dfO (tyX 9 j) = true := by decide
  exact fun j hj => dfV E (dfO_ok (h j hj))
theorem in_9 : Cond.instantiable "SignSquares" 9 ∈ lw_tbl := tm_1 (List.mem_of_getElem? (i := 21) rfl)
theorem ii_9 : Cond.initialized "SignSquares" ∈ lw_tbl := tm_1 (List.mem_of_getElem? (i := 1) rfl)
theorem inG10 : ∀ w ∈ u_ws RX10 TX10 74, w ∈ lw_good := fun w hw => lg_mem (inX10 w hw) (by obtain ⟨k, -, rfl⟩ := List.mem_map.mp hw; exact u_lay_good _ _ _)
theorem df_10 (E : EV) : ∀ j, j < 74 → defaultValue (tyX 10 j) = eV E (tagT (tyX 10 j), 0) := by
  have h : ∀ j, j < 74 → dfO (tyX 10 j) = true := by decide
  exact fun j hj => dfV E (dfO_ok (h j hj))
theorem in_10 : Cond.instantiable "SignSquaresModel" 74 ∈ lw_tbl := tm_5 (List.mem_of_getElem? (i := 226) rfl)
theorem ii_10 : Cond.initialized "SignSquaresModel" ∈ lw_tbl := tm_1 (List.mem_of_getElem? (i := 9) rfl)
theorem ac_20 : Cond.arrayClass FieldType.int ∈ lw_tbl := tm_1 (List.mem_of_getElem? (i := 173) rfl)
theorem ac_21 : Cond.arrayClass FieldType.byte ∈ lw_tbl := tm_1 (List.mem_of_getElem? (i := 47) rfl)
theorem ac_22 : Cond.arrayClass FieldType.long ∈ lw_tbl := tm_1 (List.mem_of_getElem? (i := 174) rfl)
theorem ac_23 : Cond.arrayClass FieldType.boolean ∈ lw_tbl := tm_6 (List.mem_of_getElem? (i := 213) rfl)
theorem fl_S_10 : FL "SignSquares" 10 9 9 0 := ⟨by decide, by decide, RX9, TX9, rfl, inG9, tyX9_ok, nmX9, Or.inl (tm_2 (List.mem_of_getElem? (i := 22) rfl))⟩
theorem fl_S_23 : FL "SignSquares" 23 9 9 1 := ⟨by decide, by decide, RX9, TX9, rfl, inG9, tyX9_ok, nmX9, Or.inl (tm_2 (List.mem_of_getElem? (i := 23) rfl))⟩
theorem fl_S_27 : FL "SignSquares" 27 9 9 2 := ⟨by decide, by decide, RX9, TX9, rfl, inG9, tyX9_ok, nmX9, Or.inl (tm_2 (List.mem_of_getElem? (i := 24) rfl))⟩
theorem fk_S_27 : Cond.fieldLink "SignSquares" 27 "SignSquares" "past" "[LSignSquares$Moment;" ∈ lw_tbl := tm_2 (List.mem_of_getElem? (i := 24) rfl)
theorem fl_S_31 : FL "SignSquares" 31 9 9 3 := ⟨by decide, by decide, RX9, TX9, rfl, inG9, tyX9_ok, nmX9, Or.inl (tm_2 (List.mem_of_getElem? (i := 25) rfl))⟩
theorem fl_S_38 : FL "SignSquares" 38 9 9 4 := ⟨by decide, by decide, RX9, TX9, rfl, inG9, tyX9_ok, nmX9, Or.inl (tm_2 (List.mem_of_getElem? (i := 26) rfl))⟩
theorem fk_S_38 : Cond.fieldLink "SignSquares" 38 "SignSquares" "draft" "LSignSquares$Draft;" ∈ lw_tbl := tm_2 (List.mem_of_getElem? (i := 26) rfl)
theorem fl_S_45 : FL "SignSquares" 45 9 9 5 := ⟨by decide, by decide, RX9, TX9, rfl, inG9, tyX9_ok, nmX9, Or.inl (tm_2 (List.mem_of_getElem? (i := 27) rfl))⟩
theorem fk_S_45 : Cond.fieldLink "SignSquares" 45 "SignSquares" "reader" "LSignSquares$Reader;" ∈ lw_tbl := tm_2 (List.mem_of_getElem? (i := 27) rfl)
theorem fl_S_52 : FL "SignSquares" 52 9 9 6 := ⟨by decide, by decide, RX9, TX9, rfl, inG9, tyX9_ok, nmX9, Or.inl (tm_2 (List.mem_of_getElem? (i := 28) rfl))⟩
theorem fk_S_52 : Cond.fieldLink "SignSquares" 52 "SignSquares" "layout" "LSignSquares$Layout;" ∈ lw_tbl := tm_2 (List.mem_of_getElem? (i := 28) rfl)
theorem fl_S_59 : FL "SignSquares" 59 9 9 7 := ⟨by decide, by decide, RX9, TX9, rfl, inG9, tyX9_ok, nmX9, Or.inl (tm_2 (List.mem_of_getElem? (i := 29) rfl))⟩
theorem fk_S_59 : Cond.fieldLink "SignSquares" 59 "SignSquares" "speller" "LSignSquares$Speller;" ∈ lw_tbl := tm_2 (List.mem_of_getElem? (i := 29) rfl)
theorem fl_S_66 : FL "SignSquares" 66 9 9 8 := ⟨by decide, by decide, RX9, TX9, rfl, inG9, tyX9_ok, nmX9, Or.inl (tm_2 (List.mem_of_getElem? (i := 30) rfl))⟩
theorem fk_S_66 : Cond.fieldLink "SignSquares" 66 "SignSquares" "arranger" "LSignSquares$Arranger;" ∈ lw_tbl := tm_2 (List.mem_of_getElem? (i := 30) rfl)
theorem fl_S_70 : FL "SignSquares" 70 5 12 1 := ⟨by decide, by decide, RX5, TX5, rfl, inG5, tyX5_ok, nmX5, Or.inr ⟨"SignSquares", tm_1 (List.mem_of_getElem? (i := 104) rfl)⟩⟩
theorem fl_S_84 : FL "SignSquares" 84 5 12 6 := ⟨by decide, by decide, RX5, TX5, rfl, inG5, tyX5_ok, nmX5, Or.inr ⟨"SignSquares", tm_1 (List.mem_of_getElem? (i := 110) rfl)⟩⟩
theorem fl_S_87 : FL "SignSquares" 87 5 12 7 := ⟨by decide, by decide, RX5, TX5, rfl, inG5, tyX5_ok, nmX5, Or.inr ⟨"SignSquares", tm_1 (List.mem_of_getElem? (i := 112) rfl)⟩⟩
theorem fl_S_95 : FL "SignSquares" 95 4 3 0 := ⟨by decide, by decide, RX4, TX4, rfl, inG4, tyX4_ok, nmX4, Or.inr ⟨"SignSquares", tm_1 (List.mem_of_getElem? (i := 57) rfl)⟩⟩
theorem fl_S_209 : FL "SignSquares" 209 6 9 8 := ⟨by decide, by decide, RX6, TX6, rfl, inG6, tyX6_ok, nmX6, Or.inr ⟨"SignSquares", tm_1 (List.mem_of_getElem? (i := 192) rfl)⟩⟩
theorem fl_S_217 : FL "SignSquares" 217 3 2 0 := ⟨by decide, by decide, RX3, TX3, rfl, inG3, tyX3_ok, nmX3, Or.inr ⟨"SignSquares", tm_3 (List.mem_of_getElem? (i := 56) rfl)⟩⟩
theorem fl_S_221 : FL "SignSquares" 221 3 2 1 := ⟨by decide, by decide, RX3, TX3, rfl, inG3, tyX3_ok, nmX3, Or.inr ⟨"SignSquares", tm_3 (List.mem_of_getElem? (i := 59) rfl)⟩⟩
theorem fl_S_236 : FL "SignSquares" 236 4 3 1 := ⟨by decide, by decide, RX4, TX4, rfl, inG4, tyX4_ok, nmX4, Or.inr ⟨"SignSquares", tm_1 (List.mem_of_getElem? (i := 62) rfl)⟩⟩
theorem fl_S_239 : FL "SignSquares" 239 4 3 2 := ⟨by decide, by decide, RX4, TX4, rfl, inG4, tyX4_ok, nmX4, Or.inr ⟨"SignSquares", tm_1 (List.mem_of_getElem? (i := 66) rfl)⟩⟩
theorem fl_S_275 : FL "SignSquares" 275 6 9 4 := ⟨by decide, by decide, RX6, TX6, rfl, inG6, tyX6_ok, nmX6, Or.inr ⟨"SignSquares", tm_1 (List.mem_of_getElem? (i := 186) rfl)⟩⟩
theorem fl_S_278 : FL "SignSquares" 278 6 9 6 := ⟨by decide, by decide, RX6, TX6, rfl, inG6, tyX6_ok, nmX6, Or.inr ⟨"SignSquares", tm_1 (List.mem_of_getElem? (i := 189) rfl)⟩⟩
theorem fl_S_372 : FL "SignSquares" 372 0 14 13 := ⟨by decide, by decide, RX0, TX0, rfl, inG0, tyX0_ok, nmX0, Or.inr ⟨"SignSquares", tm_1 (List.mem_of_getElem? (i := 232) rfl)⟩⟩
theorem fl_Arranger_11 : FL "SignSquares$Arranger" 11 0 14 0 := ⟨by decide, by decide, RX0, TX0, rfl, inG0, tyX0_ok, nmX0, Or.inl (tm_1 (List.mem_of_getElem? (i := 218) rfl))⟩
theorem fk_Arranger_11 : Cond.fieldLink "SignSquares$Arranger" 11 "SignSquares$Arranger" "kind" "[I" ∈ lw_tbl := tm_1 (List.mem_of_getElem? (i := 218) rfl)
theorem fl_Arranger_15 : FL "SignSquares$Arranger" 15 0 14 1 := ⟨by decide, by decide, RX0, TX0, rfl, inG0, tyX0_ok, nmX0, Or.inl (tm_1 (List.mem_of_getElem? (i := 219) rfl))⟩
theorem fk_Arranger_15 : Cond.fieldLink "SignSquares$Arranger" 15 "SignSquares$Arranger" "first" "[I" ∈ lw_tbl := tm_1 (List.mem_of_getElem? (i := 219) rfl)
theorem fl_Arranger_18 : FL "SignSquares$Arranger" 18 0 14 2 := ⟨by decide, by decide, RX0, TX0, rfl, inG0, tyX0_ok, nmX0, Or.inl (tm_1 (List.mem_of_getElem? (i := 220) rfl))⟩
theorem fk_Arranger_18 : Cond.fieldLink "SignSquares$Arranger" 18 "SignSquares$Arranger" "second" "[I" ∈ lw_tbl := tm_1 (List.mem_of_getElem? (i := 220) rfl)
theorem fl_Arranger_21 : FL "SignSquares$Arranger" 21 0 14 3 := ⟨by decide, by decide, RX0, TX0, rfl, inG0, tyX0_ok, nmX0, Or.inl (tm_1 (List.mem_of_getElem? (i := 221) rfl))⟩
theorem fk_Arranger_21 : Cond.fieldLink "SignSquares$Arranger" 21 "SignSquares$Arranger" "wide" "[I" ∈ lw_tbl := tm_1 (List.mem_of_getElem? (i := 221) rfl)
theorem fl_Arranger_24 : FL "SignSquares$Arranger" 24 0 14 4 := ⟨by decide, by decide, RX0, TX0, rfl, inG0, tyX0_ok, nmX0, Or.inl (tm_1 (List.mem_of_getElem? (i := 222) rfl))⟩
theorem fk_Arranger_24 : Cond.fieldLink "SignSquares$Arranger" 24 "SignSquares$Arranger" "high" "[I" ∈ lw_tbl := tm_1 (List.mem_of_getElem? (i := 222) rfl)
theorem fl_Arranger_27 : FL "SignSquares$Arranger" 27 0 14 5 := ⟨by decide, by decide, RX0, TX0, rfl, inG0, tyX0_ok, nmX0, Or.inl (tm_1 (List.mem_of_getElem? (i := 223) rfl))⟩
theorem fk_Arranger_27 : Cond.fieldLink "SignSquares$Arranger" 27 "SignSquares$Arranger" "digits" "[I" ∈ lw_tbl := tm_1 (List.mem_of_getElem? (i := 223) rfl)
theorem fl_Arranger_30 : FL "SignSquares$Arranger" 30 0 14 6 := ⟨by decide, by decide, RX0, TX0, rfl, inG0, tyX0_ok, nmX0, Or.inl (tm_1 (List.mem_of_getElem? (i := 224) rfl))⟩
theorem fk_Arranger_30 : Cond.fieldLink "SignSquares$Arranger" 30 "SignSquares$Arranger" "text" "[J" ∈ lw_tbl := tm_1 (List.mem_of_getElem? (i := 224) rfl)
theorem fl_Arranger_34 : FL "SignSquares$Arranger" 34 0 14 7 := ⟨by decide, by decide, RX0, TX0, rfl, inG0, tyX0_ok, nmX0, Or.inl (tm_1 (List.mem_of_getElem? (i := 225) rfl))⟩
theorem fl_Arranger_38 : FL "SignSquares$Arranger" 38 0 14 8 := ⟨by decide, by decide, RX0, TX0, rfl, inG0, tyX0_ok, nmX0, Or.inl (tm_1 (List.mem_of_getElem? (i := 226) rfl))⟩
theorem fk_Arranger_38 : Cond.fieldLink "SignSquares$Arranger" 38 "SignSquares$Arranger" "spanFrom" "[I" ∈ lw_tbl := tm_1 (List.mem_of_getElem? (i := 226) rfl)
theorem fl_Arranger_41 : FL "SignSquares$Arranger" 41 0 14 9 := ⟨by decide, by decide, RX0, TX0, rfl, inG0, tyX0_ok, nmX0, Or.inl (tm_1 (List.mem_of_getElem? (i := 227) rfl))⟩
theorem fk_Arranger_41 : Cond.fieldLink "SignSquares$Arranger" 41 "SignSquares$Arranger" "spanTo" "[I" ∈ lw_tbl := tm_1 (List.mem_of_getElem? (i := 227) rfl)
theorem fl_Arranger_44 : FL "SignSquares$Arranger" 44 0 14 10 := ⟨by decide, by decide, RX0, TX0, rfl, inG0, tyX0_ok, nmX0, Or.inl (tm_1 (List.mem_of_getElem? (i := 228) rfl))⟩
theorem fl_Arranger_48 : FL "SignSquares$Arranger" 48 0 14 11 := ⟨by decide, by decide, RX0, TX0, rfl, inG0, tyX0_ok, nmX0, Or.inl (tm_1 (List.mem_of_getElem? (i := 229) rfl))⟩
theorem fl_Arranger_51 : FL "SignSquares$Arranger" 51 0 14 12 := ⟨by decide, by decide, RX0, TX0, rfl, inG0, tyX0_ok, nmX0, Or.inl (tm_1 (List.mem_of_getElem? (i := 230) rfl))⟩
theorem fl_Arranger_54 : FL "SignSquares$Arranger" 54 0 14 13 := ⟨by decide, by decide, RX0, TX0, rfl, inG0, tyX0_ok, nmX0, Or.inl (tm_1 (List.mem_of_getElem? (i := 231) rfl))⟩
theorem fl_Arranger_60 : FL "SignSquares$Arranger" 60 4 3 1 := ⟨by decide, by decide, RX4, TX4, rfl, inG4, tyX4_ok, nmX4, Or.inr ⟨"SignSquares", tm_1 (List.mem_of_getElem? (i := 60) rfl)⟩⟩
theorem fl_Arranger_65 : FL "SignSquares$Arranger" 65 4 3 2 := ⟨by decide, by decide, RX4, TX4, rfl, inG4, tyX4_ok, nmX4, Or.inr ⟨"SignSquares", tm_1 (List.mem_of_getElem? (i := 64) rfl)⟩⟩
theorem fl_Draft_9 : FL "SignSquares$Draft" 9 1 2 0 := ⟨by decide, by decide, RX1, TX1, rfl, inG1, tyX1_ok, nmX1, Or.inl (tm_1 (List.mem_of_getElem? (i := 81) rfl))⟩
theorem fk_Draft_9 : Cond.fieldLink "SignSquares$Draft" 9 "SignSquares$Draft" "code" "[B" ∈ lw_tbl := tm_1 (List.mem_of_getElem? (i := 81) rfl)
theorem fl_Draft_15 : FL "SignSquares$Draft" 15 1 2 1 := ⟨by decide, by decide, RX1, TX1, rfl, inG1, tyX1_ok, nmX1, Or.inl (tm_1 (List.mem_of_getElem? (i := 82) rfl))⟩
theorem fl_Layout_9 : FL "SignSquares$Layout" 9 2 8 0 := ⟨by decide, by decide, RX2, TX2, rfl, inG2, tyX2_ok, nmX2, Or.inl (tm_1 (List.mem_of_getElem? (i := 148) rfl))⟩
theorem fk_Layout_9 : Cond.fieldLink "SignSquares$Layout" 9 "SignSquares$Layout" "end" "[I" ∈ lw_tbl := tm_1 (List.mem_of_getElem? (i := 148) rfl)
theorem fl_Layout_15 : FL "SignSquares$Layout" 15 2 8 1 := ⟨by decide, by decide, RX2, TX2, rfl, inG2, tyX2_ok, nmX2, Or.inl (tm_1 (List.mem_of_getElem? (i := 149) rfl))⟩
theorem fk_Layout_15 : Cond.fieldLink "SignSquares$Layout" 15 "SignSquares$Layout" "wide" "[I" ∈ lw_tbl := tm_1 (List.mem_of_getElem? (i := 149) rfl)
theorem fl_Layout_18 : FL "SignSquares$Layout" 18 2 8 2 := ⟨by decide, by decide, RX2, TX2, rfl, inG2, tyX2_ok, nmX2, Or.inl (tm_1 (List.mem_of_getElem? (i := 150) rfl))⟩
theorem fk_Layout_18 : Cond.fieldLink "SignSquares$Layout" 18 "SignSquares$Layout" "high" "[I" ∈ lw_tbl := tm_1 (List.mem_of_getElem? (i := 150) rfl)
theorem fl_Layout_21 : FL "SignSquares$Layout" 21 2 8 3 := ⟨by decide, by decide, RX2, TX2, rfl, inG2, tyX2_ok, nmX2, Or.inl (tm_1 (List.mem_of_getElem? (i := 151) rfl))⟩
theorem fk_Layout_21 : Cond.fieldLink "SignSquares$Layout" 21 "SignSquares$Layout" "scale" "[J" ∈ lw_tbl := tm_1 (List.mem_of_getElem? (i := 151) rfl)
theorem fl_Layout_25 : FL "SignSquares$Layout" 25 2 8 4 := ⟨by decide, by decide, RX2, TX2, rfl, inG2, tyX2_ok, nmX2, Or.inl (tm_1 (List.mem_of_getElem? (i := 152) rfl))⟩
theorem fk_Layout_25 : Cond.fieldLink "SignSquares$Layout" 25 "SignSquares$Layout" "divisor" "[J" ∈ lw_tbl := tm_1 (List.mem_of_getElem? (i := 152) rfl)
theorem fl_Layout_28 : FL "SignSquares$Layout" 28 2 8 5 := ⟨by decide, by decide, RX2, TX2, rfl, inG2, tyX2_ok, nmX2, Or.inl (tm_1 (List.mem_of_getElem? (i := 153) rfl))⟩
theorem fk_Layout_28 : Cond.fieldLink "SignSquares$Layout" 28 "SignSquares$Layout" "middleX" "[J" ∈ lw_tbl := tm_1 (List.mem_of_getElem? (i := 153) rfl)
theorem fl_Layout_31 : FL "SignSquares$Layout" 31 2 8 6 := ⟨by decide, by decide, RX2, TX2, rfl, inG2, tyX2_ok, nmX2, Or.inl (tm_1 (List.mem_of_getElem? (i := 154) rfl))⟩
theorem fk_Layout_31 : Cond.fieldLink "SignSquares$Layout" 31 "SignSquares$Layout" "middleY" "[J" ∈ lw_tbl := tm_1 (List.mem_of_getElem? (i := 154) rfl)
theorem fl_Layout_34 : FL "SignSquares$Layout" 34 2 8 7 := ⟨by decide, by decide, RX2, TX2, rfl, inG2, tyX2_ok, nmX2, Or.inl (tm_1 (List.mem_of_getElem? (i := 155) rfl))⟩
theorem fl_Line_7 : FL "SignSquares$Line" 7 3 2 0 := ⟨by decide, by decide, RX3, TX3, rfl, inG3, tyX3_ok, nmX3, Or.inl (tm_3 (List.mem_of_getElem? (i := 55) rfl))⟩
theorem fk_Line_7 : Cond.fieldLink "SignSquares$Line" 7 "SignSquares$Line" "squares" "[LSignSquares$Square;" ∈ lw_tbl := tm_3 (List.mem_of_getElem? (i := 55) rfl)
theorem fl_Line_13 : FL "SignSquares$Line" 13 3 2 1 := ⟨by decide, by decide, RX3, TX3, rfl, inG3, tyX3_ok, nmX3, Or.inl (tm_3 (List.mem_of_getElem? (i := 57) rfl))⟩
theorem fk_Line_13 : Cond.fieldLink "SignSquares$Line" 13 "SignSquares$Line" "left" "Z" ∈ lw_tbl := tm_3 (List.mem_of_getElem? (i := 57) rfl)
theorem fl_Moment_7 : FL "SignSquares$Moment" 7 4 3 0 := ⟨by decide, by decide, RX4, TX4, rfl, inG4, tyX4_ok, nmX4, Or.inl (tm_1 (List.mem_of_getElem? (i := 56) rfl))⟩
theorem fk_Moment_7 : Cond.fieldLink "SignSquares$Moment" 7 "SignSquares$Moment" "lines" "[LSignSquares$Line;" ∈ lw_tbl := tm_1 (List.mem_of_getElem? (i := 56) rfl)
theorem fl_Moment_13 : FL "SignSquares$Moment" 13 4 3 1 := ⟨by decide, by decide, RX4, TX4, rfl, inG4, tyX4_ok, nmX4, Or.inl (tm_1 (List.mem_of_getElem? (i := 59) rfl))⟩
theorem fk_Moment_13 : Cond.fieldLink "SignSquares$Moment" 13 "SignSquares$Moment" "side" "I" ∈ lw_tbl := tm_1 (List.mem_of_getElem? (i := 59) rfl)
theorem fl_Moment_17 : FL "SignSquares$Moment" 17 4 3 2 := ⟨by decide, by decide, RX4, TX4, rfl, inG4, tyX4_ok, nmX4, Or.inl (tm_1 (List.mem_of_getElem? (i := 63) rfl))⟩
theorem fk_Moment_17 : Cond.fieldLink "SignSquares$Moment" 17 "SignSquares$Moment" "gap" "I" ∈ lw_tbl := tm_1 (List.mem_of_getElem? (i := 63) rfl)
theorem fl_Reader_9 : FL "SignSquares$Reader" 9 5 12 0 := ⟨by decide, by decide, RX5, TX5, rfl, inG5, tyX5_ok, nmX5, Or.inl (tm_1 (List.mem_of_getElem? (i := 102) rfl))⟩
theorem fk_Reader_9 : Cond.fieldLink "SignSquares$Reader" 9 "SignSquares$Reader" "tape" "[B" ∈ lw_tbl := tm_1 (List.mem_of_getElem? (i := 102) rfl)
theorem fl_Reader_15 : FL "SignSquares$Reader" 15 5 12 1 := ⟨by decide, by decide, RX5, TX5, rfl, inG5, tyX5_ok, nmX5, Or.inl (tm_1 (List.mem_of_getElem? (i := 103) rfl))⟩
theorem fl_Reader_22 : FL "SignSquares$Reader" 22 5 12 2 := ⟨by decide, by decide, RX5, TX5, rfl, inG5, tyX5_ok, nmX5, Or.inl (tm_1 (List.mem_of_getElem? (i := 105) rfl))⟩
theorem fk_Reader_22 : Cond.fieldLink "SignSquares$Reader" 22 "SignSquares$Reader" "draft" "LSignSquares$Draft;" ∈ lw_tbl := tm_1 (List.mem_of_getElem? (i := 105) rfl)
theorem fl_Reader_28 : FL "SignSquares$Reader" 28 5 12 3 := ⟨by decide, by decide, RX5, TX5, rfl, inG5, tyX5_ok, nmX5, Or.inl (tm_1 (List.mem_of_getElem? (i := 106) rfl))⟩
theorem fk_Reader_28 : Cond.fieldLink "SignSquares$Reader" 28 "SignSquares$Reader" "squaresRead" "[LSignSquares$Square;" ∈ lw_tbl := tm_1 (List.mem_of_getElem? (i := 106) rfl)
theorem fl_Reader_34 : FL "SignSquares$Reader" 34 5 12 4 := ⟨by decide, by decide, RX5, TX5, rfl, inG5, tyX5_ok, nmX5, Or.inl (tm_1 (List.mem_of_getElem? (i := 107) rfl))⟩
theorem fk_Reader_34 : Cond.fieldLink "SignSquares$Reader" 34 "SignSquares$Reader" "linesRead" "[LSignSquares$Line;" ∈ lw_tbl := tm_1 (List.mem_of_getElem? (i := 107) rfl)
theorem fl_Reader_38 : FL "SignSquares$Reader" 38 5 12 5 := ⟨by decide, by decide, RX5, TX5, rfl, inG5, tyX5_ok, nmX5, Or.inl (tm_1 (List.mem_of_getElem? (i := 108) rfl))⟩
theorem fl_Reader_41 : FL "SignSquares$Reader" 41 5 12 6 := ⟨by decide, by decide, RX5, TX5, rfl, inG5, tyX5_ok, nmX5, Or.inl (tm_1 (List.mem_of_getElem? (i := 109) rfl))⟩
theorem fl_Reader_47 : FL "SignSquares$Reader" 47 5 12 7 := ⟨by decide, by decide, RX5, TX5, rfl, inG5, tyX5_ok, nmX5, Or.inl (tm_1 (List.mem_of_getElem? (i := 111) rfl))⟩
theorem fl_Reader_51 : FL "SignSquares$Reader" 51 5 12 8 := ⟨by decide, by decide, RX5, TX5, rfl, inG5, tyX5_ok, nmX5, Or.inl (tm_1 (List.mem_of_getElem? (i := 113) rfl))⟩
theorem fl_Reader_54 : FL "SignSquares$Reader" 54 5 12 9 := ⟨by decide, by decide, RX5, TX5, rfl, inG5, tyX5_ok, nmX5, Or.inl (tm_1 (List.mem_of_getElem? (i := 114) rfl))⟩
theorem fl_Reader_57 : FL "SignSquares$Reader" 57 5 12 10 := ⟨by decide, by decide, RX5, TX5, rfl, inG5, tyX5_ok, nmX5, Or.inl (tm_1 (List.mem_of_getElem? (i := 115) rfl))⟩
theorem fl_Reader_60 : FL "SignSquares$Reader" 60 5 12 11 := ⟨by decide, by decide, RX5, TX5, rfl, inG5, tyX5_ok, nmX5, Or.inl (tm_1 (List.mem_of_getElem? (i := 116) rfl))⟩
theorem fl_Reader_150 : FL "SignSquares$Reader" 150 1 2 1 := ⟨by decide, by decide, RX1, TX1, rfl, inG1, tyX1_ok, nmX1, Or.inr ⟨"SignSquares", tm_1 (List.mem_of_getElem? (i := 83) rfl)⟩⟩
theorem fl_Speller_9 : FL "SignSquares$Speller" 9 6 9 0 := ⟨by decide, by decide, RX6, TX6, rfl, inG6, tyX6_ok, nmX6, Or.inl (tm_1 (List.mem_of_getElem? (i := 181) rfl))⟩
theorem fl_Speller_15 : FL "SignSquares$Speller" 15 6 9 1 := ⟨by decide, by decide, RX6, TX6, rfl, inG6, tyX6_ok, nmX6, Or.inl (tm_1 (List.mem_of_getElem? (i := 182) rfl))⟩
theorem fl_Speller_18 : FL "SignSquares$Speller" 18 6 9 2 := ⟨by decide, by decide, RX6, TX6, rfl, inG6, tyX6_ok, nmX6, Or.inl (tm_1 (List.mem_of_getElem? (i := 183) rfl))⟩
theorem fl_Speller_21 : FL "SignSquares$Speller" 21 6 9 3 := ⟨by decide, by decide, RX6, TX6, rfl, inG6, tyX6_ok, nmX6, Or.inl (tm_1 (List.mem_of_getElem? (i := 184) rfl))⟩
theorem fl_Speller_25 : FL "SignSquares$Speller" 25 6 9 4 := ⟨by decide, by decide, RX6, TX6, rfl, inG6, tyX6_ok, nmX6, Or.inl (tm_1 (List.mem_of_getElem? (i := 185) rfl))⟩
theorem fl_Speller_28 : FL "SignSquares$Speller" 28 6 9 5 := ⟨by decide, by decide, RX6, TX6, rfl, inG6, tyX6_ok, nmX6, Or.inl (tm_1 (List.mem_of_getElem? (i := 187) rfl))⟩
theorem fl_Speller_31 : FL "SignSquares$Speller" 31 6 9 6 := ⟨by decide, by decide, RX6, TX6, rfl, inG6, tyX6_ok, nmX6, Or.inl (tm_1 (List.mem_of_getElem? (i := 188) rfl))⟩
theorem fl_Speller_34 : FL "SignSquares$Speller" 34 6 9 7 := ⟨by decide, by decide, RX6, TX6, rfl, inG6, tyX6_ok, nmX6, Or.inl (tm_1 (List.mem_of_getElem? (i := 190) rfl))⟩
theorem fl_Speller_37 : FL "SignSquares$Speller" 37 6 9 8 := ⟨by decide, by decide, RX6, TX6, rfl, inG6, tyX6_ok, nmX6, Or.inl (tm_1 (List.mem_of_getElem? (i := 191) rfl))⟩
theorem fl_Speller_46 : FL "SignSquares$Speller" 46 4 3 1 := ⟨by decide, by decide, RX4, TX4, rfl, inG4, tyX4_ok, nmX4, Or.inr ⟨"SignSquares", tm_1 (List.mem_of_getElem? (i := 61) rfl)⟩⟩
theorem fl_Speller_59 : FL "SignSquares$Speller" 59 4 3 2 := ⟨by decide, by decide, RX4, TX4, rfl, inG4, tyX4_ok, nmX4, Or.inr ⟨"SignSquares", tm_1 (List.mem_of_getElem? (i := 65) rfl)⟩⟩
theorem fl_Speller_71 : FL "SignSquares$Speller" 71 4 3 0 := ⟨by decide, by decide, RX4, TX4, rfl, inG4, tyX4_ok, nmX4, Or.inr ⟨"SignSquares", tm_1 (List.mem_of_getElem? (i := 58) rfl)⟩⟩
theorem fl_Speller_108 : FL "SignSquares$Speller" 108 3 2 1 := ⟨by decide, by decide, RX3, TX3, rfl, inG3, tyX3_ok, nmX3, Or.inr ⟨"SignSquares", tm_3 (List.mem_of_getElem? (i := 58) rfl)⟩⟩
theorem fl_Sq_9 : FL "SignSquares$Square" 9 7 1 0 := ⟨by decide, by decide, RX7, TX7, rfl, inG7, tyX7_ok, nmX7, Or.inl (tm_3 (List.mem_of_getElem? (i := 41) rfl))⟩
theorem fk_Sq_9 : Cond.fieldLink "SignSquares$Square" 9 "SignSquares$Square" "code" "[B" ∈ lw_tbl := tm_3 (List.mem_of_getElem? (i := 41) rfl)
theorem fl_Table_9 : FL "SignSquares$Table" 9 8 4 0 := ⟨by decide, by decide, RX8, TX8, rfl, inG8, tyX8_ok, nmX8, Or.inl (tm_1 (List.mem_of_getElem? (i := 34) rfl))⟩
theorem fk_Table_9 : Cond.fieldLink "SignSquares$Table" 9 "SignSquares$Table" "wide" "[B" ∈ lw_tbl := tm_1 (List.mem_of_getElem? (i := 34) rfl)
theorem fl_Table_15 : FL "SignSquares$Table" 15 8 4 1 := ⟨by decide, by decide, RX8, TX8, rfl, inG8, tyX8_ok, nmX8, Or.inl (tm_1 (List.mem_of_getElem? (i := 35) rfl))⟩
theorem fk_Table_15 : Cond.fieldLink "SignSquares$Table" 15 "SignSquares$Table" "high" "[B" ∈ lw_tbl := tm_1 (List.mem_of_getElem? (i := 35) rfl)
theorem fl_Table_18 : FL "SignSquares$Table" 18 8 4 2 := ⟨by decide, by decide, RX8, TX8, rfl, inG8, tyX8_ok, nmX8, Or.inl (tm_1 (List.mem_of_getElem? (i := 36) rfl))⟩
theorem fk_Table_18 : Cond.fieldLink "SignSquares$Table" 18 "SignSquares$Table" "coreWide" "[B" ∈ lw_tbl := tm_1 (List.mem_of_getElem? (i := 36) rfl)
theorem fl_Table_21 : FL "SignSquares$Table" 21 8 4 3 := ⟨by decide, by decide, RX8, TX8, rfl, inG8, tyX8_ok, nmX8, Or.inl (tm_1 (List.mem_of_getElem? (i := 37) rfl))⟩
theorem fk_Table_21 : Cond.fieldLink "SignSquares$Table" 21 "SignSquares$Table" "coreHigh" "[B" ∈ lw_tbl := tm_1 (List.mem_of_getElem? (i := 37) rfl)
theorem fl_M_13 : FL "SignSquaresModel" 13 10 74 1 := ⟨by decide, by decide, RX10, TX10, rfl, inG10, tyX10_ok, nmX10, Or.inl (tm_5 (List.mem_of_getElem? (i := 231) rfl))⟩
theorem fk_M_13 : Cond.fieldLink "SignSquaresModel" 13 "SignSquaresModel" "wide" "[I" ∈ lw_tbl := tm_5 (List.mem_of_getElem? (i := 231) rfl)
theorem fl_M_17 : FL "SignSquaresModel" 17 10 74 2 := ⟨by decide, by decide, RX10, TX10, rfl, inG10, tyX10_ok, nmX10, Or.inl (tm_5 (List.mem_of_getElem? (i := 232) rfl))⟩
theorem fk_M_17 : Cond.fieldLink "SignSquaresModel" 17 "SignSquaresModel" "high" "[I" ∈ lw_tbl := tm_5 (List.mem_of_getElem? (i := 232) rfl)
theorem fl_M_20 : FL "SignSquaresModel" 20 10 74 3 := ⟨by decide, by decide, RX10, TX10, rfl, inG10, tyX10_ok, nmX10, Or.inl (tm_5 (List.mem_of_getElem? (i := 233) rfl))⟩
theorem fk_M_20 : Cond.fieldLink "SignSquaresModel" 20 "SignSquaresModel" "coreWide" "[I" ∈ lw_tbl := tm_5 (List.mem_of_getElem? (i := 233) rfl)
theorem fl_M_23 : FL "SignSquaresModel" 23 10 74 4 := ⟨by decide, by decide, RX10, TX10, rfl, inG10, tyX10_ok, nmX10, Or.inl (tm_5 (List.mem_of_getElem? (i := 234) rfl))⟩
theorem fk_M_23 : Cond.fieldLink "SignSquaresModel" 23 "SignSquaresModel" "coreHigh" "[I" ∈ lw_tbl := tm_5 (List.mem_of_getElem? (i := 234) rfl)
theorem fl_M_26 : FL "SignSquaresModel" 26 10 74 5 := ⟨by decide, by decide, RX10, TX10, rfl, inG10, tyX10_ok, nmX10, Or.inl (tm_5 (List.mem_of_getElem? (i := 235) rfl))⟩
theorem fk_M_26 : Cond.fieldLink "SignSquaresModel" 26 "SignSquaresModel" "now" "[I" ∈ lw_tbl := tm_5 (List.mem_of_getElem? (i := 235) rfl)
theorem fl_M_29 : FL "SignSquaresModel" 29 10 74 6 := ⟨by decide, by decide, RX10, TX10, rfl, inG10, tyX10_ok, nmX10, Or.inl (tm_5 (List.mem_of_getElem? (i := 236) rfl))⟩
theorem fk_M_29 : Cond.fieldLink "SignSquaresModel" 29 "SignSquaresModel" "read" "[I" ∈ lw_tbl := tm_5 (List.mem_of_getElem? (i := 236) rfl)
theorem fl_M_32 : FL "SignSquaresModel" 32 10 74 7 := ⟨by decide, by decide, RX10, TX10, rfl, inG10, tyX10_ok, nmX10, Or.inl (tm_5 (List.mem_of_getElem? (i := 237) rfl))⟩
theorem fk_M_32 : Cond.fieldLink "SignSquaresModel" 32 "SignSquaresModel" "before" "[I" ∈ lw_tbl := tm_5 (List.mem_of_getElem? (i := 237) rfl)
theorem fl_M_35 : FL "SignSquaresModel" 35 10 74 9 := ⟨by decide, by decide, RX10, TX10, rfl, inG10, tyX10_ok, nmX10, Or.inl (tm_5 (List.mem_of_getElem? (i := 239) rfl))⟩
theorem fk_M_35 : Cond.fieldLink "SignSquaresModel" 35 "SignSquaresModel" "row" "[I" ∈ lw_tbl := tm_5 (List.mem_of_getElem? (i := 239) rfl)
theorem fl_M_38 : FL "SignSquaresModel" 38 10 74 11 := ⟨by decide, by decide, RX10, TX10, rfl, inG10, tyX10_ok, nmX10, Or.inl (tm_6 (List.mem_of_getElem? (i := 1) rfl))⟩
theorem fk_M_38 : Cond.fieldLink "SignSquaresModel" 38 "SignSquaresModel" "own" "[I" ∈ lw_tbl := tm_6 (List.mem_of_getElem? (i := 1) rfl)
theorem fl_M_41 : FL "SignSquaresModel" 41 10 74 13 := ⟨by decide, by decide, RX10, TX10, rfl, inG10, tyX10_ok, nmX10, Or.inl (tm_6 (List.mem_of_getElem? (i := 3) rfl))⟩
theorem fk_M_41 : Cond.fieldLink "SignSquaresModel" 41 "SignSquaresModel" "sizeWide" "[I" ∈ lw_tbl := tm_6 (List.mem_of_getElem? (i := 3) rfl)
theorem fl_M_44 : FL "SignSquaresModel" 44 10 74 14 := ⟨by decide, by decide, RX10, TX10, rfl, inG10, tyX10_ok, nmX10, Or.inl (tm_6 (List.mem_of_getElem? (i := 4) rfl))⟩
theorem fk_M_44 : Cond.fieldLink "SignSquaresModel" 44 "SignSquaresModel" "sizeHigh" "[I" ∈ lw_tbl := tm_6 (List.mem_of_getElem? (i := 4) rfl)
theorem fl_M_47 : FL "SignSquaresModel" 47 10 74 15 := ⟨by decide, by decide, RX10, TX10, rfl, inG10, tyX10_ok, nmX10, Or.inl (tm_6 (List.mem_of_getElem? (i := 5) rfl))⟩
theorem fk_M_47 : Cond.fieldLink "SignSquaresModel" 47 "SignSquaresModel" "endAt" "[I" ∈ lw_tbl := tm_6 (List.mem_of_getElem? (i := 5) rfl)
theorem fl_M_50 : FL "SignSquaresModel" 50 10 74 18 := ⟨by decide, by decide, RX10, TX10, rfl, inG10, tyX10_ok, nmX10, Or.inl (tm_6 (List.mem_of_getElem? (i := 8) rfl))⟩
theorem fk_M_50 : Cond.fieldLink "SignSquaresModel" 50 "SignSquaresModel" "scaleUp" "[J" ∈ lw_tbl := tm_6 (List.mem_of_getElem? (i := 8) rfl)
theorem fl_M_54 : FL "SignSquaresModel" 54 10 74 19 := ⟨by decide, by decide, RX10, TX10, rfl, inG10, tyX10_ok, nmX10, Or.inl (tm_6 (List.mem_of_getElem? (i := 9) rfl))⟩
theorem fk_M_54 : Cond.fieldLink "SignSquaresModel" 54 "SignSquaresModel" "scaleDown" "[J" ∈ lw_tbl := tm_6 (List.mem_of_getElem? (i := 9) rfl)
theorem fl_M_57 : FL "SignSquaresModel" 57 10 74 20 := ⟨by decide, by decide, RX10, TX10, rfl, inG10, tyX10_ok, nmX10, Or.inl (tm_6 (List.mem_of_getElem? (i := 10) rfl))⟩
theorem fk_M_57 : Cond.fieldLink "SignSquaresModel" 57 "SignSquaresModel" "leftUp" "[J" ∈ lw_tbl := tm_6 (List.mem_of_getElem? (i := 10) rfl)
theorem fl_M_60 : FL "SignSquaresModel" 60 10 74 21 := ⟨by decide, by decide, RX10, TX10, rfl, inG10, tyX10_ok, nmX10, Or.inl (tm_6 (List.mem_of_getElem? (i := 11) rfl))⟩
theorem fk_M_60 : Cond.fieldLink "SignSquaresModel" 60 "SignSquaresModel" "leftDown" "[J" ∈ lw_tbl := tm_6 (List.mem_of_getElem? (i := 11) rfl)
theorem fl_M_63 : FL "SignSquaresModel" 63 10 74 22 := ⟨by decide, by decide, RX10, TX10, rfl, inG10, tyX10_ok, nmX10, Or.inl (tm_6 (List.mem_of_getElem? (i := 12) rfl))⟩
theorem fk_M_63 : Cond.fieldLink "SignSquaresModel" 63 "SignSquaresModel" "topUp" "[J" ∈ lw_tbl := tm_6 (List.mem_of_getElem? (i := 12) rfl)
theorem fl_M_66 : FL "SignSquaresModel" 66 10 74 23 := ⟨by decide, by decide, RX10, TX10, rfl, inG10, tyX10_ok, nmX10, Or.inl (tm_6 (List.mem_of_getElem? (i := 13) rfl))⟩
theorem fk_M_66 : Cond.fieldLink "SignSquaresModel" 66 "SignSquaresModel" "topDown" "[J" ∈ lw_tbl := tm_6 (List.mem_of_getElem? (i := 13) rfl)
theorem fl_M_69 : FL "SignSquaresModel" 69 10 74 24 := ⟨by decide, by decide, RX10, TX10, rfl, inG10, tyX10_ok, nmX10, Or.inl (tm_6 (List.mem_of_getElem? (i := 14) rfl))⟩
theorem fk_M_69 : Cond.fieldLink "SignSquaresModel" 69 "SignSquaresModel" "groupAt" "[I" ∈ lw_tbl := tm_6 (List.mem_of_getElem? (i := 14) rfl)
theorem fl_M_72 : FL "SignSquaresModel" 72 10 74 25 := ⟨by decide, by decide, RX10, TX10, rfl, inG10, tyX10_ok, nmX10, Or.inl (tm_6 (List.mem_of_getElem? (i := 15) rfl))⟩
theorem fk_M_72 : Cond.fieldLink "SignSquaresModel" 72 "SignSquaresModel" "alongAt" "[I" ∈ lw_tbl := tm_6 (List.mem_of_getElem? (i := 15) rfl)
theorem fl_M_75 : FL "SignSquaresModel" 75 10 74 26 := ⟨by decide, by decide, RX10, TX10, rfl, inG10, tyX10_ok, nmX10, Or.inl (tm_6 (List.mem_of_getElem? (i := 16) rfl))⟩
theorem fk_M_75 : Cond.fieldLink "SignSquaresModel" 75 "SignSquaresModel" "downAt" "[I" ∈ lw_tbl := tm_6 (List.mem_of_getElem? (i := 16) rfl)
theorem fl_M_78 : FL "SignSquaresModel" 78 10 74 28 := ⟨by decide, by decide, RX10, TX10, rfl, inG10, tyX10_ok, nmX10, Or.inl (tm_6 (List.mem_of_getElem? (i := 18) rfl))⟩
theorem fk_M_78 : Cond.fieldLink "SignSquaresModel" 78 "SignSquaresModel" "text" "[I" ∈ lw_tbl := tm_6 (List.mem_of_getElem? (i := 18) rfl)
theorem fl_M_81 : FL "SignSquaresModel" 81 10 74 30 := ⟨by decide, by decide, RX10, TX10, rfl, inG10, tyX10_ok, nmX10, Or.inl (tm_6 (List.mem_of_getElem? (i := 20) rfl))⟩
theorem fk_M_81 : Cond.fieldLink "SignSquaresModel" 81 "SignSquaresModel" "between" "[I" ∈ lw_tbl := tm_6 (List.mem_of_getElem? (i := 20) rfl)
theorem fl_M_84 : FL "SignSquaresModel" 84 10 74 31 := ⟨by decide, by decide, RX10, TX10, rfl, inG10, tyX10_ok, nmX10, Or.inl (tm_6 (List.mem_of_getElem? (i := 21) rfl))⟩
theorem fk_M_84 : Cond.fieldLink "SignSquaresModel" 84 "SignSquaresModel" "toCome" "[I" ∈ lw_tbl := tm_6 (List.mem_of_getElem? (i := 21) rfl)
theorem fl_M_87 : FL "SignSquaresModel" 87 10 74 32 := ⟨by decide, by decide, RX10, TX10, rfl, inG10, tyX10_ok, nmX10, Or.inl (tm_6 (List.mem_of_getElem? (i := 22) rfl))⟩
theorem fk_M_87 : Cond.fieldLink "SignSquaresModel" 87 "SignSquaresModel" "closes" "[I" ∈ lw_tbl := tm_6 (List.mem_of_getElem? (i := 22) rfl)
theorem fl_M_90 : FL "SignSquaresModel" 90 10 74 33 := ⟨by decide, by decide, RX10, TX10, rfl, inG10, tyX10_ok, nmX10, Or.inl (tm_6 (List.mem_of_getElem? (i := 23) rfl))⟩
theorem fk_M_90 : Cond.fieldLink "SignSquaresModel" 90 "SignSquaresModel" "hasOne" "[Z" ∈ lw_tbl := tm_6 (List.mem_of_getElem? (i := 23) rfl)
theorem fl_M_94 : FL "SignSquaresModel" 94 10 74 34 := ⟨by decide, by decide, RX10, TX10, rfl, inG10, tyX10_ok, nmX10, Or.inl (tm_6 (List.mem_of_getElem? (i := 24) rfl))⟩
theorem fk_M_94 : Cond.fieldLink "SignSquaresModel" 94 "SignSquaresModel" "forms" "[I" ∈ lw_tbl := tm_6 (List.mem_of_getElem? (i := 24) rfl)
theorem fl_M_97 : FL "SignSquaresModel" 97 10 74 35 := ⟨by decide, by decide, RX10, TX10, rfl, inG10, tyX10_ok, nmX10, Or.inl (tm_6 (List.mem_of_getElem? (i := 25) rfl))⟩
theorem fk_M_97 : Cond.fieldLink "SignSquaresModel" 97 "SignSquaresModel" "formMany" "[I" ∈ lw_tbl := tm_6 (List.mem_of_getElem? (i := 25) rfl)
theorem fl_M_100 : FL "SignSquaresModel" 100 10 74 36 := ⟨by decide, by decide, RX10, TX10, rfl, inG10, tyX10_ok, nmX10, Or.inl (tm_6 (List.mem_of_getElem? (i := 26) rfl))⟩
theorem fk_M_100 : Cond.fieldLink "SignSquaresModel" 100 "SignSquaresModel" "formFrom" "[I" ∈ lw_tbl := tm_6 (List.mem_of_getElem? (i := 26) rfl)
theorem fl_M_103 : FL "SignSquaresModel" 103 10 74 37 := ⟨by decide, by decide, RX10, TX10, rfl, inG10, tyX10_ok, nmX10, Or.inl (tm_6 (List.mem_of_getElem? (i := 27) rfl))⟩
theorem fk_M_103 : Cond.fieldLink "SignSquaresModel" 103 "SignSquaresModel" "base" "[I" ∈ lw_tbl := tm_6 (List.mem_of_getElem? (i := 27) rfl)
theorem fl_M_106 : FL "SignSquaresModel" 106 10 74 38 := ⟨by decide, by decide, RX10, TX10, rfl, inG10, tyX10_ok, nmX10, Or.inl (tm_6 (List.mem_of_getElem? (i := 28) rfl))⟩
theorem fk_M_106 : Cond.fieldLink "SignSquaresModel" 106 "SignSquaresModel" "itemFrom" "[I" ∈ lw_tbl := tm_6 (List.mem_of_getElem? (i := 28) rfl)
theorem fl_M_109 : FL "SignSquaresModel" 109 10 74 40 := ⟨by decide, by decide, RX10, TX10, rfl, inG10, tyX10_ok, nmX10, Or.inl (tm_6 (List.mem_of_getElem? (i := 30) rfl))⟩
theorem fk_M_109 : Cond.fieldLink "SignSquaresModel" 109 "SignSquaresModel" "bestRow" "[I" ∈ lw_tbl := tm_6 (List.mem_of_getElem? (i := 30) rfl)
theorem fl_M_112 : FL "SignSquaresModel" 112 10 74 44 := ⟨by decide, by decide, RX10, TX10, rfl, inG10, tyX10_ok, nmX10, Or.inl (tm_6 (List.mem_of_getElem? (i := 34) rfl))⟩
theorem fk_M_112 : Cond.fieldLink "SignSquaresModel" 112 "SignSquaresModel" "bestText0" "[I" ∈ lw_tbl := tm_6 (List.mem_of_getElem? (i := 34) rfl)
theorem fl_M_115 : FL "SignSquaresModel" 115 10 74 46 := ⟨by decide, by decide, RX10, TX10, rfl, inG10, tyX10_ok, nmX10, Or.inl (tm_6 (List.mem_of_getElem? (i := 36) rfl))⟩
theorem fk_M_115 : Cond.fieldLink "SignSquaresModel" 115 "SignSquaresModel" "tape" "[I" ∈ lw_tbl := tm_6 (List.mem_of_getElem? (i := 36) rfl)
theorem fl_M_118 : FL "SignSquaresModel" 118 10 74 48 := ⟨by decide, by decide, RX10, TX10, rfl, inG10, tyX10_ok, nmX10, Or.inl (tm_6 (List.mem_of_getElem? (i := 38) rfl))⟩
theorem fk_M_118 : Cond.fieldLink "SignSquaresModel" 118 "SignSquaresModel" "words" "[B" ∈ lw_tbl := tm_6 (List.mem_of_getElem? (i := 38) rfl)
theorem fl_M_122 : FL "SignSquaresModel" 122 10 74 54 := ⟨by decide, by decide, RX10, TX10, rfl, inG10, tyX10_ok, nmX10, Or.inl (tm_6 (List.mem_of_getElem? (i := 44) rfl))⟩
theorem fk_M_122 : Cond.fieldLink "SignSquaresModel" 122 "SignSquaresModel" "readWide" "[I" ∈ lw_tbl := tm_6 (List.mem_of_getElem? (i := 44) rfl)
theorem fl_M_125 : FL "SignSquaresModel" 125 10 74 55 := ⟨by decide, by decide, RX10, TX10, rfl, inG10, tyX10_ok, nmX10, Or.inl (tm_6 (List.mem_of_getElem? (i := 45) rfl))⟩
theorem fk_M_125 : Cond.fieldLink "SignSquaresModel" 125 "SignSquaresModel" "readHigh" "[I" ∈ lw_tbl := tm_6 (List.mem_of_getElem? (i := 45) rfl)
theorem fl_M_128 : FL "SignSquaresModel" 128 10 74 56 := ⟨by decide, by decide, RX10, TX10, rfl, inG10, tyX10_ok, nmX10, Or.inl (tm_6 (List.mem_of_getElem? (i := 46) rfl))⟩
theorem fk_M_128 : Cond.fieldLink "SignSquaresModel" 128 "SignSquaresModel" "readCoreWide" "[I" ∈ lw_tbl := tm_6 (List.mem_of_getElem? (i := 46) rfl)
theorem fl_M_131 : FL "SignSquaresModel" 131 10 74 57 := ⟨by decide, by decide, RX10, TX10, rfl, inG10, tyX10_ok, nmX10, Or.inl (tm_6 (List.mem_of_getElem? (i := 47) rfl))⟩
theorem fk_M_131 : Cond.fieldLink "SignSquaresModel" 131 "SignSquaresModel" "readCoreHigh" "[I" ∈ lw_tbl := tm_6 (List.mem_of_getElem? (i := 47) rfl)
theorem fl_M_134 : FL "SignSquaresModel" 134 10 74 59 := ⟨by decide, by decide, RX10, TX10, rfl, inG10, tyX10_ok, nmX10, Or.inl (tm_6 (List.mem_of_getElem? (i := 49) rfl))⟩
theorem fk_M_134 : Cond.fieldLink "SignSquaresModel" 134 "SignSquaresModel" "sort" "[I" ∈ lw_tbl := tm_6 (List.mem_of_getElem? (i := 49) rfl)
theorem fl_M_137 : FL "SignSquaresModel" 137 10 74 60 := ⟨by decide, by decide, RX10, TX10, rfl, inG10, tyX10_ok, nmX10, Or.inl (tm_6 (List.mem_of_getElem? (i := 50) rfl))⟩
theorem fk_M_137 : Cond.fieldLink "SignSquaresModel" 137 "SignSquaresModel" "letterIs" "[I" ∈ lw_tbl := tm_6 (List.mem_of_getElem? (i := 50) rfl)
theorem fl_M_140 : FL "SignSquaresModel" 140 10 74 61 := ⟨by decide, by decide, RX10, TX10, rfl, inG10, tyX10_ok, nmX10, Or.inl (tm_6 (List.mem_of_getElem? (i := 51) rfl))⟩
theorem fk_M_140 : Cond.fieldLink "SignSquaresModel" 140 "SignSquaresModel" "insideIs" "[I" ∈ lw_tbl := tm_6 (List.mem_of_getElem? (i := 51) rfl)
theorem fl_M_143 : FL "SignSquaresModel" 143 10 74 62 := ⟨by decide, by decide, RX10, TX10, rfl, inG10, tyX10_ok, nmX10, Or.inl (tm_6 (List.mem_of_getElem? (i := 52) rfl))⟩
theorem fk_M_143 : Cond.fieldLink "SignSquaresModel" 143 "SignSquaresModel" "firstIs" "[I" ∈ lw_tbl := tm_6 (List.mem_of_getElem? (i := 52) rfl)
theorem fl_M_146 : FL "SignSquaresModel" 146 10 74 63 := ⟨by decide, by decide, RX10, TX10, rfl, inG10, tyX10_ok, nmX10, Or.inl (tm_6 (List.mem_of_getElem? (i := 53) rfl))⟩
theorem fk_M_146 : Cond.fieldLink "SignSquaresModel" 146 "SignSquaresModel" "lastIs" "[I" ∈ lw_tbl := tm_6 (List.mem_of_getElem? (i := 53) rfl)
theorem fl_M_149 : FL "SignSquaresModel" 149 10 74 64 := ⟨by decide, by decide, RX10, TX10, rfl, inG10, tyX10_ok, nmX10, Or.inl (tm_6 (List.mem_of_getElem? (i := 54) rfl))⟩
theorem fk_M_149 : Cond.fieldLink "SignSquaresModel" 149 "SignSquaresModel" "nextIs" "[I" ∈ lw_tbl := tm_6 (List.mem_of_getElem? (i := 54) rfl)
theorem fl_M_152 : FL "SignSquaresModel" 152 10 74 65 := ⟨by decide, by decide, RX10, TX10, rfl, inG10, tyX10_ok, nmX10, Or.inl (tm_6 (List.mem_of_getElem? (i := 55) rfl))⟩
theorem fk_M_152 : Cond.fieldLink "SignSquaresModel" 152 "SignSquaresModel" "manyIs" "[I" ∈ lw_tbl := tm_6 (List.mem_of_getElem? (i := 55) rfl)
theorem fl_M_155 : FL "SignSquaresModel" 155 10 74 67 := ⟨by decide, by decide, RX10, TX10, rfl, inG10, tyX10_ok, nmX10, Or.inl (tm_6 (List.mem_of_getElem? (i := 57) rfl))⟩
theorem fk_M_155 : Cond.fieldLink "SignSquaresModel" 155 "SignSquaresModel" "allRows" "[I" ∈ lw_tbl := tm_6 (List.mem_of_getElem? (i := 57) rfl)
theorem fl_M_158 : FL "SignSquaresModel" 158 10 74 68 := ⟨by decide, by decide, RX10, TX10, rfl, inG10, tyX10_ok, nmX10, Or.inl (tm_6 (List.mem_of_getElem? (i := 58) rfl))⟩
theorem fk_M_158 : Cond.fieldLink "SignSquaresModel" 158 "SignSquaresModel" "rowNow" "[I" ∈ lw_tbl := tm_6 (List.mem_of_getElem? (i := 58) rfl)
theorem fl_M_161 : FL "SignSquaresModel" 161 10 74 69 := ⟨by decide, by decide, RX10, TX10, rfl, inG10, tyX10_ok, nmX10, Or.inl (tm_6 (List.mem_of_getElem? (i := 59) rfl))⟩
theorem fk_M_161 : Cond.fieldLink "SignSquaresModel" 161 "SignSquaresModel" "ownerOf" "[I" ∈ lw_tbl := tm_6 (List.mem_of_getElem? (i := 59) rfl)
theorem fl_M_164 : FL "SignSquaresModel" 164 10 74 73 := ⟨by decide, by decide, RX10, TX10, rfl, inG10, tyX10_ok, nmX10, Or.inl (tm_6 (List.mem_of_getElem? (i := 63) rfl))⟩
theorem fk_M_164 : Cond.fieldLink "SignSquaresModel" 164 "SignSquaresModel" "waits" "[I" ∈ lw_tbl := tm_6 (List.mem_of_getElem? (i := 63) rfl)
theorem fl_M_171 : FL "SignSquaresModel" 171 10 74 8 := ⟨by decide, by decide, RX10, TX10, rfl, inG10, tyX10_ok, nmX10, Or.inl (tm_5 (List.mem_of_getElem? (i := 238) rfl))⟩
theorem fl_M_189 : FL "SignSquaresModel" 189 10 74 10 := ⟨by decide, by decide, RX10, TX10, rfl, inG10, tyX10_ok, nmX10, Or.inl (tm_6 (List.mem_of_getElem? (i := 0) rfl))⟩
theorem fl_M_192 : FL "SignSquaresModel" 192 10 74 12 := ⟨by decide, by decide, RX10, TX10, rfl, inG10, tyX10_ok, nmX10, Or.inl (tm_6 (List.mem_of_getElem? (i := 2) rfl))⟩
theorem fl_M_227 : FL "SignSquaresModel" 227 10 74 16 := ⟨by decide, by decide, RX10, TX10, rfl, inG10, tyX10_ok, nmX10, Or.inl (tm_6 (List.mem_of_getElem? (i := 6) rfl))⟩
theorem fl_M_231 : FL "SignSquaresModel" 231 10 74 17 := ⟨by decide, by decide, RX10, TX10, rfl, inG10, tyX10_ok, nmX10, Or.inl (tm_6 (List.mem_of_getElem? (i := 7) rfl))⟩
theorem fl_M_238 : FL "SignSquaresModel" 238 10 74 27 := ⟨by decide, by decide, RX10, TX10, rfl, inG10, tyX10_ok, nmX10, Or.inl (tm_6 (List.mem_of_getElem? (i := 17) rfl))⟩
theorem fl_M_331 : FL "SignSquaresModel" 331 10 74 29 := ⟨by decide, by decide, RX10, TX10, rfl, inG10, tyX10_ok, nmX10, Or.inl (tm_6 (List.mem_of_getElem? (i := 19) rfl))⟩
theorem fl_M_373 : FL "SignSquaresModel" 373 10 74 39 := ⟨by decide, by decide, RX10, TX10, rfl, inG10, tyX10_ok, nmX10, Or.inl (tm_6 (List.mem_of_getElem? (i := 29) rfl))⟩
theorem fl_M_376 : FL "SignSquaresModel" 376 10 74 41 := ⟨by decide, by decide, RX10, TX10, rfl, inG10, tyX10_ok, nmX10, Or.inl (tm_6 (List.mem_of_getElem? (i := 31) rfl))⟩
theorem fl_M_379 : FL "SignSquaresModel" 379 10 74 42 := ⟨by decide, by decide, RX10, TX10, rfl, inG10, tyX10_ok, nmX10, Or.inl (tm_6 (List.mem_of_getElem? (i := 32) rfl))⟩
theorem fl_M_385 : FL "SignSquaresModel" 385 10 74 43 := ⟨by decide, by decide, RX10, TX10, rfl, inG10, tyX10_ok, nmX10, Or.inl (tm_6 (List.mem_of_getElem? (i := 33) rfl))⟩
theorem fl_M_391 : FL "SignSquaresModel" 391 10 74 45 := ⟨by decide, by decide, RX10, TX10, rfl, inG10, tyX10_ok, nmX10, Or.inl (tm_6 (List.mem_of_getElem? (i := 35) rfl))⟩
theorem fl_M_418 : FL "SignSquaresModel" 418 10 74 47 := ⟨by decide, by decide, RX10, TX10, rfl, inG10, tyX10_ok, nmX10, Or.inl (tm_6 (List.mem_of_getElem? (i := 37) rfl))⟩
theorem fl_M_421 : FL "SignSquaresModel" 421 10 74 49 := ⟨by decide, by decide, RX10, TX10, rfl, inG10, tyX10_ok, nmX10, Or.inl (tm_6 (List.mem_of_getElem? (i := 39) rfl))⟩
theorem fl_M_424 : FL "SignSquaresModel" 424 10 74 50 := ⟨by decide, by decide, RX10, TX10, rfl, inG10, tyX10_ok, nmX10, Or.inl (tm_6 (List.mem_of_getElem? (i := 40) rfl))⟩
theorem fl_M_430 : FL "SignSquaresModel" 430 10 74 51 := ⟨by decide, by decide, RX10, TX10, rfl, inG10, tyX10_ok, nmX10, Or.inl (tm_6 (List.mem_of_getElem? (i := 41) rfl))⟩
theorem fl_M_433 : FL "SignSquaresModel" 433 10 74 52 := ⟨by decide, by decide, RX10, TX10, rfl, inG10, tyX10_ok, nmX10, Or.inl (tm_6 (List.mem_of_getElem? (i := 42) rfl))⟩
theorem fl_M_436 : FL "SignSquaresModel" 436 10 74 53 := ⟨by decide, by decide, RX10, TX10, rfl, inG10, tyX10_ok, nmX10, Or.inl (tm_6 (List.mem_of_getElem? (i := 43) rfl))⟩
theorem fl_M_449 : FL "SignSquaresModel" 449 10 74 58 := ⟨by decide, by decide, RX10, TX10, rfl, inG10, tyX10_ok, nmX10, Or.inl (tm_6 (List.mem_of_getElem? (i := 48) rfl))⟩
theorem fl_M_461 : FL "SignSquaresModel" 461 10 74 66 := ⟨by decide, by decide, RX10, TX10, rfl, inG10, tyX10_ok, nmX10, Or.inl (tm_6 (List.mem_of_getElem? (i := 56) rfl))⟩
theorem fl_M_464 : FL "SignSquaresModel" 464 10 74 70 := ⟨by decide, by decide, RX10, TX10, rfl, inG10, tyX10_ok, nmX10, Or.inl (tm_6 (List.mem_of_getElem? (i := 60) rfl))⟩
theorem fl_M_482 : FL "SignSquaresModel" 482 10 74 72 := ⟨by decide, by decide, RX10, TX10, rfl, inG10, tyX10_ok, nmX10, Or.inl (tm_6 (List.mem_of_getElem? (i := 62) rfl))⟩
theorem fl_M_485 : FL "SignSquaresModel" 485 10 74 71 := ⟨by decide, by decide, RX10, TX10, rfl, inG10, tyX10_ok, nmX10, Or.inl (tm_6 (List.mem_of_getElem? (i := 61) rfl))⟩
theorem ok_S_act : MOK m_S_act 1 := ⟨tm_3 (List.mem_of_getElem? (i := 157) rfl), tm_1 (List.mem_of_getElem? (i := 1) rfl), by decide +kernel, by decide, by decide +kernel⟩
theorem io_S_act : Cond.instanceMethod m_S_act.1 ∈ lw_tbl := tm_3 (List.mem_of_getElem? (i := 156) rfl)
theorem so_S_act : Cond.selects m_S_act.1.cls m_S_act.1 m_S_act.1 ∈ lw_tbl := List.mem_of_getElem? (i := 21) (by decide +kernel)
theorem ok_S_become : MOK m_S_become 3 := ⟨tm_3 (List.mem_of_getElem? (i := 129) rfl), tm_1 (List.mem_of_getElem? (i := 1) rfl), by decide +kernel, by decide, by decide +kernel⟩
theorem io_S_become : Cond.instanceMethod m_S_become.1 ∈ lw_tbl := tm_3 (List.mem_of_getElem? (i := 128) rfl)
theorem so_S_become : Cond.selects m_S_become.1.cls m_S_become.1 m_S_become.1 ∈ lw_tbl := List.mem_of_getElem? (i := 18) (by decide +kernel)
theorem ok_S_bestOf : MOK m_S_bestOf 1 := ⟨tm_4 (List.mem_of_getElem? (i := 69) rfl), tm_1 (List.mem_of_getElem? (i := 1) rfl), by decide +kernel, by decide, by decide +kernel⟩
theorem io_S_bestOf : Cond.instanceMethod m_S_bestOf.1 ∈ lw_tbl := tm_4 (List.mem_of_getElem? (i := 68) rfl)
theorem so_S_bestOf : Cond.selects m_S_bestOf.1.cls m_S_bestOf.1 m_S_bestOf.1 ∈ lw_tbl := List.mem_of_getElem? (i := 34) (by decide +kernel)
theorem ok_S_bothJoined : MOK m_S_bothJoined 2 := ⟨tm_3 (List.mem_of_getElem? (i := 186) rfl), tm_1 (List.mem_of_getElem? (i := 1) rfl), by decide +kernel, by decide, by decide +kernel⟩
theorem io_S_bothJoined : Cond.instanceMethod m_S_bothJoined.1 ∈ lw_tbl := tm_3 (List.mem_of_getElem? (i := 185) rfl)
theorem so_S_bothJoined : Cond.selects m_S_bothJoined.1.cls m_S_bothJoined.1 m_S_bothJoined.1 ∈ lw_tbl := List.mem_of_getElem? (i := 23) (by decide +kernel)
theorem ok_S_endOfPart : MOK m_S_endOfPart 3 := ⟨tm_3 (List.mem_of_getElem? (i := 9) rfl), tm_1 (List.mem_of_getElem? (i := 1) rfl), by decide +kernel, by decide, by decide +kernel⟩
theorem to_S_endOfPart : Cond.static m_S_endOfPart.1 ∈ lw_tbl := tm_3 (List.mem_of_getElem? (i := 8) rfl)
theorem ok_S_forgetActs : MOK m_S_forgetActs 0 := ⟨tm_3 (List.mem_of_getElem? (i := 74) rfl), tm_1 (List.mem_of_getElem? (i := 1) rfl), by decide +kernel, by decide, by decide +kernel⟩
theorem io_S_forgetActs : Cond.instanceMethod m_S_forgetActs.1 ∈ lw_tbl := tm_3 (List.mem_of_getElem? (i := 73) rfl)
theorem so_S_forgetActs : Cond.selects m_S_forgetActs.1.cls m_S_forgetActs.1 m_S_forgetActs.1 ∈ lw_tbl := List.mem_of_getElem? (i := 16) (by decide +kernel)
theorem ok_S_fraction : MOK m_S_fraction 3 := ⟨tm_5 (List.mem_of_getElem? (i := 34) rfl), tm_1 (List.mem_of_getElem? (i := 1) rfl), by decide +kernel, by decide, by decide +kernel⟩
theorem to_S_fraction : Cond.static m_S_fraction.1 ∈ lw_tbl := tm_5 (List.mem_of_getElem? (i := 33) rfl)
theorem ok_S_greatestDivisor : MOK m_S_greatestDivisor 2 := ⟨tm_5 (List.mem_of_getElem? (i := 37) rfl), tm_1 (List.mem_of_getElem? (i := 1) rfl), by decide +kernel, by decide, by decide +kernel⟩
theorem to_S_greatestDivisor : Cond.static m_S_greatestDivisor.1 ∈ lw_tbl := tm_5 (List.mem_of_getElem? (i := 36) rfl)
theorem ok_S_holds : MOK m_S_holds 1 := ⟨tm_3 (List.mem_of_getElem? (i := 16) rfl), tm_1 (List.mem_of_getElem? (i := 1) rfl), by decide +kernel, by decide, by decide +kernel⟩
theorem to_S_holds : Cond.static m_S_holds.1 ∈ lw_tbl := tm_3 (List.mem_of_getElem? (i := 15) rfl)
theorem ok_S_isJoint : MOK m_S_isJoint 1 := ⟨tm_3 (List.mem_of_getElem? (i := 2) rfl), tm_1 (List.mem_of_getElem? (i := 1) rfl), by decide +kernel, by decide, by decide +kernel⟩
theorem to_S_isJoint : Cond.static m_S_isJoint.1 ∈ lw_tbl := tm_3 (List.mem_of_getElem? (i := 1) rfl)
theorem ok_S_isPoint : MOK m_S_isPoint 1 := ⟨tm_5 (List.mem_of_getElem? (i := 97) rfl), tm_1 (List.mem_of_getElem? (i := 1) rfl), by decide +kernel, by decide, by decide +kernel⟩
theorem to_S_isPoint : Cond.static m_S_isPoint.1 ∈ lw_tbl := tm_5 (List.mem_of_getElem? (i := 96) rfl)
theorem ok_S_laidOut : MOK m_S_laidOut 2 := ⟨tm_5 (List.mem_of_getElem? (i := 58) rfl), tm_1 (List.mem_of_getElem? (i := 1) rfl), by decide +kernel, by decide, by decide +kernel⟩
theorem io_S_laidOut : Cond.instanceMethod m_S_laidOut.1 ∈ lw_tbl := tm_5 (List.mem_of_getElem? (i := 57) rfl)
theorem so_S_laidOut : Cond.selects m_S_laidOut.1.cls m_S_laidOut.1 m_S_laidOut.1 ∈ lw_tbl := List.mem_of_getElem? (i := 55) (by decide +kernel)
theorem ok_S_letterOf : MOK m_S_letterOf 1 := ⟨tm_3 (List.mem_of_getElem? (i := 107) rfl), tm_1 (List.mem_of_getElem? (i := 1) rfl), by decide +kernel, by decide, by decide +kernel⟩
theorem to_S_letterOf : Cond.static m_S_letterOf.1 ∈ lw_tbl := tm_3 (List.mem_of_getElem? (i := 106) rfl)
theorem ok_S_lineAt : MOK m_S_lineAt 1 := ⟨tm_3 (List.mem_of_getElem? (i := 133) rfl), tm_1 (List.mem_of_getElem? (i := 1) rfl), by decide +kernel, by decide, by decide +kernel⟩
theorem io_S_lineAt : Cond.instanceMethod m_S_lineAt.1 ∈ lw_tbl := tm_3 (List.mem_of_getElem? (i := 132) rfl)
theorem so_S_lineAt : Cond.selects m_S_lineAt.1.cls m_S_lineAt.1 m_S_lineAt.1 ∈ lw_tbl := List.mem_of_getElem? (i := 19) (by decide +kernel)
theorem ok_S_measured : MOK m_S_measured 1 := ⟨tm_4 (List.mem_of_getElem? (i := 224) rfl), tm_1 (List.mem_of_getElem? (i := 1) rfl), by decide +kernel, by decide, by decide +kernel⟩
theorem io_S_measured : Cond.instanceMethod m_S_measured.1 ∈ lw_tbl := tm_4 (List.mem_of_getElem? (i := 223) rfl)
theorem so_S_measured : Cond.selects m_S_measured.1.cls m_S_measured.1 m_S_measured.1 ∈ lw_tbl := List.mem_of_getElem? (i := 50) (by decide +kernel)
theorem ok_S_replaceLine : MOK m_S_replaceLine 2 := ⟨tm_3 (List.mem_of_getElem? (i := 145) rfl), tm_1 (List.mem_of_getElem? (i := 1) rfl), by decide +kernel, by decide, by decide +kernel⟩
theorem io_S_replaceLine : Cond.instanceMethod m_S_replaceLine.1 ∈ lw_tbl := tm_3 (List.mem_of_getElem? (i := 144) rfl)
theorem so_S_replaceLine : Cond.selects m_S_replaceLine.1.cls m_S_replaceLine.1 m_S_replaceLine.1 ∈ lw_tbl := List.mem_of_getElem? (i := 20) (by decide +kernel)
theorem ok_S_scaleOf : MOK m_S_scaleOf 2 := ⟨tm_5 (List.mem_of_getElem? (i := 23) rfl), tm_1 (List.mem_of_getElem? (i := 1) rfl), by decide +kernel, by decide, by decide +kernel⟩
theorem io_S_scaleOf : Cond.instanceMethod m_S_scaleOf.1 ∈ lw_tbl := tm_5 (List.mem_of_getElem? (i := 22) rfl)
theorem so_S_scaleOf : Cond.selects m_S_scaleOf.1.cls m_S_scaleOf.1 m_S_scaleOf.1 ∈ lw_tbl := List.mem_of_getElem? (i := 53) (by decide +kernel)
theorem ok_S_slice : MOK m_S_slice 3 := ⟨tm_3 (List.mem_of_getElem? (i := 216) rfl), tm_1 (List.mem_of_getElem? (i := 1) rfl), by decide +kernel, by decide, by decide +kernel⟩
theorem io_S_slice : Cond.instanceMethod m_S_slice.1 ∈ lw_tbl := tm_3 (List.mem_of_getElem? (i := 215) rfl)
theorem so_S_slice : Cond.selects m_S_slice.1.cls m_S_slice.1 m_S_slice.1 ∈ lw_tbl := List.mem_of_getElem? (i := 24) (by decide +kernel)
theorem ok_S_spanOf : MOK m_S_spanOf 1 := ⟨tm_5 (List.mem_of_getElem? (i := 27) rfl), tm_1 (List.mem_of_getElem? (i := 1) rfl), by decide +kernel, by decide, by decide +kernel⟩
theorem io_S_spanOf : Cond.instanceMethod m_S_spanOf.1 ∈ lw_tbl := tm_5 (List.mem_of_getElem? (i := 26) rfl)
theorem so_S_spanOf : Cond.selects m_S_spanOf.1.cls m_S_spanOf.1 m_S_spanOf.1 ∈ lw_tbl := List.mem_of_getElem? (i := 54) (by decide +kernel)
theorem ok_S_spelled : MOK m_S_spelled 2 := ⟨tm_4 (List.mem_of_getElem? (i := 1) rfl), tm_1 (List.mem_of_getElem? (i := 1) rfl), by decide +kernel, by decide, by decide +kernel⟩
theorem io_S_spelled : Cond.instanceMethod m_S_spelled.1 ∈ lw_tbl := tm_4 (List.mem_of_getElem? (i := 0) rfl)
theorem so_S_spelled : Cond.selects m_S_spelled.1.cls m_S_spelled.1 m_S_spelled.1 ∈ lw_tbl := List.mem_of_getElem? (i := 25) (by decide +kernel)
theorem ok_S_squareAt : MOK m_S_squareAt 2 := ⟨tm_3 (List.mem_of_getElem? (i := 82) rfl), tm_1 (List.mem_of_getElem? (i := 1) rfl), by decide +kernel, by decide, by decide +kernel⟩
theorem io_S_squareAt : Cond.instanceMethod m_S_squareAt.1 ∈ lw_tbl := tm_3 (List.mem_of_getElem? (i := 81) rfl)
theorem so_S_squareAt : Cond.selects m_S_squareAt.1.cls m_S_squareAt.1 m_S_squareAt.1 ∈ lw_tbl := List.mem_of_getElem? (i := 17) (by decide +kernel)
theorem ok_S_squareBehind : MOK m_S_squareBehind 2 := ⟨tm_3 (List.mem_of_getElem? (i := 181) rfl), tm_1 (List.mem_of_getElem? (i := 1) rfl), by decide +kernel, by decide, by decide +kernel⟩
theorem io_S_squareBehind : Cond.instanceMethod m_S_squareBehind.1 ∈ lw_tbl := tm_3 (List.mem_of_getElem? (i := 180) rfl)
theorem so_S_squareBehind : Cond.selects m_S_squareBehind.1.cls m_S_squareBehind.1 m_S_squareBehind.1 ∈ lw_tbl := List.mem_of_getElem? (i := 22) (by decide +kernel)
theorem ok_S_tightest : MOK m_S_tightest 1 := ⟨tm_5 (List.mem_of_getElem? (i := 133) rfl), tm_1 (List.mem_of_getElem? (i := 1) rfl), by decide +kernel, by decide, by decide +kernel⟩
theorem io_S_tightest : Cond.instanceMethod m_S_tightest.1 ∈ lw_tbl := tm_5 (List.mem_of_getElem? (i := 131) rfl)
theorem so_S_tightest : Cond.selects m_S_tightest.1.cls m_S_tightest.1 m_S_tightest.1 ∈ lw_tbl := tm_5 (List.mem_of_getElem? (i := 132) rfl)
theorem ok_S_timesOf : MOK m_S_timesOf 1 := ⟨tm_4 (List.mem_of_getElem? (i := 198) rfl), tm_1 (List.mem_of_getElem? (i := 1) rfl), by decide +kernel, by decide, by decide +kernel⟩
theorem io_S_timesOf : Cond.instanceMethod m_S_timesOf.1 ∈ lw_tbl := tm_4 (List.mem_of_getElem? (i := 197) rfl)
theorem so_S_timesOf : Cond.selects m_S_timesOf.1.cls m_S_timesOf.1 m_S_timesOf.1 ∈ lw_tbl := List.mem_of_getElem? (i := 49) (by decide +kernel)
theorem ok_Arranger_init : MOK m_Arranger_init 0 := ⟨tm_1 (List.mem_of_getElem? (i := 216) rfl), tm_1 (List.mem_of_getElem? (i := 8) rfl), by decide +kernel, by decide, by decide +kernel⟩
theorem io_Arranger_init : Cond.instanceMethod m_Arranger_init.1 ∈ lw_tbl := tm_1 (List.mem_of_getElem? (i := 215) rfl)
theorem ok_Arranger_bestForm : MOK m_Arranger_bestForm 2 := ⟨tm_4 (List.mem_of_getElem? (i := 153) rfl), tm_1 (List.mem_of_getElem? (i := 8) rfl), by decide +kernel, by decide, by decide +kernel⟩
theorem io_Arranger_bestForm : Cond.instanceMethod m_Arranger_bestForm.1 ∈ lw_tbl := tm_4 (List.mem_of_getElem? (i := 152) rfl)
theorem so_Arranger_bestForm : Cond.selects m_Arranger_bestForm.1.cls m_Arranger_bestForm.1 m_Arranger_bestForm.1 ∈ lw_tbl := List.mem_of_getElem? (i := 46) (by decide +kernel)
theorem ok_Arranger_find : MOK m_Arranger_find 4 := ⟨tm_4 (List.mem_of_getElem? (i := 81) rfl), tm_1 (List.mem_of_getElem? (i := 8) rfl), by decide +kernel, by decide, by decide +kernel⟩
theorem io_Arranger_find : Cond.instanceMethod m_Arranger_find.1 ∈ lw_tbl := tm_4 (List.mem_of_getElem? (i := 79) rfl)
theorem so_Arranger_find : Cond.selects m_Arranger_find.1.cls m_Arranger_find.1 m_Arranger_find.1 ∈ lw_tbl := tm_4 (List.mem_of_getElem? (i := 80) rfl)
theorem ok_Arranger_isBetter : MOK m_Arranger_isBetter 3 := ⟨tm_4 (List.mem_of_getElem? (i := 157) rfl), tm_1 (List.mem_of_getElem? (i := 8) rfl), by decide +kernel, by decide, by decide +kernel⟩
theorem io_Arranger_isBetter : Cond.instanceMethod m_Arranger_isBetter.1 ∈ lw_tbl := tm_4 (List.mem_of_getElem? (i := 156) rfl)
theorem so_Arranger_isBetter : Cond.selects m_Arranger_isBetter.1.cls m_Arranger_isBetter.1 m_Arranger_isBetter.1 ∈ lw_tbl := List.mem_of_getElem? (i := 47) (by decide +kernel)
theorem ok_Arranger_isForm : MOK m_Arranger_isForm 1 := ⟨tm_4 (List.mem_of_getElem? (i := 128) rfl), tm_1 (List.mem_of_getElem? (i := 8) rfl), by decide +kernel, by decide, by decide +kernel⟩
theorem io_Arranger_isForm : Cond.instanceMethod m_Arranger_isForm.1 ∈ lw_tbl := tm_4 (List.mem_of_getElem? (i := 127) rfl)
theorem so_Arranger_isForm : Cond.selects m_Arranger_isForm.1.cls m_Arranger_isForm.1 m_Arranger_isForm.1 ∈ lw_tbl := List.mem_of_getElem? (i := 41) (by decide +kernel)
theorem ok_Arranger_keep : MOK m_Arranger_keep 3 := ⟨tm_4 (List.mem_of_getElem? (i := 97) rfl), tm_1 (List.mem_of_getElem? (i := 8) rfl), by decide +kernel, by decide, by decide +kernel⟩
theorem io_Arranger_keep : Cond.instanceMethod m_Arranger_keep.1 ∈ lw_tbl := tm_4 (List.mem_of_getElem? (i := 96) rfl)
theorem so_Arranger_keep : Cond.selects m_Arranger_keep.1.cls m_Arranger_keep.1 m_Arranger_keep.1 ∈ lw_tbl := List.mem_of_getElem? (i := 36) (by decide +kernel)
theorem ok_Arranger_keepSize : MOK m_Arranger_keepSize 2 := ⟨tm_4 (List.mem_of_getElem? (i := 110) rfl), tm_1 (List.mem_of_getElem? (i := 8) rfl), by decide +kernel, by decide, by decide +kernel⟩
theorem io_Arranger_keepSize : Cond.instanceMethod m_Arranger_keepSize.1 ∈ lw_tbl := tm_4 (List.mem_of_getElem? (i := 109) rfl)
theorem so_Arranger_keepSize : Cond.selects m_Arranger_keepSize.1.cls m_Arranger_keepSize.1 m_Arranger_keepSize.1 ∈ lw_tbl := List.mem_of_getElem? (i := 37) (by decide +kernel)
theorem ok_Arranger_keepText : MOK m_Arranger_keepText 2 := ⟨tm_4 (List.mem_of_getElem? (i := 115) rfl), tm_1 (List.mem_of_getElem? (i := 8) rfl), by decide +kernel, by decide, by decide +kernel⟩
theorem io_Arranger_keepText : Cond.instanceMethod m_Arranger_keepText.1 ∈ lw_tbl := tm_4 (List.mem_of_getElem? (i := 114) rfl)
theorem so_Arranger_keepText : Cond.selects m_Arranger_keepText.1.cls m_Arranger_keepText.1 m_Arranger_keepText.1 ∈ lw_tbl := List.mem_of_getElem? (i := 38) (by decide +kernel)
theorem ok_Arranger_knows : MOK m_Arranger_knows 2 := ⟨tm_4 (List.mem_of_getElem? (i := 77) rfl), tm_1 (List.mem_of_getElem? (i := 8) rfl), by decide +kernel, by decide, by decide +kernel⟩
theorem io_Arranger_knows : Cond.instanceMethod m_Arranger_knows.1 ∈ lw_tbl := tm_4 (List.mem_of_getElem? (i := 75) rfl)
theorem so_Arranger_knows : Cond.selects m_Arranger_knows.1.cls m_Arranger_knows.1 m_Arranger_knows.1 ∈ lw_tbl := tm_4 (List.mem_of_getElem? (i := 76) rfl)
theorem ok_Arranger_makeAbove : MOK m_Arranger_makeAbove 3 := ⟨tm_4 (List.mem_of_getElem? (i := 147) rfl), tm_1 (List.mem_of_getElem? (i := 8) rfl), by decide +kernel, by decide, by decide +kernel⟩
theorem io_Arranger_makeAbove : Cond.instanceMethod m_Arranger_makeAbove.1 ∈ lw_tbl := tm_4 (List.mem_of_getElem? (i := 146) rfl)
theorem so_Arranger_makeAbove : Cond.selects m_Arranger_makeAbove.1.cls m_Arranger_makeAbove.1 m_Arranger_makeAbove.1 ∈ lw_tbl := List.mem_of_getElem? (i := 45) (by decide +kernel)
theorem ok_Arranger_makeBeside : MOK m_Arranger_makeBeside 3 := ⟨tm_4 (List.mem_of_getElem? (i := 132) rfl), tm_1 (List.mem_of_getElem? (i := 8) rfl), by decide +kernel, by decide, by decide +kernel⟩
theorem io_Arranger_makeBeside : Cond.instanceMethod m_Arranger_makeBeside.1 ∈ lw_tbl := tm_4 (List.mem_of_getElem? (i := 131) rfl)
theorem so_Arranger_makeBeside : Cond.selects m_Arranger_makeBeside.1.cls m_Arranger_makeBeside.1 m_Arranger_makeBeside.1 ∈ lw_tbl := List.mem_of_getElem? (i := 42) (by decide +kernel)
theorem ok_Arranger_makePairs : MOK m_Arranger_makePairs 3 := ⟨tm_4 (List.mem_of_getElem? (i := 124) rfl), tm_1 (List.mem_of_getElem? (i := 8) rfl), by decide +kernel, by decide, by decide +kernel⟩
theorem io_Arranger_makePairs : Cond.instanceMethod m_Arranger_makePairs.1 ∈ lw_tbl := tm_4 (List.mem_of_getElem? (i := 123) rfl)
theorem so_Arranger_makePairs : Cond.selects m_Arranger_makePairs.1.cls m_Arranger_makePairs.1 m_Arranger_makePairs.1 ∈ lw_tbl := List.mem_of_getElem? (i := 40) (by decide +kernel)
theorem ok_Arranger_makeSigns : MOK m_Arranger_makeSigns 2 := ⟨tm_4 (List.mem_of_getElem? (i := 85) rfl), tm_1 (List.mem_of_getElem? (i := 8) rfl), by decide +kernel, by decide, by decide +kernel⟩
theorem io_Arranger_makeSigns : Cond.instanceMethod m_Arranger_makeSigns.1 ∈ lw_tbl := tm_4 (List.mem_of_getElem? (i := 84) rfl)
theorem so_Arranger_makeSigns : Cond.selects m_Arranger_makeSigns.1.cls m_Arranger_makeSigns.1 m_Arranger_makeSigns.1 ∈ lw_tbl := List.mem_of_getElem? (i := 35) (by decide +kernel)
theorem ok_Arranger_makeSpan : MOK m_Arranger_makeSpan 3 := ⟨tm_4 (List.mem_of_getElem? (i := 120) rfl), tm_1 (List.mem_of_getElem? (i := 8) rfl), by decide +kernel, by decide, by decide +kernel⟩
theorem io_Arranger_makeSpan : Cond.instanceMethod m_Arranger_makeSpan.1 ∈ lw_tbl := tm_4 (List.mem_of_getElem? (i := 119) rfl)
theorem so_Arranger_makeSpan : Cond.selects m_Arranger_makeSpan.1.cls m_Arranger_makeSpan.1 m_Arranger_makeSpan.1 ∈ lw_tbl := List.mem_of_getElem? (i := 39) (by decide +kernel)
theorem ok_Arranger_partDigits : MOK m_Arranger_partDigits 1 := ⟨tm_4 (List.mem_of_getElem? (i := 143) rfl), tm_1 (List.mem_of_getElem? (i := 8) rfl), by decide +kernel, by decide, by decide +kernel⟩
theorem io_Arranger_partDigits : Cond.instanceMethod m_Arranger_partDigits.1 ∈ lw_tbl := tm_4 (List.mem_of_getElem? (i := 142) rfl)
theorem so_Arranger_partDigits : Cond.selects m_Arranger_partDigits.1.cls m_Arranger_partDigits.1 m_Arranger_partDigits.1 ∈ lw_tbl := List.mem_of_getElem? (i := 44) (by decide +kernel)
theorem ok_Arranger_partText : MOK m_Arranger_partText 1 := ⟨tm_4 (List.mem_of_getElem? (i := 136) rfl), tm_1 (List.mem_of_getElem? (i := 8) rfl), by decide +kernel, by decide, by decide +kernel⟩
theorem io_Arranger_partText : Cond.instanceMethod m_Arranger_partText.1 ∈ lw_tbl := tm_4 (List.mem_of_getElem? (i := 135) rfl)
theorem so_Arranger_partText : Cond.selects m_Arranger_partText.1.cls m_Arranger_partText.1 m_Arranger_partText.1 ∈ lw_tbl := List.mem_of_getElem? (i := 43) (by decide +kernel)
theorem ok_Arranger_spanOfSigns : MOK m_Arranger_spanOfSigns 2 := ⟨tm_4 (List.mem_of_getElem? (i := 91) rfl), tm_1 (List.mem_of_getElem? (i := 8) rfl), by decide +kernel, by decide, by decide +kernel⟩
theorem to_Arranger_spanOfSigns : Cond.static m_Arranger_spanOfSigns.1 ∈ lw_tbl := tm_4 (List.mem_of_getElem? (i := 90) rfl)
theorem ok_Arranger_waysOf : MOK m_Arranger_waysOf 1 := ⟨tm_5 (List.mem_of_getElem? (i := 145) rfl), tm_1 (List.mem_of_getElem? (i := 8) rfl), by decide +kernel, by decide, by decide +kernel⟩
theorem to_Arranger_waysOf : Cond.static m_Arranger_waysOf.1 ∈ lw_tbl := tm_5 (List.mem_of_getElem? (i := 144) rfl)
theorem ok_Arranger_write : MOK m_Arranger_write 4 := ⟨tm_4 (List.mem_of_getElem? (i := 161) rfl), tm_1 (List.mem_of_getElem? (i := 8) rfl), by decide +kernel, by decide, by decide +kernel⟩
theorem io_Arranger_write : Cond.instanceMethod m_Arranger_write.1 ∈ lw_tbl := tm_4 (List.mem_of_getElem? (i := 160) rfl)
theorem so_Arranger_write : Cond.selects m_Arranger_write.1.cls m_Arranger_write.1 m_Arranger_write.1 ∈ lw_tbl := List.mem_of_getElem? (i := 48) (by decide +kernel)
theorem ok_Draft_init : MOK m_Draft_init 0 := ⟨tm_1 (List.mem_of_getElem? (i := 79) rfl), tm_1 (List.mem_of_getElem? (i := 4) rfl), by decide +kernel, by decide, by decide +kernel⟩
theorem io_Draft_init : Cond.instanceMethod m_Draft_init.1 ∈ lw_tbl := tm_1 (List.mem_of_getElem? (i := 78) rfl)
theorem ok_Draft_change : MOK m_Draft_change 2 := ⟨tm_2 (List.mem_of_getElem? (i := 230) rfl), tm_1 (List.mem_of_getElem? (i := 4) rfl), by decide +kernel, by decide, by decide +kernel⟩
theorem io_Draft_change : Cond.instanceMethod m_Draft_change.1 ∈ lw_tbl := tm_2 (List.mem_of_getElem? (i := 228) rfl)
theorem so_Draft_change : Cond.selects m_Draft_change.1.cls m_Draft_change.1 m_Draft_change.1 ∈ lw_tbl := tm_2 (List.mem_of_getElem? (i := 229) rfl)
theorem ok_Draft_clear : MOK m_Draft_clear 0 := ⟨tm_2 (List.mem_of_getElem? (i := 202) rfl), tm_1 (List.mem_of_getElem? (i := 4) rfl), by decide +kernel, by decide, by decide +kernel⟩
theorem io_Draft_clear : Cond.instanceMethod m_Draft_clear.1 ∈ lw_tbl := tm_2 (List.mem_of_getElem? (i := 200) rfl)
theorem so_Draft_clear : Cond.selects m_Draft_clear.1.cls m_Draft_clear.1 m_Draft_clear.1 ∈ lw_tbl := tm_2 (List.mem_of_getElem? (i := 201) rfl)
theorem ok_Draft_made : MOK m_Draft_made 0 := ⟨tm_3 (List.mem_of_getElem? (i := 20) rfl), tm_1 (List.mem_of_getElem? (i := 4) rfl), by decide +kernel, by decide, by decide +kernel⟩
theorem io_Draft_made : Cond.instanceMethod m_Draft_made.1 ∈ lw_tbl := tm_3 (List.mem_of_getElem? (i := 18) rfl)
theorem so_Draft_made : Cond.selects m_Draft_made.1.cls m_Draft_made.1 m_Draft_made.1 ∈ lw_tbl := tm_3 (List.mem_of_getElem? (i := 19) rfl)
theorem ok_Draft_makeNormal : MOK m_Draft_makeNormal 0 := ⟨tm_2 (List.mem_of_getElem? (i := 239) rfl), tm_1 (List.mem_of_getElem? (i := 4) rfl), by decide +kernel, by decide, by decide +kernel⟩
theorem io_Draft_makeNormal : Cond.instanceMethod m_Draft_makeNormal.1 ∈ lw_tbl := tm_2 (List.mem_of_getElem? (i := 237) rfl)
theorem so_Draft_makeNormal : Cond.selects m_Draft_makeNormal.1.cls m_Draft_makeNormal.1 m_Draft_makeNormal.1 ∈ lw_tbl := tm_2 (List.mem_of_getElem? (i := 238) rfl)
theorem ok_Draft_openBrackets : MOK m_Draft_openBrackets 1 := ⟨tm_3 (List.mem_of_getElem? (i := 6) rfl), tm_1 (List.mem_of_getElem? (i := 4) rfl), by decide +kernel, by decide, by decide +kernel⟩
theorem io_Draft_openBrackets : Cond.instanceMethod m_Draft_openBrackets.1 ∈ lw_tbl := tm_3 (List.mem_of_getElem? (i := 5) rfl)
theorem so_Draft_openBrackets : Cond.selects m_Draft_openBrackets.1.cls m_Draft_openBrackets.1 m_Draft_openBrackets.1 ∈ lw_tbl := List.mem_of_getElem? (i := 14) (by decide +kernel)
theorem ok_Draft_put : MOK m_Draft_put 1 := ⟨tm_2 (List.mem_of_getElem? (i := 222) rfl), tm_1 (List.mem_of_getElem? (i := 4) rfl), by decide +kernel, by decide, by decide +kernel⟩
theorem io_Draft_put : Cond.instanceMethod m_Draft_put.1 ∈ lw_tbl := tm_2 (List.mem_of_getElem? (i := 220) rfl)
theorem so_Draft_put : Cond.selects m_Draft_put.1.cls m_Draft_put.1 m_Draft_put.1 ∈ lw_tbl := tm_2 (List.mem_of_getElem? (i := 221) rfl)
theorem ok_Draft_putAhead : MOK m_Draft_putAhead 2 := ⟨tm_2 (List.mem_of_getElem? (i := 226) rfl), tm_1 (List.mem_of_getElem? (i := 4) rfl), by decide +kernel, by decide, by decide +kernel⟩
theorem io_Draft_putAhead : Cond.instanceMethod m_Draft_putAhead.1 ∈ lw_tbl := tm_2 (List.mem_of_getElem? (i := 224) rfl)
theorem so_Draft_putAhead : Cond.selects m_Draft_putAhead.1.cls m_Draft_putAhead.1 m_Draft_putAhead.1 ∈ lw_tbl := tm_2 (List.mem_of_getElem? (i := 225) rfl)
theorem ok_Draft_putAll : MOK m_Draft_putAll 3 := ⟨tm_3 (List.mem_of_getElem? (i := 121) rfl), tm_1 (List.mem_of_getElem? (i := 4) rfl), by decide +kernel, by decide, by decide +kernel⟩
theorem io_Draft_putAll : Cond.instanceMethod m_Draft_putAll.1 ∈ lw_tbl := tm_3 (List.mem_of_getElem? (i := 119) rfl)
theorem so_Draft_putAll : Cond.selects m_Draft_putAll.1.cls m_Draft_putAll.1 m_Draft_putAll.1 ∈ lw_tbl := tm_3 (List.mem_of_getElem? (i := 120) rfl)
theorem ok_Draft_take : MOK m_Draft_take 1 := ⟨tm_3 (List.mem_of_getElem? (i := 112) rfl), tm_1 (List.mem_of_getElem? (i := 4) rfl), by decide +kernel, by decide, by decide +kernel⟩
theorem io_Draft_take : Cond.instanceMethod m_Draft_take.1 ∈ lw_tbl := tm_3 (List.mem_of_getElem? (i := 110) rfl)
theorem so_Draft_take : Cond.selects m_Draft_take.1.cls m_Draft_take.1 m_Draft_take.1 ∈ lw_tbl := tm_3 (List.mem_of_getElem? (i := 111) rfl)
theorem ok_Layout_init : MOK m_Layout_init 0 := ⟨tm_1 (List.mem_of_getElem? (i := 146) rfl), tm_1 (List.mem_of_getElem? (i := 6) rfl), by decide +kernel, by decide, by decide +kernel⟩
theorem io_Layout_init : Cond.instanceMethod m_Layout_init.1 ∈ lw_tbl := tm_1 (List.mem_of_getElem? (i := 145) rfl)
theorem ok_Layout_boxAbove : MOK m_Layout_boxAbove 2 := ⟨tm_5 (List.mem_of_getElem? (i := 85) rfl), tm_1 (List.mem_of_getElem? (i := 6) rfl), by decide +kernel, by decide, by decide +kernel⟩
theorem io_Layout_boxAbove : Cond.instanceMethod m_Layout_boxAbove.1 ∈ lw_tbl := tm_5 (List.mem_of_getElem? (i := 83) rfl)
theorem so_Layout_boxAbove : Cond.selects m_Layout_boxAbove.1.cls m_Layout_boxAbove.1 m_Layout_boxAbove.1 ∈ lw_tbl := tm_5 (List.mem_of_getElem? (i := 84) rfl)
theorem ok_Layout_boxBelow : MOK m_Layout_boxBelow 2 := ⟨tm_5 (List.mem_of_getElem? (i := 89) rfl), tm_1 (List.mem_of_getElem? (i := 6) rfl), by decide +kernel, by decide, by decide +kernel⟩
theorem io_Layout_boxBelow : Cond.instanceMethod m_Layout_boxBelow.1 ∈ lw_tbl := tm_5 (List.mem_of_getElem? (i := 87) rfl)
theorem so_Layout_boxBelow : Cond.selects m_Layout_boxBelow.1.cls m_Layout_boxBelow.1 m_Layout_boxBelow.1 ∈ lw_tbl := tm_5 (List.mem_of_getElem? (i := 88) rfl)
theorem ok_Layout_compareScales : MOK m_Layout_compareScales 2 := ⟨tm_5 (List.mem_of_getElem? (i := 122) rfl), tm_1 (List.mem_of_getElem? (i := 6) rfl), by decide +kernel, by decide, by decide +kernel⟩
theorem io_Layout_compareScales : Cond.instanceMethod m_Layout_compareScales.1 ∈ lw_tbl := tm_5 (List.mem_of_getElem? (i := 121) rfl)
theorem so_Layout_compareScales : Cond.selects m_Layout_compareScales.1.cls m_Layout_compareScales.1 m_Layout_compareScales.1 ∈ lw_tbl := List.mem_of_getElem? (i := 59) (by decide +kernel)
theorem ok_Layout_endAt : MOK m_Layout_endAt 1 := ⟨tm_5 (List.mem_of_getElem? (i := 0) rfl), tm_1 (List.mem_of_getElem? (i := 6) rfl), by decide +kernel, by decide, by decide +kernel⟩
theorem io_Layout_endAt : Cond.instanceMethod m_Layout_endAt.1 ∈ lw_tbl := tm_4 (List.mem_of_getElem? (i := 239) rfl)
theorem so_Layout_endAt : Cond.selects m_Layout_endAt.1.cls m_Layout_endAt.1 m_Layout_endAt.1 ∈ lw_tbl := List.mem_of_getElem? (i := 52) (by decide +kernel)
theorem ok_Layout_highAt : MOK m_Layout_highAt 1 := ⟨tm_5 (List.mem_of_getElem? (i := 9) rfl), tm_1 (List.mem_of_getElem? (i := 6) rfl), by decide +kernel, by decide, by decide +kernel⟩
theorem io_Layout_highAt : Cond.instanceMethod m_Layout_highAt.1 ∈ lw_tbl := tm_5 (List.mem_of_getElem? (i := 7) rfl)
theorem so_Layout_highAt : Cond.selects m_Layout_highAt.1.cls m_Layout_highAt.1 m_Layout_highAt.1 ∈ lw_tbl := tm_5 (List.mem_of_getElem? (i := 8) rfl)
theorem ok_Layout_lay : MOK m_Layout_lay 5 := ⟨tm_5 (List.mem_of_getElem? (i := 67) rfl), tm_1 (List.mem_of_getElem? (i := 6) rfl), by decide +kernel, by decide, by decide +kernel⟩
theorem io_Layout_lay : Cond.instanceMethod m_Layout_lay.1 ∈ lw_tbl := tm_5 (List.mem_of_getElem? (i := 66) rfl)
theorem so_Layout_lay : Cond.selects m_Layout_lay.1.cls m_Layout_lay.1 m_Layout_lay.1 ∈ lw_tbl := List.mem_of_getElem? (i := 56) (by decide +kernel)
theorem ok_Layout_measure : MOK m_Layout_measure 3 := ⟨tm_4 (List.mem_of_getElem? (i := 228) rfl), tm_1 (List.mem_of_getElem? (i := 6) rfl), by decide +kernel, by decide, by decide +kernel⟩
theorem io_Layout_measure : Cond.instanceMethod m_Layout_measure.1 ∈ lw_tbl := tm_4 (List.mem_of_getElem? (i := 226) rfl)
theorem so_Layout_measure : Cond.selects m_Layout_measure.1.cls m_Layout_measure.1 m_Layout_measure.1 ∈ lw_tbl := tm_4 (List.mem_of_getElem? (i := 227) rfl)
theorem ok_Layout_measureBoth : MOK m_Layout_measureBoth 3 := ⟨tm_4 (List.mem_of_getElem? (i := 236) rfl), tm_1 (List.mem_of_getElem? (i := 6) rfl), by decide +kernel, by decide, by decide +kernel⟩
theorem io_Layout_measureBoth : Cond.instanceMethod m_Layout_measureBoth.1 ∈ lw_tbl := tm_4 (List.mem_of_getElem? (i := 235) rfl)
theorem so_Layout_measureBoth : Cond.selects m_Layout_measureBoth.1.cls m_Layout_measureBoth.1 m_Layout_measureBoth.1 ∈ lw_tbl := List.mem_of_getElem? (i := 51) (by decide +kernel)
theorem ok_Layout_mirrorAll : MOK m_Layout_mirrorAll 1 := ⟨tm_5 (List.mem_of_getElem? (i := 81) rfl), tm_1 (List.mem_of_getElem? (i := 6) rfl), by decide +kernel, by decide, by decide +kernel⟩
theorem io_Layout_mirrorAll : Cond.instanceMethod m_Layout_mirrorAll.1 ∈ lw_tbl := tm_5 (List.mem_of_getElem? (i := 79) rfl)
theorem so_Layout_mirrorAll : Cond.selects m_Layout_mirrorAll.1.cls m_Layout_mirrorAll.1 m_Layout_mirrorAll.1 ∈ lw_tbl := tm_5 (List.mem_of_getElem? (i := 80) rfl)
theorem ok_Layout_place : MOK m_Layout_place 3 := ⟨tm_5 (List.mem_of_getElem? (i := 62) rfl), tm_1 (List.mem_of_getElem? (i := 6) rfl), by decide +kernel, by decide, by decide +kernel⟩
theorem io_Layout_place : Cond.instanceMethod m_Layout_place.1 ∈ lw_tbl := tm_5 (List.mem_of_getElem? (i := 60) rfl)
theorem so_Layout_place : Cond.selects m_Layout_place.1.cls m_Layout_place.1 m_Layout_place.1 ∈ lw_tbl := tm_5 (List.mem_of_getElem? (i := 61) rfl)
theorem ok_Layout_placeBoth : MOK m_Layout_placeBoth 2 := ⟨tm_5 (List.mem_of_getElem? (i := 71) rfl), tm_1 (List.mem_of_getElem? (i := 6) rfl), by decide +kernel, by decide, by decide +kernel⟩
theorem io_Layout_placeBoth : Cond.instanceMethod m_Layout_placeBoth.1 ∈ lw_tbl := tm_5 (List.mem_of_getElem? (i := 70) rfl)
theorem so_Layout_placeBoth : Cond.selects m_Layout_placeBoth.1.cls m_Layout_placeBoth.1 m_Layout_placeBoth.1 ∈ lw_tbl := List.mem_of_getElem? (i := 57) (by decide +kernel)
theorem ok_Layout_placeInside : MOK m_Layout_placeInside 3 := ⟨tm_5 (List.mem_of_getElem? (i := 77) rfl), tm_1 (List.mem_of_getElem? (i := 6) rfl), by decide +kernel, by decide, by decide +kernel⟩
theorem io_Layout_placeInside : Cond.instanceMethod m_Layout_placeInside.1 ∈ lw_tbl := tm_5 (List.mem_of_getElem? (i := 76) rfl)
theorem so_Layout_placeInside : Cond.selects m_Layout_placeInside.1.cls m_Layout_placeInside.1 m_Layout_placeInside.1 ∈ lw_tbl := List.mem_of_getElem? (i := 58) (by decide +kernel)
theorem ok_Layout_reaches : MOK m_Layout_reaches 4 := ⟨tm_5 (List.mem_of_getElem? (i := 101) rfl), tm_1 (List.mem_of_getElem? (i := 6) rfl), by decide +kernel, by decide, by decide +kernel⟩
theorem io_Layout_reaches : Cond.instanceMethod m_Layout_reaches.1 ∈ lw_tbl := tm_5 (List.mem_of_getElem? (i := 99) rfl)
theorem so_Layout_reaches : Cond.selects m_Layout_reaches.1.cls m_Layout_reaches.1 m_Layout_reaches.1 ∈ lw_tbl := tm_5 (List.mem_of_getElem? (i := 100) rfl)
theorem ok_Layout_smallestSigns : MOK m_Layout_smallestSigns 1 := ⟨tm_5 (List.mem_of_getElem? (i := 118) rfl), tm_1 (List.mem_of_getElem? (i := 6) rfl), by decide +kernel, by decide, by decide +kernel⟩
theorem io_Layout_smallestSigns : Cond.instanceMethod m_Layout_smallestSigns.1 ∈ lw_tbl := tm_5 (List.mem_of_getElem? (i := 116) rfl)
theorem so_Layout_smallestSigns : Cond.selects m_Layout_smallestSigns.1.cls m_Layout_smallestSigns.1 m_Layout_smallestSigns.1 ∈ lw_tbl := tm_5 (List.mem_of_getElem? (i := 117) rfl)
theorem ok_Layout_span : MOK m_Layout_span 1 := ⟨tm_5 (List.mem_of_getElem? (i := 31) rfl), tm_1 (List.mem_of_getElem? (i := 6) rfl), by decide +kernel, by decide, by decide +kernel⟩
theorem io_Layout_span : Cond.instanceMethod m_Layout_span.1 ∈ lw_tbl := tm_5 (List.mem_of_getElem? (i := 29) rfl)
theorem so_Layout_span : Cond.selects m_Layout_span.1.cls m_Layout_span.1 m_Layout_span.1 ∈ lw_tbl := tm_5 (List.mem_of_getElem? (i := 30) rfl)
theorem ok_Layout_wideAt : MOK m_Layout_wideAt 1 := ⟨tm_5 (List.mem_of_getElem? (i := 4) rfl), tm_1 (List.mem_of_getElem? (i := 6) rfl), by decide +kernel, by decide, by decide +kernel⟩
theorem io_Layout_wideAt : Cond.instanceMethod m_Layout_wideAt.1 ∈ lw_tbl := tm_5 (List.mem_of_getElem? (i := 2) rfl)
theorem so_Layout_wideAt : Cond.selects m_Layout_wideAt.1.cls m_Layout_wideAt.1 m_Layout_wideAt.1 ∈ lw_tbl := tm_5 (List.mem_of_getElem? (i := 3) rfl)
theorem ok_Line_init : MOK m_Line_init 2 := ⟨tm_3 (List.mem_of_getElem? (i := 53) rfl), tm_1 (List.mem_of_getElem? (i := 18) rfl), by decide +kernel, by decide, by decide +kernel⟩
theorem io_Line_init : Cond.instanceMethod m_Line_init.1 ∈ lw_tbl := tm_3 (List.mem_of_getElem? (i := 52) rfl)
theorem ok_Line_get : MOK m_Line_get 1 := ⟨tm_3 (List.mem_of_getElem? (i := 90) rfl), tm_1 (List.mem_of_getElem? (i := 18) rfl), by decide +kernel, by decide, by decide +kernel⟩
theorem io_Line_get : Cond.instanceMethod m_Line_get.1 ∈ lw_tbl := tm_3 (List.mem_of_getElem? (i := 88) rfl)
theorem so_Line_get : Cond.selects m_Line_get.1.cls m_Line_get.1 m_Line_get.1 ∈ lw_tbl := tm_3 (List.mem_of_getElem? (i := 89) rfl)
theorem ok_Line_has : MOK m_Line_has 1 := ⟨tm_3 (List.mem_of_getElem? (i := 94) rfl), tm_1 (List.mem_of_getElem? (i := 18) rfl), by decide +kernel, by decide, by decide +kernel⟩
theorem io_Line_has : Cond.instanceMethod m_Line_has.1 ∈ lw_tbl := tm_3 (List.mem_of_getElem? (i := 92) rfl)
theorem so_Line_has : Cond.selects m_Line_has.1.cls m_Line_has.1 m_Line_has.1 ∈ lw_tbl := tm_3 (List.mem_of_getElem? (i := 93) rfl)
theorem ok_Line_moved : MOK m_Line_moved 2 := ⟨tm_4 (List.mem_of_getElem? (i := 56) rfl), tm_1 (List.mem_of_getElem? (i := 18) rfl), by decide +kernel, by decide, by decide +kernel⟩
theorem io_Line_moved : Cond.instanceMethod m_Line_moved.1 ∈ lw_tbl := tm_4 (List.mem_of_getElem? (i := 54) rfl)
theorem so_Line_moved : Cond.selects m_Line_moved.1.cls m_Line_moved.1 m_Line_moved.1 ∈ lw_tbl := tm_4 (List.mem_of_getElem? (i := 55) rfl)
theorem ok_Line_signs : MOK m_Line_signs 0 := ⟨tm_4 (List.mem_of_getElem? (i := 215) rfl), tm_1 (List.mem_of_getElem? (i := 18) rfl), by decide +kernel, by decide, by decide +kernel⟩
theorem io_Line_signs : Cond.instanceMethod m_Line_signs.1 ∈ lw_tbl := tm_4 (List.mem_of_getElem? (i := 213) rfl)
theorem so_Line_signs : Cond.selects m_Line_signs.1.cls m_Line_signs.1 m_Line_signs.1 ∈ lw_tbl := tm_4 (List.mem_of_getElem? (i := 214) rfl)
theorem ok_Line_size : MOK m_Line_size 0 := ⟨tm_3 (List.mem_of_getElem? (i := 211) rfl), tm_1 (List.mem_of_getElem? (i := 18) rfl), by decide +kernel, by decide, by decide +kernel⟩
theorem io_Line_size : Cond.instanceMethod m_Line_size.1 ∈ lw_tbl := tm_3 (List.mem_of_getElem? (i := 209) rfl)
theorem so_Line_size : Cond.selects m_Line_size.1.cls m_Line_size.1 m_Line_size.1 ∈ lw_tbl := tm_3 (List.mem_of_getElem? (i := 210) rfl)
theorem ok_Line_timesOf : MOK m_Line_timesOf 1 := ⟨tm_4 (List.mem_of_getElem? (i := 202) rfl), tm_1 (List.mem_of_getElem? (i := 18) rfl), by decide +kernel, by decide, by decide +kernel⟩
theorem io_Line_timesOf : Cond.instanceMethod m_Line_timesOf.1 ∈ lw_tbl := tm_4 (List.mem_of_getElem? (i := 200) rfl)
theorem so_Line_timesOf : Cond.selects m_Line_timesOf.1.cls m_Line_timesOf.1 m_Line_timesOf.1 ∈ lw_tbl := tm_4 (List.mem_of_getElem? (i := 201) rfl)
theorem ok_Line_with : MOK m_Line_with 2 := ⟨tm_3 (List.mem_of_getElem? (i := 137) rfl), tm_1 (List.mem_of_getElem? (i := 18) rfl), by decide +kernel, by decide, by decide +kernel⟩
theorem io_Line_with : Cond.instanceMethod m_Line_with.1 ∈ lw_tbl := tm_3 (List.mem_of_getElem? (i := 135) rfl)
theorem so_Line_with : Cond.selects m_Line_with.1.cls m_Line_with.1 m_Line_with.1 ∈ lw_tbl := tm_3 (List.mem_of_getElem? (i := 136) rfl)
theorem ok_Line_withNext : MOK m_Line_withNext 3 := ⟨tm_3 (List.mem_of_getElem? (i := 220) rfl), tm_1 (List.mem_of_getElem? (i := 18) rfl), by decide +kernel, by decide, by decide +kernel⟩
theorem io_Line_withNext : Cond.instanceMethod m_Line_withNext.1 ∈ lw_tbl := tm_3 (List.mem_of_getElem? (i := 218) rfl)
theorem so_Line_withNext : Cond.selects m_Line_withNext.1.cls m_Line_withNext.1 m_Line_withNext.1 ∈ lw_tbl := tm_3 (List.mem_of_getElem? (i := 219) rfl)
theorem ok_Line_withoutNext : MOK m_Line_withoutNext 2 := ⟨tm_3 (List.mem_of_getElem? (i := 202) rfl), tm_1 (List.mem_of_getElem? (i := 18) rfl), by decide +kernel, by decide, by decide +kernel⟩
theorem io_Line_withoutNext : Cond.instanceMethod m_Line_withoutNext.1 ∈ lw_tbl := tm_3 (List.mem_of_getElem? (i := 200) rfl)
theorem so_Line_withoutNext : Cond.selects m_Line_withoutNext.1.cls m_Line_withoutNext.1 m_Line_withoutNext.1 ∈ lw_tbl := tm_3 (List.mem_of_getElem? (i := 201) rfl)
theorem ok_Moment_init : MOK m_Moment_init 3 := ⟨tm_1 (List.mem_of_getElem? (i := 54) rfl), tm_1 (List.mem_of_getElem? (i := 3) rfl), by decide +kernel, by decide, by decide +kernel⟩
theorem io_Moment_init : Cond.instanceMethod m_Moment_init.1 ∈ lw_tbl := tm_1 (List.mem_of_getElem? (i := 53) rfl)
theorem ok_Moment_get : MOK m_Moment_get 1 := ⟨tm_3 (List.mem_of_getElem? (i := 86) rfl), tm_1 (List.mem_of_getElem? (i := 3) rfl), by decide +kernel, by decide, by decide +kernel⟩
theorem io_Moment_get : Cond.instanceMethod m_Moment_get.1 ∈ lw_tbl := tm_3 (List.mem_of_getElem? (i := 84) rfl)
theorem so_Moment_get : Cond.selects m_Moment_get.1.cls m_Moment_get.1 m_Moment_get.1 ∈ lw_tbl := tm_3 (List.mem_of_getElem? (i := 85) rfl)
theorem ok_Moment_signs : MOK m_Moment_signs 0 := ⟨tm_5 (List.mem_of_getElem? (i := 218) rfl), tm_1 (List.mem_of_getElem? (i := 3) rfl), by decide +kernel, by decide, by decide +kernel⟩
theorem io_Moment_signs : Cond.instanceMethod m_Moment_signs.1 ∈ lw_tbl := tm_5 (List.mem_of_getElem? (i := 216) rfl)
theorem so_Moment_signs : Cond.selects m_Moment_signs.1.cls m_Moment_signs.1 m_Moment_signs.1 ∈ lw_tbl := tm_5 (List.mem_of_getElem? (i := 217) rfl)
theorem ok_Moment_squares : MOK m_Moment_squares 0 := ⟨tm_5 (List.mem_of_getElem? (i := 213) rfl), tm_1 (List.mem_of_getElem? (i := 3) rfl), by decide +kernel, by decide, by decide +kernel⟩
theorem io_Moment_squares : Cond.instanceMethod m_Moment_squares.1 ∈ lw_tbl := tm_5 (List.mem_of_getElem? (i := 211) rfl)
theorem so_Moment_squares : Cond.selects m_Moment_squares.1.cls m_Moment_squares.1 m_Moment_squares.1 ∈ lw_tbl := tm_5 (List.mem_of_getElem? (i := 212) rfl)
theorem ok_Moment_with : MOK m_Moment_with 2 := ⟨tm_3 (List.mem_of_getElem? (i := 149) rfl), tm_1 (List.mem_of_getElem? (i := 3) rfl), by decide +kernel, by decide, by decide +kernel⟩
theorem io_Moment_with : Cond.instanceMethod m_Moment_with.1 ∈ lw_tbl := tm_3 (List.mem_of_getElem? (i := 147) rfl)
theorem so_Moment_with : Cond.selects m_Moment_with.1.cls m_Moment_with.1 m_Moment_with.1 ∈ lw_tbl := tm_3 (List.mem_of_getElem? (i := 148) rfl)
theorem ok_Reader_init : MOK m_Reader_init 0 := ⟨tm_1 (List.mem_of_getElem? (i := 93) rfl), tm_1 (List.mem_of_getElem? (i := 5) rfl), by decide +kernel, by decide, by decide +kernel⟩
theorem io_Reader_init : Cond.instanceMethod m_Reader_init.1 ∈ lw_tbl := tm_1 (List.mem_of_getElem? (i := 92) rfl)
theorem ok_Reader_begin : MOK m_Reader_begin 0 := ⟨tm_2 (List.mem_of_getElem? (i := 69) rfl), tm_1 (List.mem_of_getElem? (i := 5) rfl), by decide +kernel, by decide, by decide +kernel⟩
theorem io_Reader_begin : Cond.instanceMethod m_Reader_begin.1 ∈ lw_tbl := tm_2 (List.mem_of_getElem? (i := 67) rfl)
theorem so_Reader_begin : Cond.selects m_Reader_begin.1.cls m_Reader_begin.1 m_Reader_begin.1 ∈ lw_tbl := tm_2 (List.mem_of_getElem? (i := 68) rfl)
theorem ok_Reader_byteAt : MOK m_Reader_byteAt 1 := ⟨tm_2 (List.mem_of_getElem? (i := 81) rfl), tm_1 (List.mem_of_getElem? (i := 5) rfl), by decide +kernel, by decide, by decide +kernel⟩
theorem io_Reader_byteAt : Cond.instanceMethod m_Reader_byteAt.1 ∈ lw_tbl := tm_2 (List.mem_of_getElem? (i := 80) rfl)
theorem so_Reader_byteAt : Cond.selects m_Reader_byteAt.1.cls m_Reader_byteAt.1 m_Reader_byteAt.1 ∈ lw_tbl := List.mem_of_getElem? (i := 1) (by decide +kernel)
theorem ok_Reader_isDigit : MOK m_Reader_isDigit 1 := ⟨tm_2 (List.mem_of_getElem? (i := 96) rfl), tm_1 (List.mem_of_getElem? (i := 5) rfl), by decide +kernel, by decide, by decide +kernel⟩
theorem to_Reader_isDigit : Cond.static m_Reader_isDigit.1 ∈ lw_tbl := tm_2 (List.mem_of_getElem? (i := 95) rfl)
theorem ok_Reader_isGlued : MOK m_Reader_isGlued 0 := ⟨tm_2 (List.mem_of_getElem? (i := 90) rfl), tm_1 (List.mem_of_getElem? (i := 5) rfl), by decide +kernel, by decide, by decide +kernel⟩
theorem io_Reader_isGlued : Cond.instanceMethod m_Reader_isGlued.1 ∈ lw_tbl := tm_2 (List.mem_of_getElem? (i := 89) rfl)
theorem so_Reader_isGlued : Cond.selects m_Reader_isGlued.1.cls m_Reader_isGlued.1 m_Reader_isGlued.1 ∈ lw_tbl := List.mem_of_getElem? (i := 3) (by decide +kernel)
theorem ok_Reader_isSmallLetter : MOK m_Reader_isSmallLetter 1 := ⟨tm_2 (List.mem_of_getElem? (i := 93) rfl), tm_1 (List.mem_of_getElem? (i := 5) rfl), by decide +kernel, by decide, by decide +kernel⟩
theorem to_Reader_isSmallLetter : Cond.static m_Reader_isSmallLetter.1 ∈ lw_tbl := tm_2 (List.mem_of_getElem? (i := 92) rfl)
theorem ok_Reader_keepLine : MOK m_Reader_keepLine 2 := ⟨tm_3 (List.mem_of_getElem? (i := 48) rfl), tm_1 (List.mem_of_getElem? (i := 5) rfl), by decide +kernel, by decide, by decide +kernel⟩
theorem io_Reader_keepLine : Cond.instanceMethod m_Reader_keepLine.1 ∈ lw_tbl := tm_3 (List.mem_of_getElem? (i := 47) rfl)
theorem so_Reader_keepLine : Cond.selects m_Reader_keepLine.1.cls m_Reader_keepLine.1 m_Reader_keepLine.1 ∈ lw_tbl := List.mem_of_getElem? (i := 15) (by decide +kernel)
theorem ok_Reader_next : MOK m_Reader_next 0 := ⟨tm_2 (List.mem_of_getElem? (i := 77) rfl), tm_1 (List.mem_of_getElem? (i := 5) rfl), by decide +kernel, by decide, by decide +kernel⟩
theorem io_Reader_next : Cond.instanceMethod m_Reader_next.1 ∈ lw_tbl := tm_2 (List.mem_of_getElem? (i := 76) rfl)
theorem so_Reader_next : Cond.selects m_Reader_next.1.cls m_Reader_next.1 m_Reader_next.1 ∈ lw_tbl := List.mem_of_getElem? (i := 0) (by decide +kernel)
theorem ok_Reader_nextLetter : MOK m_Reader_nextLetter 0 := ⟨tm_2 (List.mem_of_getElem? (i := 165) rfl), tm_1 (List.mem_of_getElem? (i := 5) rfl), by decide +kernel, by decide, by decide +kernel⟩
theorem io_Reader_nextLetter : Cond.instanceMethod m_Reader_nextLetter.1 ∈ lw_tbl := tm_2 (List.mem_of_getElem? (i := 164) rfl)
theorem so_Reader_nextLetter : Cond.selects m_Reader_nextLetter.1.cls m_Reader_nextLetter.1 m_Reader_nextLetter.1 ∈ lw_tbl := List.mem_of_getElem? (i := 7) (by decide +kernel)
theorem ok_Reader_readAll : MOK m_Reader_readAll 0 := ⟨tm_2 (List.mem_of_getElem? (i := 73) rfl), tm_1 (List.mem_of_getElem? (i := 5) rfl), by decide +kernel, by decide, by decide +kernel⟩
theorem io_Reader_readAll : Cond.instanceMethod m_Reader_readAll.1 ∈ lw_tbl := tm_2 (List.mem_of_getElem? (i := 71) rfl)
theorem so_Reader_readAll : Cond.selects m_Reader_readAll.1.cls m_Reader_readAll.1 m_Reader_readAll.1 ∈ lw_tbl := tm_2 (List.mem_of_getElem? (i := 72) rfl)
theorem ok_Reader_readCore : MOK m_Reader_readCore 3 := ⟨tm_2 (List.mem_of_getElem? (i := 188) rfl), tm_1 (List.mem_of_getElem? (i := 5) rfl), by decide +kernel, by decide, by decide +kernel⟩
theorem io_Reader_readCore : Cond.instanceMethod m_Reader_readCore.1 ∈ lw_tbl := tm_2 (List.mem_of_getElem? (i := 187) rfl)
theorem so_Reader_readCore : Cond.selects m_Reader_readCore.1.cls m_Reader_readCore.1 m_Reader_readCore.1 ∈ lw_tbl := List.mem_of_getElem? (i := 8) (by decide +kernel)
theorem ok_Reader_readGroup : MOK m_Reader_readGroup 2 := ⟨tm_2 (List.mem_of_getElem? (i := 206) rfl), tm_1 (List.mem_of_getElem? (i := 5) rfl), by decide +kernel, by decide, by decide +kernel⟩
theorem io_Reader_readGroup : Cond.instanceMethod m_Reader_readGroup.1 ∈ lw_tbl := tm_2 (List.mem_of_getElem? (i := 205) rfl)
theorem so_Reader_readGroup : Cond.selects m_Reader_readGroup.1.cls m_Reader_readGroup.1 m_Reader_readGroup.1 ∈ lw_tbl := List.mem_of_getElem? (i := 10) (by decide +kernel)
theorem ok_Reader_readLine : MOK m_Reader_readLine 0 := ⟨tm_2 (List.mem_of_getElem? (i := 197) rfl), tm_1 (List.mem_of_getElem? (i := 5) rfl), by decide +kernel, by decide, by decide +kernel⟩
theorem io_Reader_readLine : Cond.instanceMethod m_Reader_readLine.1 ∈ lw_tbl := tm_2 (List.mem_of_getElem? (i := 196) rfl)
theorem so_Reader_readLine : Cond.selects m_Reader_readLine.1.cls m_Reader_readLine.1 m_Reader_readLine.1 ∈ lw_tbl := List.mem_of_getElem? (i := 9) (by decide +kernel)
theorem ok_Reader_readNumber : MOK m_Reader_readNumber 2 := ⟨tm_2 (List.mem_of_getElem? (i := 152) rfl), tm_1 (List.mem_of_getElem? (i := 5) rfl), by decide +kernel, by decide, by decide +kernel⟩
theorem io_Reader_readNumber : Cond.instanceMethod m_Reader_readNumber.1 ∈ lw_tbl := tm_2 (List.mem_of_getElem? (i := 151) rfl)
theorem so_Reader_readNumber : Cond.selects m_Reader_readNumber.1.cls m_Reader_readNumber.1 m_Reader_readNumber.1 ∈ lw_tbl := List.mem_of_getElem? (i := 5) (by decide +kernel)
theorem ok_Reader_readPart : MOK m_Reader_readPart 2 := ⟨tm_2 (List.mem_of_getElem? (i := 210) rfl), tm_1 (List.mem_of_getElem? (i := 5) rfl), by decide +kernel, by decide, by decide +kernel⟩
theorem io_Reader_readPart : Cond.instanceMethod m_Reader_readPart.1 ∈ lw_tbl := tm_2 (List.mem_of_getElem? (i := 209) rfl)
theorem so_Reader_readPart : Cond.selects m_Reader_readPart.1.cls m_Reader_readPart.1 m_Reader_readPart.1 ∈ lw_tbl := List.mem_of_getElem? (i := 11) (by decide +kernel)
theorem ok_Reader_readTold : MOK m_Reader_readTold 0 := ⟨tm_2 (List.mem_of_getElem? (i := 161) rfl), tm_1 (List.mem_of_getElem? (i := 5) rfl), by decide +kernel, by decide, by decide +kernel⟩
theorem io_Reader_readTold : Cond.instanceMethod m_Reader_readTold.1 ∈ lw_tbl := tm_2 (List.mem_of_getElem? (i := 160) rfl)
theorem so_Reader_readTold : Cond.selects m_Reader_readTold.1.cls m_Reader_readTold.1 m_Reader_readTold.1 ∈ lw_tbl := List.mem_of_getElem? (i := 6) (by decide +kernel)
theorem ok_Reader_takeFour : MOK m_Reader_takeFour 1 := ⟨tm_2 (List.mem_of_getElem? (i := 57) rfl), tm_1 (List.mem_of_getElem? (i := 5) rfl), by decide +kernel, by decide, by decide +kernel⟩
theorem io_Reader_takeFour : Cond.instanceMethod m_Reader_takeFour.1 ∈ lw_tbl := tm_2 (List.mem_of_getElem? (i := 55) rfl)
theorem so_Reader_takeFour : Cond.selects m_Reader_takeFour.1.cls m_Reader_takeFour.1 m_Reader_takeFour.1 ∈ lw_tbl := tm_2 (List.mem_of_getElem? (i := 56) rfl)
theorem ok_Reader_takeMark : MOK m_Reader_takeMark 1 := ⟨tm_2 (List.mem_of_getElem? (i := 218) rfl), tm_1 (List.mem_of_getElem? (i := 5) rfl), by decide +kernel, by decide, by decide +kernel⟩
theorem io_Reader_takeMark : Cond.instanceMethod m_Reader_takeMark.1 ∈ lw_tbl := tm_2 (List.mem_of_getElem? (i := 217) rfl)
theorem so_Reader_takeMark : Cond.selects m_Reader_takeMark.1.cls m_Reader_takeMark.1 m_Reader_takeMark.1 ∈ lw_tbl := List.mem_of_getElem? (i := 13) (by decide +kernel)
theorem ok_Reader_takeOpening : MOK m_Reader_takeOpening 1 := ⟨tm_2 (List.mem_of_getElem? (i := 214) rfl), tm_1 (List.mem_of_getElem? (i := 5) rfl), by decide +kernel, by decide, by decide +kernel⟩
theorem io_Reader_takeOpening : Cond.instanceMethod m_Reader_takeOpening.1 ∈ lw_tbl := tm_2 (List.mem_of_getElem? (i := 213) rfl)
theorem so_Reader_takeOpening : Cond.selects m_Reader_takeOpening.1.cls m_Reader_takeOpening.1 m_Reader_takeOpening.1 ∈ lw_tbl := List.mem_of_getElem? (i := 12) (by decide +kernel)
theorem ok_Reader_takeWord : MOK m_Reader_takeWord 1 := ⟨tm_2 (List.mem_of_getElem? (i := 86) rfl), tm_1 (List.mem_of_getElem? (i := 5) rfl), by decide +kernel, by decide, by decide +kernel⟩
theorem io_Reader_takeWord : Cond.instanceMethod m_Reader_takeWord.1 ∈ lw_tbl := tm_2 (List.mem_of_getElem? (i := 85) rfl)
theorem so_Reader_takeWord : Cond.selects m_Reader_takeWord.1.cls m_Reader_takeWord.1 m_Reader_takeWord.1 ∈ lw_tbl := List.mem_of_getElem? (i := 2) (by decide +kernel)
theorem ok_Reader_told : MOK m_Reader_told 0 := ⟨tm_3 (List.mem_of_getElem? (i := 68) rfl), tm_1 (List.mem_of_getElem? (i := 5) rfl), by decide +kernel, by decide, by decide +kernel⟩
theorem io_Reader_told : Cond.instanceMethod m_Reader_told.1 ∈ lw_tbl := tm_3 (List.mem_of_getElem? (i := 66) rfl)
theorem so_Reader_told : Cond.selects m_Reader_told.1.cls m_Reader_told.1 m_Reader_told.1 ∈ lw_tbl := tm_3 (List.mem_of_getElem? (i := 67) rfl)
theorem ok_Reader_wordEnd : MOK m_Reader_wordEnd 0 := ⟨tm_2 (List.mem_of_getElem? (i := 100) rfl), tm_1 (List.mem_of_getElem? (i := 5) rfl), by decide +kernel, by decide, by decide +kernel⟩
theorem io_Reader_wordEnd : Cond.instanceMethod m_Reader_wordEnd.1 ∈ lw_tbl := tm_2 (List.mem_of_getElem? (i := 99) rfl)
theorem so_Reader_wordEnd : Cond.selects m_Reader_wordEnd.1.cls m_Reader_wordEnd.1 m_Reader_wordEnd.1 ∈ lw_tbl := List.mem_of_getElem? (i := 4) (by decide +kernel)
theorem ok_Speller_init : MOK m_Speller_init 0 := ⟨tm_1 (List.mem_of_getElem? (i := 179) rfl), tm_1 (List.mem_of_getElem? (i := 7) rfl), by decide +kernel, by decide, by decide +kernel⟩
theorem io_Speller_init : Cond.instanceMethod m_Speller_init.1 ∈ lw_tbl := tm_1 (List.mem_of_getElem? (i := 178) rfl)
theorem ok_Speller_begin : MOK m_Speller_begin 1 := ⟨tm_4 (List.mem_of_getElem? (i := 5) rfl), tm_1 (List.mem_of_getElem? (i := 7) rfl), by decide +kernel, by decide, by decide +kernel⟩
theorem io_Speller_begin : Cond.instanceMethod m_Speller_begin.1 ∈ lw_tbl := tm_4 (List.mem_of_getElem? (i := 3) rfl)
theorem so_Speller_begin : Cond.selects m_Speller_begin.1.cls m_Speller_begin.1 m_Speller_begin.1 ∈ lw_tbl := tm_4 (List.mem_of_getElem? (i := 4) rfl)
theorem ok_Speller_beginWord : MOK m_Speller_beginWord 0 := ⟨tm_4 (List.mem_of_getElem? (i := 25) rfl), tm_1 (List.mem_of_getElem? (i := 7) rfl), by decide +kernel, by decide, by decide +kernel⟩
theorem io_Speller_beginWord : Cond.instanceMethod m_Speller_beginWord.1 ∈ lw_tbl := tm_4 (List.mem_of_getElem? (i := 24) rfl)
theorem so_Speller_beginWord : Cond.selects m_Speller_beginWord.1.cls m_Speller_beginWord.1 m_Speller_beginWord.1 ∈ lw_tbl := List.mem_of_getElem? (i := 29) (by decide +kernel)
theorem ok_Speller_put : MOK m_Speller_put 1 := ⟨tm_4 (List.mem_of_getElem? (i := 29) rfl), tm_1 (List.mem_of_getElem? (i := 7) rfl), by decide +kernel, by decide, by decide +kernel⟩
theorem io_Speller_put : Cond.instanceMethod m_Speller_put.1 ∈ lw_tbl := tm_4 (List.mem_of_getElem? (i := 28) rfl)
theorem so_Speller_put : Cond.selects m_Speller_put.1.cls m_Speller_put.1 m_Speller_put.1 ∈ lw_tbl := List.mem_of_getElem? (i := 30) (by decide +kernel)
theorem ok_Speller_told : MOK m_Speller_told 0 := ⟨tm_5 (List.mem_of_getElem? (i := 159) rfl), tm_1 (List.mem_of_getElem? (i := 7) rfl), by decide +kernel, by decide, by decide +kernel⟩
theorem io_Speller_told : Cond.instanceMethod m_Speller_told.1 ∈ lw_tbl := tm_5 (List.mem_of_getElem? (i := 157) rfl)
theorem so_Speller_told : Cond.selects m_Speller_told.1.cls m_Speller_told.1 m_Speller_told.1 ∈ lw_tbl := tm_5 (List.mem_of_getElem? (i := 158) rfl)
theorem ok_Speller_writeAll : MOK m_Speller_writeAll 2 := ⟨tm_5 (List.mem_of_getElem? (i := 171) rfl), tm_1 (List.mem_of_getElem? (i := 7) rfl), by decide +kernel, by decide, by decide +kernel⟩
theorem io_Speller_writeAll : Cond.instanceMethod m_Speller_writeAll.1 ∈ lw_tbl := tm_5 (List.mem_of_getElem? (i := 169) rfl)
theorem so_Speller_writeAll : Cond.selects m_Speller_writeAll.1.cls m_Speller_writeAll.1 m_Speller_writeAll.1 ∈ lw_tbl := tm_5 (List.mem_of_getElem? (i := 170) rfl)
theorem ok_Speller_writeClosing : MOK m_Speller_writeClosing 1 := ⟨tm_4 (List.mem_of_getElem? (i := 44) rfl), tm_1 (List.mem_of_getElem? (i := 7) rfl), by decide +kernel, by decide, by decide +kernel⟩
theorem io_Speller_writeClosing : Cond.instanceMethod m_Speller_writeClosing.1 ∈ lw_tbl := tm_4 (List.mem_of_getElem? (i := 43) rfl)
theorem so_Speller_writeClosing : Cond.selects m_Speller_writeClosing.1.cls m_Speller_writeClosing.1 m_Speller_writeClosing.1 ∈ lw_tbl := List.mem_of_getElem? (i := 33) (by decide +kernel)
theorem ok_Speller_writeLetter : MOK m_Speller_writeLetter 1 := ⟨tm_4 (List.mem_of_getElem? (i := 21) rfl), tm_1 (List.mem_of_getElem? (i := 7) rfl), by decide +kernel, by decide, by decide +kernel⟩
theorem io_Speller_writeLetter : Cond.instanceMethod m_Speller_writeLetter.1 ∈ lw_tbl := tm_4 (List.mem_of_getElem? (i := 20) rfl)
theorem so_Speller_writeLetter : Cond.selects m_Speller_writeLetter.1.cls m_Speller_writeLetter.1 m_Speller_writeLetter.1 ∈ lw_tbl := List.mem_of_getElem? (i := 28) (by decide +kernel)
theorem ok_Speller_writeLine : MOK m_Speller_writeLine 1 := ⟨tm_5 (List.mem_of_getElem? (i := 200) rfl), tm_1 (List.mem_of_getElem? (i := 7) rfl), by decide +kernel, by decide, by decide +kernel⟩
theorem io_Speller_writeLine : Cond.instanceMethod m_Speller_writeLine.1 ∈ lw_tbl := tm_5 (List.mem_of_getElem? (i := 198) rfl)
theorem so_Speller_writeLine : Cond.selects m_Speller_writeLine.1.cls m_Speller_writeLine.1 m_Speller_writeLine.1 ∈ lw_tbl := tm_5 (List.mem_of_getElem? (i := 199) rfl)
theorem ok_Speller_writeMark : MOK m_Speller_writeMark 1 := ⟨tm_4 (List.mem_of_getElem? (i := 39) rfl), tm_1 (List.mem_of_getElem? (i := 7) rfl), by decide +kernel, by decide, by decide +kernel⟩
theorem io_Speller_writeMark : Cond.instanceMethod m_Speller_writeMark.1 ∈ lw_tbl := tm_4 (List.mem_of_getElem? (i := 38) rfl)
theorem so_Speller_writeMark : Cond.selects m_Speller_writeMark.1.cls m_Speller_writeMark.1 m_Speller_writeMark.1 ∈ lw_tbl := List.mem_of_getElem? (i := 32) (by decide +kernel)
theorem ok_Speller_writeNumber : MOK m_Speller_writeNumber 1 := ⟨tm_5 (List.mem_of_getElem? (i := 182) rfl), tm_1 (List.mem_of_getElem? (i := 7) rfl), by decide +kernel, by decide, by decide +kernel⟩
theorem io_Speller_writeNumber : Cond.instanceMethod m_Speller_writeNumber.1 ∈ lw_tbl := tm_5 (List.mem_of_getElem? (i := 181) rfl)
theorem so_Speller_writeNumber : Cond.selects m_Speller_writeNumber.1.cls m_Speller_writeNumber.1 m_Speller_writeNumber.1 ∈ lw_tbl := List.mem_of_getElem? (i := 61) (by decide +kernel)
theorem ok_Speller_writeOpening : MOK m_Speller_writeOpening 1 := ⟨tm_4 (List.mem_of_getElem? (i := 35) rfl), tm_1 (List.mem_of_getElem? (i := 7) rfl), by decide +kernel, by decide, by decide +kernel⟩
theorem io_Speller_writeOpening : Cond.instanceMethod m_Speller_writeOpening.1 ∈ lw_tbl := tm_4 (List.mem_of_getElem? (i := 34) rfl)
theorem so_Speller_writeOpening : Cond.selects m_Speller_writeOpening.1.cls m_Speller_writeOpening.1 m_Speller_writeOpening.1 ∈ lw_tbl := List.mem_of_getElem? (i := 31) (by decide +kernel)
theorem ok_Speller_writePart : MOK m_Speller_writePart 3 := ⟨tm_4 (List.mem_of_getElem? (i := 9) rfl), tm_1 (List.mem_of_getElem? (i := 7) rfl), by decide +kernel, by decide, by decide +kernel⟩
theorem io_Speller_writePart : Cond.instanceMethod m_Speller_writePart.1 ∈ lw_tbl := tm_4 (List.mem_of_getElem? (i := 8) rfl)
theorem so_Speller_writePart : Cond.selects m_Speller_writePart.1.cls m_Speller_writePart.1 m_Speller_writePart.1 ∈ lw_tbl := List.mem_of_getElem? (i := 26) (by decide +kernel)
theorem ok_Speller_writeSign : MOK m_Speller_writeSign 2 := ⟨tm_4 (List.mem_of_getElem? (i := 16) rfl), tm_1 (List.mem_of_getElem? (i := 7) rfl), by decide +kernel, by decide, by decide +kernel⟩
theorem io_Speller_writeSign : Cond.instanceMethod m_Speller_writeSign.1 ∈ lw_tbl := tm_4 (List.mem_of_getElem? (i := 15) rfl)
theorem so_Speller_writeSign : Cond.selects m_Speller_writeSign.1.cls m_Speller_writeSign.1 m_Speller_writeSign.1 ∈ lw_tbl := List.mem_of_getElem? (i := 27) (by decide +kernel)
theorem ok_Speller_writeTold : MOK m_Speller_writeTold 2 := ⟨tm_5 (List.mem_of_getElem? (i := 188) rfl), tm_1 (List.mem_of_getElem? (i := 7) rfl), by decide +kernel, by decide, by decide +kernel⟩
theorem io_Speller_writeTold : Cond.instanceMethod m_Speller_writeTold.1 ∈ lw_tbl := tm_5 (List.mem_of_getElem? (i := 187) rfl)
theorem so_Speller_writeTold : Cond.selects m_Speller_writeTold.1.cls m_Speller_writeTold.1 m_Speller_writeTold.1 ∈ lw_tbl := List.mem_of_getElem? (i := 62) (by decide +kernel)
theorem ok_Speller_writeWord : MOK m_Speller_writeWord 1 := ⟨tm_5 (List.mem_of_getElem? (i := 176) rfl), tm_1 (List.mem_of_getElem? (i := 7) rfl), by decide +kernel, by decide, by decide +kernel⟩
theorem io_Speller_writeWord : Cond.instanceMethod m_Speller_writeWord.1 ∈ lw_tbl := tm_5 (List.mem_of_getElem? (i := 175) rfl)
theorem so_Speller_writeWord : Cond.selects m_Speller_writeWord.1.cls m_Speller_writeWord.1 m_Speller_writeWord.1 ∈ lw_tbl := List.mem_of_getElem? (i := 60) (by decide +kernel)
theorem ok_Sq_init : MOK m_Sq_init 1 := ⟨tm_3 (List.mem_of_getElem? (i := 39) rfl), tm_1 (List.mem_of_getElem? (i := 15) rfl), by decide +kernel, by decide, by decide +kernel⟩
theorem io_Sq_init : Cond.instanceMethod m_Sq_init.1 ∈ lw_tbl := tm_3 (List.mem_of_getElem? (i := 38) rfl)
theorem ok_Sq_endOf : MOK m_Sq_endOf 1 := ⟨tm_3 (List.mem_of_getElem? (i := 172) rfl), tm_1 (List.mem_of_getElem? (i := 15) rfl), by decide +kernel, by decide, by decide +kernel⟩
theorem io_Sq_endOf : Cond.instanceMethod m_Sq_endOf.1 ∈ lw_tbl := tm_3 (List.mem_of_getElem? (i := 170) rfl)
theorem so_Sq_endOf : Cond.selects m_Sq_endOf.1.cls m_Sq_endOf.1 m_Sq_endOf.1 ∈ lw_tbl := tm_3 (List.mem_of_getElem? (i := 171) rfl)
theorem ok_Sq_holderOf : MOK m_Sq_holderOf 1 := ⟨tm_3 (List.mem_of_getElem? (i := 166) rfl), tm_1 (List.mem_of_getElem? (i := 15) rfl), by decide +kernel, by decide, by decide +kernel⟩
theorem io_Sq_holderOf : Cond.instanceMethod m_Sq_holderOf.1 ∈ lw_tbl := tm_3 (List.mem_of_getElem? (i := 164) rfl)
theorem so_Sq_holderOf : Cond.selects m_Sq_holderOf.1.cls m_Sq_holderOf.1 m_Sq_holderOf.1 ∈ lw_tbl := tm_3 (List.mem_of_getElem? (i := 165) rfl)
theorem ok_Sq_isLike : MOK m_Sq_isLike 1 := ⟨tm_4 (List.mem_of_getElem? (i := 168) rfl), tm_1 (List.mem_of_getElem? (i := 15) rfl), by decide +kernel, by decide, by decide +kernel⟩
theorem io_Sq_isLike : Cond.instanceMethod m_Sq_isLike.1 ∈ lw_tbl := tm_4 (List.mem_of_getElem? (i := 166) rfl)
theorem so_Sq_isLike : Cond.selects m_Sq_isLike.1.cls m_Sq_isLike.1 m_Sq_isLike.1 ∈ lw_tbl := tm_4 (List.mem_of_getElem? (i := 167) rfl)
theorem ok_Sq_length : MOK m_Sq_length 0 := ⟨tm_3 (List.mem_of_getElem? (i := 117) rfl), tm_1 (List.mem_of_getElem? (i := 15) rfl), by decide +kernel, by decide, by decide +kernel⟩
theorem io_Sq_length : Cond.instanceMethod m_Sq_length.1 ∈ lw_tbl := tm_3 (List.mem_of_getElem? (i := 115) rfl)
theorem so_Sq_length : Cond.selects m_Sq_length.1.cls m_Sq_length.1 m_Sq_length.1 ∈ lw_tbl := tm_3 (List.mem_of_getElem? (i := 116) rfl)
theorem ok_Sq_linkPlace : MOK m_Sq_linkPlace 3 := ⟨tm_3 (List.mem_of_getElem? (i := 233) rfl), tm_1 (List.mem_of_getElem? (i := 15) rfl), by decide +kernel, by decide, by decide +kernel⟩
theorem io_Sq_linkPlace : Cond.instanceMethod m_Sq_linkPlace.1 ∈ lw_tbl := tm_3 (List.mem_of_getElem? (i := 231) rfl)
theorem so_Sq_linkPlace : Cond.selects m_Sq_linkPlace.1.cls m_Sq_linkPlace.1 m_Sq_linkPlace.1 ∈ lw_tbl := tm_3 (List.mem_of_getElem? (i := 232) rfl)
theorem ok_Sq_links : MOK m_Sq_links 2 := ⟨tm_3 (List.mem_of_getElem? (i := 228) rfl), tm_1 (List.mem_of_getElem? (i := 15) rfl), by decide +kernel, by decide, by decide +kernel⟩
theorem io_Sq_links : Cond.instanceMethod m_Sq_links.1 ∈ lw_tbl := tm_3 (List.mem_of_getElem? (i := 226) rfl)
theorem so_Sq_links : Cond.selects m_Sq_links.1.cls m_Sq_links.1 m_Sq_links.1 ∈ lw_tbl := tm_3 (List.mem_of_getElem? (i := 227) rfl)
theorem ok_Sq_numberAt : MOK m_Sq_numberAt 1 := ⟨tm_3 (List.mem_of_getElem? (i := 194) rfl), tm_1 (List.mem_of_getElem? (i := 15) rfl), by decide +kernel, by decide, by decide +kernel⟩
theorem io_Sq_numberAt : Cond.instanceMethod m_Sq_numberAt.1 ∈ lw_tbl := tm_3 (List.mem_of_getElem? (i := 192) rfl)
theorem so_Sq_numberAt : Cond.selects m_Sq_numberAt.1.cls m_Sq_numberAt.1 m_Sq_numberAt.1 ∈ lw_tbl := tm_3 (List.mem_of_getElem? (i := 193) rfl)
theorem ok_Sq_outerSigns : MOK m_Sq_outerSigns 0 := ⟨tm_4 (List.mem_of_getElem? (i := 73) rfl), tm_1 (List.mem_of_getElem? (i := 15) rfl), by decide +kernel, by decide, by decide +kernel⟩
theorem io_Sq_outerSigns : Cond.instanceMethod m_Sq_outerSigns.1 ∈ lw_tbl := tm_4 (List.mem_of_getElem? (i := 71) rfl)
theorem so_Sq_outerSigns : Cond.selects m_Sq_outerSigns.1.cls m_Sq_outerSigns.1 m_Sq_outerSigns.1 ∈ lw_tbl := tm_4 (List.mem_of_getElem? (i := 72) rfl)
theorem ok_Sq_placeOf : MOK m_Sq_placeOf 1 := ⟨tm_3 (List.mem_of_getElem? (i := 99) rfl), tm_1 (List.mem_of_getElem? (i := 15) rfl), by decide +kernel, by decide, by decide +kernel⟩
theorem io_Sq_placeOf : Cond.instanceMethod m_Sq_placeOf.1 ∈ lw_tbl := tm_3 (List.mem_of_getElem? (i := 97) rfl)
theorem so_Sq_placeOf : Cond.selects m_Sq_placeOf.1.cls m_Sq_placeOf.1 m_Sq_placeOf.1 ∈ lw_tbl := tm_3 (List.mem_of_getElem? (i := 98) rfl)
theorem ok_Sq_signs : MOK m_Sq_signs 0 := ⟨tm_3 (List.mem_of_getElem? (i := 190) rfl), tm_1 (List.mem_of_getElem? (i := 15) rfl), by decide +kernel, by decide, by decide +kernel⟩
theorem io_Sq_signs : Cond.instanceMethod m_Sq_signs.1 ∈ lw_tbl := tm_3 (List.mem_of_getElem? (i := 188) rfl)
theorem so_Sq_signs : Cond.selects m_Sq_signs.1.cls m_Sq_signs.1 m_Sq_signs.1 ∈ lw_tbl := tm_3 (List.mem_of_getElem? (i := 189) rfl)
theorem ok_Sq_symbol : MOK m_Sq_symbol 1 := ⟨tm_3 (List.mem_of_getElem? (i := 104) rfl), tm_1 (List.mem_of_getElem? (i := 15) rfl), by decide +kernel, by decide, by decide +kernel⟩
theorem io_Sq_symbol : Cond.instanceMethod m_Sq_symbol.1 ∈ lw_tbl := tm_3 (List.mem_of_getElem? (i := 102) rfl)
theorem so_Sq_symbol : Cond.selects m_Sq_symbol.1.cls m_Sq_symbol.1 m_Sq_symbol.1 ∈ lw_tbl := tm_3 (List.mem_of_getElem? (i := 103) rfl)
theorem ok_Sq_timesOf : MOK m_Sq_timesOf 1 := ⟨tm_4 (List.mem_of_getElem? (i := 206) rfl), tm_1 (List.mem_of_getElem? (i := 15) rfl), by decide +kernel, by decide, by decide +kernel⟩
theorem io_Sq_timesOf : Cond.instanceMethod m_Sq_timesOf.1 ∈ lw_tbl := tm_4 (List.mem_of_getElem? (i := 204) rfl)
theorem so_Sq_timesOf : Cond.selects m_Sq_timesOf.1.cls m_Sq_timesOf.1 m_Sq_timesOf.1 ∈ lw_tbl := tm_4 (List.mem_of_getElem? (i := 205) rfl)
theorem ok_Table_init : MOK m_Table_init 0 := ⟨tm_1 (List.mem_of_getElem? (i := 32) rfl), tm_1 (List.mem_of_getElem? (i := 2) rfl), by decide +kernel, by decide, by decide +kernel⟩
theorem io_Table_init : Cond.instanceMethod m_Table_init.1 ∈ lw_tbl := tm_1 (List.mem_of_getElem? (i := 31) rfl)
theorem ok_Table_coreHighOf : MOK m_Table_coreHighOf 1 := ⟨tm_4 (List.mem_of_getElem? (i := 194) rfl), tm_1 (List.mem_of_getElem? (i := 2) rfl), by decide +kernel, by decide, by decide +kernel⟩
theorem io_Table_coreHighOf : Cond.instanceMethod m_Table_coreHighOf.1 ∈ lw_tbl := tm_4 (List.mem_of_getElem? (i := 192) rfl)
theorem so_Table_coreHighOf : Cond.selects m_Table_coreHighOf.1.cls m_Table_coreHighOf.1 m_Table_coreHighOf.1 ∈ lw_tbl := tm_4 (List.mem_of_getElem? (i := 193) rfl)
theorem ok_Table_coreWideOf : MOK m_Table_coreWideOf 1 := ⟨tm_4 (List.mem_of_getElem? (i := 190) rfl), tm_1 (List.mem_of_getElem? (i := 2) rfl), by decide +kernel, by decide, by decide +kernel⟩
theorem io_Table_coreWideOf : Cond.instanceMethod m_Table_coreWideOf.1 ∈ lw_tbl := tm_4 (List.mem_of_getElem? (i := 188) rfl)
theorem so_Table_coreWideOf : Cond.selects m_Table_coreWideOf.1.cls m_Table_coreWideOf.1 m_Table_coreWideOf.1 ∈ lw_tbl := tm_4 (List.mem_of_getElem? (i := 189) rfl)
theorem ok_Table_cores : MOK m_Table_cores 0 := ⟨tm_5 (List.mem_of_getElem? (i := 224) rfl), tm_1 (List.mem_of_getElem? (i := 2) rfl), by decide +kernel, by decide, by decide +kernel⟩
theorem io_Table_cores : Cond.instanceMethod m_Table_cores.1 ∈ lw_tbl := tm_5 (List.mem_of_getElem? (i := 222) rfl)
theorem so_Table_cores : Cond.selects m_Table_cores.1.cls m_Table_cores.1 m_Table_cores.1 ∈ lw_tbl := tm_5 (List.mem_of_getElem? (i := 223) rfl)
theorem ok_Table_filled : MOK m_Table_filled 1 := ⟨tm_2 (List.mem_of_getElem? (i := 179) rfl), tm_1 (List.mem_of_getElem? (i := 2) rfl), by decide +kernel, by decide, by decide +kernel⟩
theorem to_Table_filled : Cond.static m_Table_filled.1 ∈ lw_tbl := tm_2 (List.mem_of_getElem? (i := 178) rfl)
theorem ok_Table_has : MOK m_Table_has 1 := ⟨tm_2 (List.mem_of_getElem? (i := 169) rfl), tm_1 (List.mem_of_getElem? (i := 2) rfl), by decide +kernel, by decide, by decide +kernel⟩
theorem io_Table_has : Cond.instanceMethod m_Table_has.1 ∈ lw_tbl := tm_2 (List.mem_of_getElem? (i := 167) rfl)
theorem so_Table_has : Cond.selects m_Table_has.1.cls m_Table_has.1 m_Table_has.1 ∈ lw_tbl := tm_2 (List.mem_of_getElem? (i := 168) rfl)
theorem ok_Table_hasCore : MOK m_Table_hasCore 1 := ⟨tm_2 (List.mem_of_getElem? (i := 234) rfl), tm_1 (List.mem_of_getElem? (i := 2) rfl), by decide +kernel, by decide, by decide +kernel⟩
theorem io_Table_hasCore : Cond.instanceMethod m_Table_hasCore.1 ∈ lw_tbl := tm_2 (List.mem_of_getElem? (i := 232) rfl)
theorem so_Table_hasCore : Cond.selects m_Table_hasCore.1.cls m_Table_hasCore.1 m_Table_hasCore.1 ∈ lw_tbl := tm_2 (List.mem_of_getElem? (i := 233) rfl)
theorem ok_Table_highOf : MOK m_Table_highOf 1 := ⟨tm_4 (List.mem_of_getElem? (i := 106) rfl), tm_1 (List.mem_of_getElem? (i := 2) rfl), by decide +kernel, by decide, by decide +kernel⟩
theorem io_Table_highOf : Cond.instanceMethod m_Table_highOf.1 ∈ lw_tbl := tm_4 (List.mem_of_getElem? (i := 104) rfl)
theorem so_Table_highOf : Cond.selects m_Table_highOf.1.cls m_Table_highOf.1 m_Table_highOf.1 ∈ lw_tbl := tm_4 (List.mem_of_getElem? (i := 105) rfl)
theorem ok_Table_sizeIn : MOK m_Table_sizeIn 2 := ⟨tm_2 (List.mem_of_getElem? (i := 172) rfl), tm_1 (List.mem_of_getElem? (i := 2) rfl), by decide +kernel, by decide, by decide +kernel⟩
theorem to_Table_sizeIn : Cond.static m_Table_sizeIn.1 ∈ lw_tbl := tm_2 (List.mem_of_getElem? (i := 171) rfl)
theorem ok_Table_tell : MOK m_Table_tell 3 := ⟨tm_2 (List.mem_of_getElem? (i := 183) rfl), tm_1 (List.mem_of_getElem? (i := 2) rfl), by decide +kernel, by decide, by decide +kernel⟩
theorem io_Table_tell : Cond.instanceMethod m_Table_tell.1 ∈ lw_tbl := tm_2 (List.mem_of_getElem? (i := 181) rfl)
theorem so_Table_tell : Cond.selects m_Table_tell.1.cls m_Table_tell.1 m_Table_tell.1 ∈ lw_tbl := tm_2 (List.mem_of_getElem? (i := 182) rfl)
theorem ok_Table_tellCore : MOK m_Table_tellCore 3 := ⟨tm_2 (List.mem_of_getElem? (i := 192) rfl), tm_1 (List.mem_of_getElem? (i := 2) rfl), by decide +kernel, by decide, by decide +kernel⟩
theorem io_Table_tellCore : Cond.instanceMethod m_Table_tellCore.1 ∈ lw_tbl := tm_2 (List.mem_of_getElem? (i := 190) rfl)
theorem so_Table_tellCore : Cond.selects m_Table_tellCore.1.cls m_Table_tellCore.1 m_Table_tellCore.1 ∈ lw_tbl := tm_2 (List.mem_of_getElem? (i := 191) rfl)
theorem ok_Table_told : MOK m_Table_told 0 := ⟨tm_2 (List.mem_of_getElem? (i := 176) rfl), tm_1 (List.mem_of_getElem? (i := 2) rfl), by decide +kernel, by decide, by decide +kernel⟩
theorem io_Table_told : Cond.instanceMethod m_Table_told.1 ∈ lw_tbl := tm_2 (List.mem_of_getElem? (i := 174) rfl)
theorem so_Table_told : Cond.selects m_Table_told.1.cls m_Table_told.1 m_Table_told.1 ∈ lw_tbl := tm_2 (List.mem_of_getElem? (i := 175) rfl)
theorem ok_Table_wideOf : MOK m_Table_wideOf 1 := ⟨tm_4 (List.mem_of_getElem? (i := 102) rfl), tm_1 (List.mem_of_getElem? (i := 2) rfl), by decide +kernel, by decide, by decide +kernel⟩
theorem io_Table_wideOf : Cond.instanceMethod m_Table_wideOf.1 ∈ lw_tbl := tm_4 (List.mem_of_getElem? (i := 100) rfl)
theorem so_Table_wideOf : Cond.selects m_Table_wideOf.1.cls m_Table_wideOf.1 m_Table_wideOf.1 ∈ lw_tbl := tm_4 (List.mem_of_getElem? (i := 101) rfl)
theorem ok_M_adds : MOK m_M_adds 1 := ⟨tm_7 (List.mem_of_getElem? (i := 129) rfl), tm_1 (List.mem_of_getElem? (i := 9) rfl), by decide +kernel, by decide, by decide +kernel⟩
theorem io_M_adds : Cond.instanceMethod m_M_adds.1 ∈ lw_tbl := tm_7 (List.mem_of_getElem? (i := 128) rfl)
theorem so_M_adds : Cond.selects m_M_adds.1.cls m_M_adds.1 m_M_adds.1 ∈ lw_tbl := List.mem_of_getElem? (i := 85) (by decide +kernel)
theorem ok_M_addsAll : MOK m_M_addsAll 3 := ⟨tm_7 (List.mem_of_getElem? (i := 125) rfl), tm_1 (List.mem_of_getElem? (i := 9) rfl), by decide +kernel, by decide, by decide +kernel⟩
theorem io_M_addsAll : Cond.instanceMethod m_M_addsAll.1 ∈ lw_tbl := tm_7 (List.mem_of_getElem? (i := 124) rfl)
theorem so_M_addsAll : Cond.selects m_M_addsAll.1.cls m_M_addsAll.1 m_M_addsAll.1 ∈ lw_tbl := List.mem_of_getElem? (i := 84) (by decide +kernel)
theorem ok_M_addsForm : MOK m_M_addsForm 5 := ⟨tm_8 (List.mem_of_getElem? (i := 26) rfl), tm_1 (List.mem_of_getElem? (i := 9) rfl), by decide +kernel, by decide, by decide +kernel⟩
theorem io_M_addsForm : Cond.instanceMethod m_M_addsForm.1 ∈ lw_tbl := tm_8 (List.mem_of_getElem? (i := 25) rfl)
theorem so_M_addsForm : Cond.selects m_M_addsForm.1.cls m_M_addsForm.1 m_M_addsForm.1 ∈ lw_tbl := List.mem_of_getElem? (i := 105) (by decide +kernel)
theorem ok_M_appends : MOK m_M_appends 2 := ⟨tm_8 (List.mem_of_getElem? (i := 182) rfl), tm_1 (List.mem_of_getElem? (i := 9) rfl), by decide +kernel, by decide, by decide +kernel⟩
theorem io_M_appends : Cond.instanceMethod m_M_appends.1 ∈ lw_tbl := tm_8 (List.mem_of_getElem? (i := 181) rfl)
theorem so_M_appends : Cond.selects m_M_appends.1.cls m_M_appends.1 m_M_appends.1 ∈ lw_tbl := List.mem_of_getElem? (i := 130) (by decide +kernel)
theorem ok_M_around : MOK m_M_around 3 := ⟨tm_7 (List.mem_of_getElem? (i := 175) rfl), tm_1 (List.mem_of_getElem? (i := 9) rfl), by decide +kernel, by decide, by decide +kernel⟩
theorem to_M_around : Cond.static m_M_around.1 ∈ lw_tbl := tm_7 (List.mem_of_getElem? (i := 174) rfl)
theorem ok_M_becomes : MOK m_M_becomes 2 := ⟨tm_7 (List.mem_of_getElem? (i := 198) rfl), tm_1 (List.mem_of_getElem? (i := 9) rfl), by decide +kernel, by decide, by decide +kernel⟩
theorem io_M_becomes : Cond.instanceMethod m_M_becomes.1 ∈ lw_tbl := tm_7 (List.mem_of_getElem? (i := 197) rfl)
theorem so_M_becomes : Cond.selects m_M_becomes.1.cls m_M_becomes.1 m_M_becomes.1 ∈ lw_tbl := List.mem_of_getElem? (i := 92) (by decide +kernel)
theorem ok_M_begins : MOK m_M_begins 5 := ⟨tm_7 (List.mem_of_getElem? (i := 41) rfl), tm_1 (List.mem_of_getElem? (i := 9) rfl), by decide +kernel, by decide, by decide +kernel⟩
theorem io_M_begins : Cond.instanceMethod m_M_begins.1 ∈ lw_tbl := tm_7 (List.mem_of_getElem? (i := 40) rfl)
theorem so_M_begins : Cond.selects m_M_begins.1.cls m_M_begins.1 m_M_begins.1 ∈ lw_tbl := List.mem_of_getElem? (i := 73) (by decide +kernel)
theorem ok_M_beginsPart : MOK m_M_beginsPart 0 := ⟨tm_8 (List.mem_of_getElem? (i := 174) rfl), tm_1 (List.mem_of_getElem? (i := 9) rfl), by decide +kernel, by decide, by decide +kernel⟩
theorem io_M_beginsPart : Cond.instanceMethod m_M_beginsPart.1 ∈ lw_tbl := tm_8 (List.mem_of_getElem? (i := 173) rfl)
theorem so_M_beginsPart : Cond.selects m_M_beginsPart.1.cls m_M_beginsPart.1 m_M_beginsPart.1 ∈ lw_tbl := List.mem_of_getElem? (i := 128) (by decide +kernel)
theorem ok_M_boxOf : MOK m_M_boxOf 3 := ⟨tm_7 (List.mem_of_getElem? (i := 57) rfl), tm_1 (List.mem_of_getElem? (i := 9) rfl), by decide +kernel, by decide, by decide +kernel⟩
theorem io_M_boxOf : Cond.instanceMethod m_M_boxOf.1 ∈ lw_tbl := tm_7 (List.mem_of_getElem? (i := 56) rfl)
theorem so_M_boxOf : Cond.selects m_M_boxOf.1.cls m_M_boxOf.1 m_M_boxOf.1 ∈ lw_tbl := List.mem_of_getElem? (i := 77) (by decide +kernel)
theorem ok_M_bracketsInText : MOK m_M_bracketsInText 0 := ⟨tm_8 (List.mem_of_getElem? (i := 46) rfl), tm_1 (List.mem_of_getElem? (i := 9) rfl), by decide +kernel, by decide, by decide +kernel⟩
theorem io_M_bracketsInText : Cond.instanceMethod m_M_bracketsInText.1 ∈ lw_tbl := tm_8 (List.mem_of_getElem? (i := 45) rfl)
theorem so_M_bracketsInText : Cond.selects m_M_bracketsInText.1.cls m_M_bracketsInText.1 m_M_bracketsInText.1 ∈ lw_tbl := List.mem_of_getElem? (i := 110) (by decide +kernel)
theorem ok_M_common : MOK m_M_common 2 := ⟨tm_7 (List.mem_of_getElem? (i := 36) rfl), tm_1 (List.mem_of_getElem? (i := 9) rfl), by decide +kernel, by decide, by decide +kernel⟩
theorem to_M_common : Cond.static m_M_common.1 ∈ lw_tbl := tm_7 (List.mem_of_getElem? (i := 35) rfl)
theorem ok_M_compares : MOK m_M_compares 0 := ⟨tm_8 (List.mem_of_getElem? (i := 42) rfl), tm_1 (List.mem_of_getElem? (i := 9) rfl), by decide +kernel, by decide, by decide +kernel⟩
theorem io_M_compares : Cond.instanceMethod m_M_compares.1 ∈ lw_tbl := tm_8 (List.mem_of_getElem? (i := 41) rfl)
theorem so_M_compares : Cond.selects m_M_compares.1.cls m_M_compares.1 m_M_compares.1 ∈ lw_tbl := List.mem_of_getElem? (i := 109) (by decide +kernel)
theorem ok_M_deepIn : MOK m_M_deepIn 3 := ⟨tm_7 (List.mem_of_getElem? (i := 178) rfl), tm_1 (List.mem_of_getElem? (i := 9) rfl), by decide +kernel, by decide, by decide +kernel⟩
theorem to_M_deepIn : Cond.static m_M_deepIn.1 ∈ lw_tbl := tm_7 (List.mem_of_getElem? (i := 177) rfl)
theorem ok_M_deepInText : MOK m_M_deepInText 0 := ⟨tm_8 (List.mem_of_getElem? (i := 90) rfl), tm_1 (List.mem_of_getElem? (i := 9) rfl), by decide +kernel, by decide, by decide +kernel⟩
theorem io_M_deepInText : Cond.instanceMethod m_M_deepInText.1 ∈ lw_tbl := tm_8 (List.mem_of_getElem? (i := 89) rfl)
theorem so_M_deepInText : Cond.selects m_M_deepInText.1.cls m_M_deepInText.1 m_M_deepInText.1 ∈ lw_tbl := List.mem_of_getElem? (i := 114) (by decide +kernel)
theorem ok_M_endOf : MOK m_M_endOf 2 := ⟨tm_7 (List.mem_of_getElem? (i := 121) rfl), tm_1 (List.mem_of_getElem? (i := 9) rfl), by decide +kernel, by decide, by decide +kernel⟩
theorem to_M_endOf : Cond.static m_M_endOf.1 ∈ lw_tbl := tm_7 (List.mem_of_getElem? (i := 120) rfl)
theorem ok_M_endsGroup : MOK m_M_endsGroup 0 := ⟨tm_8 (List.mem_of_getElem? (i := 193) rfl), tm_1 (List.mem_of_getElem? (i := 9) rfl), by decide +kernel, by decide, by decide +kernel⟩
theorem io_M_endsGroup : Cond.instanceMethod m_M_endsGroup.1 ∈ lw_tbl := tm_8 (List.mem_of_getElem? (i := 192) rfl)
theorem so_M_endsGroup : Cond.selects m_M_endsGroup.1.cls m_M_endsGroup.1 m_M_endsGroup.1 ∈ lw_tbl := List.mem_of_getElem? (i := 132) (by decide +kernel)
theorem ok_M_endsPart : MOK m_M_endsPart 1 := ⟨tm_8 (List.mem_of_getElem? (i := 178) rfl), tm_1 (List.mem_of_getElem? (i := 9) rfl), by decide +kernel, by decide, by decide +kernel⟩
theorem io_M_endsPart : Cond.instanceMethod m_M_endsPart.1 ∈ lw_tbl := tm_8 (List.mem_of_getElem? (i := 177) rfl)
theorem so_M_endsPart : Cond.selects m_M_endsPart.1.cls m_M_endsPart.1 m_M_endsPart.1 ∈ lw_tbl := List.mem_of_getElem? (i := 129) (by decide +kernel)
theorem ok_M_endsRow : MOK m_M_endsRow 0 := ⟨tm_8 (List.mem_of_getElem? (i := 186) rfl), tm_1 (List.mem_of_getElem? (i := 9) rfl), by decide +kernel, by decide, by decide +kernel⟩
theorem io_M_endsRow : Cond.instanceMethod m_M_endsRow.1 ∈ lw_tbl := tm_8 (List.mem_of_getElem? (i := 185) rfl)
theorem so_M_endsRow : Cond.selects m_M_endsRow.1.cls m_M_endsRow.1 m_M_endsRow.1 ∈ lw_tbl := List.mem_of_getElem? (i := 131) (by decide +kernel)
theorem ok_M_flattens : MOK m_M_flattens 1 := ⟨tm_8 (List.mem_of_getElem? (i := 197) rfl), tm_1 (List.mem_of_getElem? (i := 9) rfl), by decide +kernel, by decide, by decide +kernel⟩
theorem io_M_flattens : Cond.instanceMethod m_M_flattens.1 ∈ lw_tbl := tm_8 (List.mem_of_getElem? (i := 196) rfl)
theorem so_M_flattens : Cond.selects m_M_flattens.1.cls m_M_flattens.1 m_M_flattens.1 ∈ lw_tbl := List.mem_of_getElem? (i := 133) (by decide +kernel)
theorem ok_M_forms : MOK m_M_forms 2 := ⟨tm_8 (List.mem_of_getElem? (i := 38) rfl), tm_1 (List.mem_of_getElem? (i := 9) rfl), by decide +kernel, by decide, by decide +kernel⟩
theorem io_M_forms : Cond.instanceMethod m_M_forms.1 ∈ lw_tbl := tm_8 (List.mem_of_getElem? (i := 37) rfl)
theorem so_M_forms : Cond.selects m_M_forms.1.cls m_M_forms.1 m_M_forms.1 ∈ lw_tbl := List.mem_of_getElem? (i := 108) (by decide +kernel)
theorem ok_M_goesInside : MOK m_M_goesInside 1 := ⟨tm_7 (List.mem_of_getElem? (i := 49) rfl), tm_1 (List.mem_of_getElem? (i := 9) rfl), by decide +kernel, by decide, by decide +kernel⟩
theorem io_M_goesInside : Cond.instanceMethod m_M_goesInside.1 ∈ lw_tbl := tm_7 (List.mem_of_getElem? (i := 48) rfl)
theorem so_M_goesInside : Cond.selects m_M_goesInside.1.cls m_M_goesInside.1 m_M_goesInside.1 ∈ lw_tbl := List.mem_of_getElem? (i := 75) (by decide +kernel)
theorem ok_M_goesOn : MOK m_M_goesOn 0 := ⟨tm_8 (List.mem_of_getElem? (i := 122) rfl), tm_1 (List.mem_of_getElem? (i := 9) rfl), by decide +kernel, by decide, by decide +kernel⟩
theorem io_M_goesOn : Cond.instanceMethod m_M_goesOn.1 ∈ lw_tbl := tm_8 (List.mem_of_getElem? (i := 121) rfl)
theorem so_M_goesOn : Cond.selects m_M_goesOn.1.cls m_M_goesOn.1 m_M_goesOn.1 ∈ lw_tbl := List.mem_of_getElem? (i := 115) (by decide +kernel)
theorem ok_M_greatest : MOK m_M_greatest 0 := ⟨tm_7 (List.mem_of_getElem? (i := 19) rfl), tm_1 (List.mem_of_getElem? (i := 9) rfl), by decide +kernel, by decide, by decide +kernel⟩
theorem io_M_greatest : Cond.instanceMethod m_M_greatest.1 ∈ lw_tbl := tm_7 (List.mem_of_getElem? (i := 18) rfl)
theorem so_M_greatest : Cond.selects m_M_greatest.1.cls m_M_greatest.1 m_M_greatest.1 ∈ lw_tbl := List.mem_of_getElem? (i := 70) (by decide +kernel)
theorem ok_M_here : MOK m_M_here 0 := ⟨tm_8 (List.mem_of_getElem? (i := 126) rfl), tm_1 (List.mem_of_getElem? (i := 9) rfl), by decide +kernel, by decide, by decide +kernel⟩
theorem io_M_here : Cond.instanceMethod m_M_here.1 ∈ lw_tbl := tm_8 (List.mem_of_getElem? (i := 125) rfl)
theorem so_M_here : Cond.selects m_M_here.1.cls m_M_here.1 m_M_here.1 ∈ lw_tbl := List.mem_of_getElem? (i := 116) (by decide +kernel)
theorem ok_M_in : MOK m_M_in 3 := ⟨tm_6 (List.mem_of_getElem? (i := 232) rfl), tm_1 (List.mem_of_getElem? (i := 9) rfl), by decide +kernel, by decide, by decide +kernel⟩
theorem to_M_in : Cond.static m_M_in.1 ∈ lw_tbl := tm_6 (List.mem_of_getElem? (i := 231) rfl)
theorem ok_M_isAhead : MOK m_M_isAhead 0 := ⟨tm_8 (List.mem_of_getElem? (i := 50) rfl), tm_1 (List.mem_of_getElem? (i := 9) rfl), by decide +kernel, by decide, by decide +kernel⟩
theorem io_M_isAhead : Cond.instanceMethod m_M_isAhead.1 ∈ lw_tbl := tm_8 (List.mem_of_getElem? (i := 49) rfl)
theorem so_M_isAhead : Cond.selects m_M_isAhead.1.cls m_M_isAhead.1 m_M_isAhead.1 ∈ lw_tbl := List.mem_of_getElem? (i := 111) (by decide +kernel)
theorem ok_M_isLeft : MOK m_M_isLeft 1 := ⟨tm_7 (List.mem_of_getElem? (i := 53) rfl), tm_1 (List.mem_of_getElem? (i := 9) rfl), by decide +kernel, by decide, by decide +kernel⟩
theorem io_M_isLeft : Cond.instanceMethod m_M_isLeft.1 ∈ lw_tbl := tm_7 (List.mem_of_getElem? (i := 52) rfl)
theorem so_M_isLeft : Cond.selects m_M_isLeft.1.cls m_M_isLeft.1 m_M_isLeft.1 ∈ lw_tbl := List.mem_of_getElem? (i := 76) (by decide +kernel)
theorem ok_M_isLetterFirst : MOK m_M_isLetterFirst 0 := ⟨tm_7 (List.mem_of_getElem? (i := 238) rfl), tm_1 (List.mem_of_getElem? (i := 9) rfl), by decide +kernel, by decide, by decide +kernel⟩
theorem io_M_isLetterFirst : Cond.instanceMethod m_M_isLetterFirst.1 ∈ lw_tbl := tm_7 (List.mem_of_getElem? (i := 237) rfl)
theorem so_M_isLetterFirst : Cond.selects m_M_isLetterFirst.1.cls m_M_isLetterFirst.1 m_M_isLetterFirst.1 ∈ lw_tbl := List.mem_of_getElem? (i := 99) (by decide +kernel)
theorem ok_M_isLine : MOK m_M_isLine 1 := ⟨tm_6 (List.mem_of_getElem? (i := 229) rfl), tm_1 (List.mem_of_getElem? (i := 9) rfl), by decide +kernel, by decide, by decide +kernel⟩
theorem io_M_isLine : Cond.instanceMethod m_M_isLine.1 ∈ lw_tbl := tm_6 (List.mem_of_getElem? (i := 228) rfl)
theorem so_M_isLine : Cond.selects m_M_isLine.1.cls m_M_isLine.1 m_M_isLine.1 ∈ lw_tbl := List.mem_of_getElem? (i := 65) (by decide +kernel)
theorem ok_M_isMark : MOK m_M_isMark 1 := ⟨tm_8 (List.mem_of_getElem? (i := 146) rfl), tm_1 (List.mem_of_getElem? (i := 9) rfl), by decide +kernel, by decide, by decide +kernel⟩
theorem io_M_isMark : Cond.instanceMethod m_M_isMark.1 ∈ lw_tbl := tm_8 (List.mem_of_getElem? (i := 145) rfl)
theorem so_M_isMark : Cond.selects m_M_isMark.1.cls m_M_isMark.1 m_M_isMark.1 ∈ lw_tbl := List.mem_of_getElem? (i := 121) (by decide +kernel)
theorem ok_M_isSign : MOK m_M_isSign 1 := ⟨tm_7 (List.mem_of_getElem? (i := 10) rfl), tm_1 (List.mem_of_getElem? (i := 9) rfl), by decide +kernel, by decide, by decide +kernel⟩
theorem to_M_isSign : Cond.static m_M_isSign.1 ∈ lw_tbl := tm_7 (List.mem_of_getElem? (i := 9) rfl)
theorem ok_M_isSquare : MOK m_M_isSquare 2 := ⟨tm_6 (List.mem_of_getElem? (i := 225) rfl), tm_1 (List.mem_of_getElem? (i := 9) rfl), by decide +kernel, by decide, by decide +kernel⟩
theorem io_M_isSquare : Cond.instanceMethod m_M_isSquare.1 ∈ lw_tbl := tm_6 (List.mem_of_getElem? (i := 224) rfl)
theorem so_M_isSquare : Cond.selects m_M_isSquare.1.cls m_M_isSquare.1 m_M_isSquare.1 ∈ lw_tbl := List.mem_of_getElem? (i := 64) (by decide +kernel)
theorem ok_M_isTold : MOK m_M_isTold 1 := ⟨tm_7 (List.mem_of_getElem? (i := 106) rfl), tm_1 (List.mem_of_getElem? (i := 9) rfl), by decide +kernel, by decide, by decide +kernel⟩
theorem io_M_isTold : Cond.instanceMethod m_M_isTold.1 ∈ lw_tbl := tm_7 (List.mem_of_getElem? (i := 105) rfl)
theorem so_M_isTold : Cond.selects m_M_isTold.1.cls m_M_isTold.1 m_M_isTold.1 ∈ lw_tbl := List.mem_of_getElem? (i := 81) (by decide +kernel)
theorem ok_M_isWithin : MOK m_M_isWithin 5 := ⟨tm_7 (List.mem_of_getElem? (i := 69) rfl), tm_1 (List.mem_of_getElem? (i := 9) rfl), by decide +kernel, by decide, by decide +kernel⟩
theorem io_M_isWithin : Cond.instanceMethod m_M_isWithin.1 ∈ lw_tbl := tm_7 (List.mem_of_getElem? (i := 68) rfl)
theorem so_M_isWithin : Cond.selects m_M_isWithin.1.cls m_M_isWithin.1 m_M_isWithin.1 ∈ lw_tbl := List.mem_of_getElem? (i := 79) (by decide +kernel)
theorem ok_M_isWord : MOK m_M_isWord 1 := ⟨tm_8 (List.mem_of_getElem? (i := 134) rfl), tm_1 (List.mem_of_getElem? (i := 9) rfl), by decide +kernel, by decide, by decide +kernel⟩
theorem io_M_isWord : Cond.instanceMethod m_M_isWord.1 ∈ lw_tbl := tm_8 (List.mem_of_getElem? (i := 133) rfl)
theorem so_M_isWord : Cond.selects m_M_isWord.1.cls m_M_isWord.1 m_M_isWord.1 ∈ lw_tbl := List.mem_of_getElem? (i := 118) (by decide +kernel)
theorem ok_M_joins : MOK m_M_joins 2 := ⟨tm_7 (List.mem_of_getElem? (i := 141) rfl), tm_1 (List.mem_of_getElem? (i := 9) rfl), by decide +kernel, by decide, by decide +kernel⟩
theorem io_M_joins : Cond.instanceMethod m_M_joins.1 ∈ lw_tbl := tm_7 (List.mem_of_getElem? (i := 140) rfl)
theorem so_M_joins : Cond.selects m_M_joins.1.cls m_M_joins.1 m_M_joins.1 ∈ lw_tbl := List.mem_of_getElem? (i := 87) (by decide +kernel)
theorem ok_M_keeps : MOK m_M_keeps 0 := ⟨tm_7 (List.mem_of_getElem? (i := 110) rfl), tm_1 (List.mem_of_getElem? (i := 9) rfl), by decide +kernel, by decide, by decide +kernel⟩
theorem io_M_keeps : Cond.instanceMethod m_M_keeps.1 ∈ lw_tbl := tm_7 (List.mem_of_getElem? (i := 109) rfl)
theorem so_M_keeps : Cond.selects m_M_keeps.1.cls m_M_keeps.1 m_M_keeps.1 ∈ lw_tbl := List.mem_of_getElem? (i := 82) (by decide +kernel)
theorem ok_M_keepsForm : MOK m_M_keepsForm 2 := ⟨tm_8 (List.mem_of_getElem? (i := 30) rfl), tm_1 (List.mem_of_getElem? (i := 9) rfl), by decide +kernel, by decide, by decide +kernel⟩
theorem io_M_keepsForm : Cond.instanceMethod m_M_keepsForm.1 ∈ lw_tbl := tm_8 (List.mem_of_getElem? (i := 29) rfl)
theorem so_M_keepsForm : Cond.selects m_M_keepsForm.1.cls m_M_keepsForm.1 m_M_keepsForm.1 ∈ lw_tbl := List.mem_of_getElem? (i := 106) (by decide +kernel)
theorem ok_M_lays : MOK m_M_lays 2 := ⟨tm_7 (List.mem_of_getElem? (i := 133) rfl), tm_1 (List.mem_of_getElem? (i := 9) rfl), by decide +kernel, by decide, by decide +kernel⟩
theorem io_M_lays : Cond.instanceMethod m_M_lays.1 ∈ lw_tbl := tm_7 (List.mem_of_getElem? (i := 132) rfl)
theorem so_M_lays : Cond.selects m_M_lays.1.cls m_M_lays.1 m_M_lays.1 ∈ lw_tbl := List.mem_of_getElem? (i := 86) (by decide +kernel)
theorem ok_M_laysAllForms : MOK m_M_laysAllForms 0 := ⟨tm_8 (List.mem_of_getElem? (i := 18) rfl), tm_1 (List.mem_of_getElem? (i := 9) rfl), by decide +kernel, by decide, by decide +kernel⟩
theorem io_M_laysAllForms : Cond.instanceMethod m_M_laysAllForms.1 ∈ lw_tbl := tm_8 (List.mem_of_getElem? (i := 17) rfl)
theorem so_M_laysAllForms : Cond.selects m_M_laysAllForms.1.cls m_M_laysAllForms.1 m_M_laysAllForms.1 ∈ lw_tbl := List.mem_of_getElem? (i := 103) (by decide +kernel)
theorem ok_M_laysBest : MOK m_M_laysBest 2 := ⟨tm_8 (List.mem_of_getElem? (i := 14) rfl), tm_1 (List.mem_of_getElem? (i := 9) rfl), by decide +kernel, by decide, by decide +kernel⟩
theorem io_M_laysBest : Cond.instanceMethod m_M_laysBest.1 ∈ lw_tbl := tm_8 (List.mem_of_getElem? (i := 13) rfl)
theorem so_M_laysBest : Cond.selects m_M_laysBest.1.cls m_M_laysBest.1 m_M_laysBest.1 ∈ lw_tbl := List.mem_of_getElem? (i := 102) (by decide +kernel)
theorem ok_M_laysForms : MOK m_M_laysForms 3 := ⟨tm_8 (List.mem_of_getElem? (i := 22) rfl), tm_1 (List.mem_of_getElem? (i := 9) rfl), by decide +kernel, by decide, by decide +kernel⟩
theorem io_M_laysForms : Cond.instanceMethod m_M_laysForms.1 ∈ lw_tbl := tm_8 (List.mem_of_getElem? (i := 21) rfl)
theorem so_M_laysForms : Cond.selects m_M_laysForms.1.cls m_M_laysForms.1 m_M_laysForms.1 ∈ lw_tbl := List.mem_of_getElem? (i := 104) (by decide +kernel)
theorem ok_M_laysItems : MOK m_M_laysItems 0 := ⟨tm_8 (List.mem_of_getElem? (i := 34) rfl), tm_1 (List.mem_of_getElem? (i := 9) rfl), by decide +kernel, by decide, by decide +kernel⟩
theorem io_M_laysItems : Cond.instanceMethod m_M_laysItems.1 ∈ lw_tbl := tm_8 (List.mem_of_getElem? (i := 33) rfl)
theorem so_M_laysItems : Cond.selects m_M_laysItems.1.cls m_M_laysItems.1 m_M_laysItems.1 ∈ lw_tbl := List.mem_of_getElem? (i := 107) (by decide +kernel)
theorem ok_M_letterHere : MOK m_M_letterHere 0 := ⟨tm_8 (List.mem_of_getElem? (i := 154) rfl), tm_1 (List.mem_of_getElem? (i := 9) rfl), by decide +kernel, by decide, by decide +kernel⟩
theorem io_M_letterHere : Cond.instanceMethod m_M_letterHere.1 ∈ lw_tbl := tm_8 (List.mem_of_getElem? (i := 153) rfl)
theorem so_M_letterHere : Cond.selects m_M_letterHere.1.cls m_M_letterHere.1 m_M_letterHere.1 ∈ lw_tbl := List.mem_of_getElem? (i := 123) (by decide +kernel)
theorem ok_M_letterOf : MOK m_M_letterOf 1 := ⟨tm_7 (List.mem_of_getElem? (i := 26) rfl), tm_1 (List.mem_of_getElem? (i := 9) rfl), by decide +kernel, by decide, by decide +kernel⟩
theorem to_M_letterOf : Cond.static m_M_letterOf.1 ∈ lw_tbl := tm_7 (List.mem_of_getElem? (i := 25) rfl)
theorem ok_M_makesRoom : MOK m_M_makesRoom 2 := ⟨tm_7 (List.mem_of_getElem? (i := 160) rfl), tm_1 (List.mem_of_getElem? (i := 9) rfl), by decide +kernel, by decide, by decide +kernel⟩
theorem io_M_makesRoom : Cond.instanceMethod m_M_makesRoom.1 ∈ lw_tbl := tm_7 (List.mem_of_getElem? (i := 159) rfl)
theorem so_M_makesRoom : Cond.selects m_M_makesRoom.1.cls m_M_makesRoom.1 m_M_makesRoom.1 ∈ lw_tbl := List.mem_of_getElem? (i := 90) (by decide +kernel)
theorem ok_M_measures : MOK m_M_measures 0 := ⟨tm_7 (List.mem_of_getElem? (i := 23) rfl), tm_1 (List.mem_of_getElem? (i := 9) rfl), by decide +kernel, by decide, by decide +kernel⟩
theorem io_M_measures : Cond.instanceMethod m_M_measures.1 ∈ lw_tbl := tm_7 (List.mem_of_getElem? (i := 22) rfl)
theorem so_M_measures : Cond.selects m_M_measures.1.cls m_M_measures.1 m_M_measures.1 ∈ lw_tbl := List.mem_of_getElem? (i := 71) (by decide +kernel)
theorem ok_M_needsMark : MOK m_M_needsMark 1 := ⟨tm_8 (List.mem_of_getElem? (i := 142) rfl), tm_1 (List.mem_of_getElem? (i := 9) rfl), by decide +kernel, by decide, by decide +kernel⟩
theorem io_M_needsMark : Cond.instanceMethod m_M_needsMark.1 ∈ lw_tbl := tm_8 (List.mem_of_getElem? (i := 141) rfl)
theorem so_M_needsMark : Cond.selects m_M_needsMark.1.cls m_M_needsMark.1 m_M_needsMark.1 ∈ lw_tbl := List.mem_of_getElem? (i := 120) (by decide +kernel)
theorem ok_M_needsNumber : MOK m_M_needsNumber 2 := ⟨tm_8 (List.mem_of_getElem? (i := 138) rfl), tm_1 (List.mem_of_getElem? (i := 9) rfl), by decide +kernel, by decide, by decide +kernel⟩
theorem io_M_needsNumber : Cond.instanceMethod m_M_needsNumber.1 ∈ lw_tbl := tm_8 (List.mem_of_getElem? (i := 137) rfl)
theorem so_M_needsNumber : Cond.selects m_M_needsNumber.1.cls m_M_needsNumber.1 m_M_needsNumber.1 ∈ lw_tbl := List.mem_of_getElem? (i := 119) (by decide +kernel)
theorem ok_M_node : MOK m_M_node 1 := ⟨tm_8 (List.mem_of_getElem? (i := 170) rfl), tm_1 (List.mem_of_getElem? (i := 9) rfl), by decide +kernel, by decide, by decide +kernel⟩
theorem io_M_node : Cond.instanceMethod m_M_node.1 ∈ lw_tbl := tm_8 (List.mem_of_getElem? (i := 169) rfl)
theorem so_M_node : Cond.selects m_M_node.1.cls m_M_node.1 m_M_node.1 ∈ lw_tbl := List.mem_of_getElem? (i := 127) (by decide +kernel)
theorem ok_M_nodeOf : MOK m_M_nodeOf 1 := ⟨tm_7 (List.mem_of_getElem? (i := 7) rfl), tm_1 (List.mem_of_getElem? (i := 9) rfl), by decide +kernel, by decide, by decide +kernel⟩
theorem io_M_nodeOf : Cond.instanceMethod m_M_nodeOf.1 ∈ lw_tbl := tm_7 (List.mem_of_getElem? (i := 6) rfl)
theorem so_M_nodeOf : Cond.selects m_M_nodeOf.1.cls m_M_nodeOf.1 m_M_nodeOf.1 ∈ lw_tbl := List.mem_of_getElem? (i := 68) (by decide +kernel)
theorem ok_M_only : MOK m_M_only 3 := ⟨tm_8 (List.mem_of_getElem? (i := 189) rfl), tm_1 (List.mem_of_getElem? (i := 9) rfl), by decide +kernel, by decide, by decide +kernel⟩
theorem to_M_only : Cond.static m_M_only.1 ∈ lw_tbl := tm_8 (List.mem_of_getElem? (i := 188) rfl)
theorem ok_M_opens : MOK m_M_opens 0 := ⟨tm_7 (List.mem_of_getElem? (i := 118) rfl), tm_1 (List.mem_of_getElem? (i := 9) rfl), by decide +kernel, by decide, by decide +kernel⟩
theorem io_M_opens : Cond.instanceMethod m_M_opens.1 ∈ lw_tbl := tm_7 (List.mem_of_getElem? (i := 117) rfl)
theorem so_M_opens : Cond.selects m_M_opens.1.cls m_M_opens.1 m_M_opens.1 ∈ lw_tbl := List.mem_of_getElem? (i := 83) (by decide +kernel)
theorem ok_M_opensGroup : MOK m_M_opensGroup 1 := ⟨tm_8 (List.mem_of_getElem? (i := 166) rfl), tm_1 (List.mem_of_getElem? (i := 9) rfl), by decide +kernel, by decide, by decide +kernel⟩
theorem io_M_opensGroup : Cond.instanceMethod m_M_opensGroup.1 ∈ lw_tbl := tm_8 (List.mem_of_getElem? (i := 165) rfl)
theorem so_M_opensGroup : Cond.selects m_M_opensGroup.1.cls m_M_opensGroup.1 m_M_opensGroup.1 ∈ lw_tbl := List.mem_of_getElem? (i := 126) (by decide +kernel)
theorem ok_M_partAt : MOK m_M_partAt 1 := ⟨tm_7 (List.mem_of_getElem? (i := 168) rfl), tm_1 (List.mem_of_getElem? (i := 9) rfl), by decide +kernel, by decide, by decide +kernel⟩
theorem io_M_partAt : Cond.instanceMethod m_M_partAt.1 ∈ lw_tbl := tm_7 (List.mem_of_getElem? (i := 167) rfl)
theorem so_M_partAt : Cond.selects m_M_partAt.1.cls m_M_partAt.1 m_M_partAt.1 ∈ lw_tbl := List.mem_of_getElem? (i := 91) (by decide +kernel)
theorem ok_M_partsOf : MOK m_M_partsOf 1 := ⟨tm_7 (List.mem_of_getElem? (i := 29) rfl), tm_1 (List.mem_of_getElem? (i := 9) rfl), by decide +kernel, by decide, by decide +kernel⟩
theorem to_M_partsOf : Cond.static m_M_partsOf.1 ∈ lw_tbl := tm_7 (List.mem_of_getElem? (i := 28) rfl)
theorem ok_M_placeOf : MOK m_M_placeOf 2 := ⟨tm_7 (List.mem_of_getElem? (i := 3) rfl), tm_1 (List.mem_of_getElem? (i := 9) rfl), by decide +kernel, by decide, by decide +kernel⟩
theorem to_M_placeOf : Cond.static m_M_placeOf.1 ∈ lw_tbl := tm_7 (List.mem_of_getElem? (i := 2) rfl)
theorem ok_M_places : MOK m_M_places 0 := ⟨tm_7 (List.mem_of_getElem? (i := 15) rfl), tm_1 (List.mem_of_getElem? (i := 9) rfl), by decide +kernel, by decide, by decide +kernel⟩
theorem io_M_places : Cond.instanceMethod m_M_places.1 ∈ lw_tbl := tm_7 (List.mem_of_getElem? (i := 14) rfl)
theorem so_M_places : Cond.selects m_M_places.1.cls m_M_places.1 m_M_places.1 ∈ lw_tbl := List.mem_of_getElem? (i := 69) (by decide +kernel)
theorem ok_M_plus : MOK m_M_plus 2 := ⟨tm_7 (List.mem_of_getElem? (i := 45) rfl), tm_1 (List.mem_of_getElem? (i := 9) rfl), by decide +kernel, by decide, by decide +kernel⟩
theorem io_M_plus : Cond.instanceMethod m_M_plus.1 ∈ lw_tbl := tm_7 (List.mem_of_getElem? (i := 44) rfl)
theorem so_M_plus : Cond.selects m_M_plus.1.cls m_M_plus.1 m_M_plus.1 ∈ lw_tbl := List.mem_of_getElem? (i := 74) (by decide +kernel)
theorem ok_M_readsAll : MOK m_M_readsAll 0 := ⟨tm_8 (List.mem_of_getElem? (i := 130) rfl), tm_1 (List.mem_of_getElem? (i := 9) rfl), by decide +kernel, by decide, by decide +kernel⟩
theorem io_M_readsAll : Cond.instanceMethod m_M_readsAll.1 ∈ lw_tbl := tm_8 (List.mem_of_getElem? (i := 129) rfl)
theorem so_M_readsAll : Cond.selects m_M_readsAll.1.cls m_M_readsAll.1 m_M_readsAll.1 ∈ lw_tbl := List.mem_of_getElem? (i := 117) (by decide +kernel)
theorem ok_M_readsLine : MOK m_M_readsLine 0 := ⟨tm_8 (List.mem_of_getElem? (i := 158) rfl), tm_1 (List.mem_of_getElem? (i := 9) rfl), by decide +kernel, by decide, by decide +kernel⟩
theorem io_M_readsLine : Cond.instanceMethod m_M_readsLine.1 ∈ lw_tbl := tm_8 (List.mem_of_getElem? (i := 157) rfl)
theorem so_M_readsLine : Cond.selects m_M_readsLine.1.cls m_M_readsLine.1 m_M_readsLine.1 ∈ lw_tbl := List.mem_of_getElem? (i := 124) (by decide +kernel)
theorem ok_M_readsSign : MOK m_M_readsSign 0 := ⟨tm_8 (List.mem_of_getElem? (i := 150) rfl), tm_1 (List.mem_of_getElem? (i := 9) rfl), by decide +kernel, by decide, by decide +kernel⟩
theorem io_M_readsSign : Cond.instanceMethod m_M_readsSign.1 ∈ lw_tbl := tm_8 (List.mem_of_getElem? (i := 149) rfl)
theorem so_M_readsSign : Cond.selects m_M_readsSign.1.cls m_M_readsSign.1 m_M_readsSign.1 ∈ lw_tbl := List.mem_of_getElem? (i := 122) (by decide +kernel)
theorem ok_M_readsSquare : MOK m_M_readsSquare 0 := ⟨tm_8 (List.mem_of_getElem? (i := 162) rfl), tm_1 (List.mem_of_getElem? (i := 9) rfl), by decide +kernel, by decide, by decide +kernel⟩
theorem io_M_readsSquare : Cond.instanceMethod m_M_readsSquare.1 ∈ lw_tbl := tm_8 (List.mem_of_getElem? (i := 161) rfl)
theorem so_M_readsSquare : Cond.selects m_M_readsSquare.1.cls m_M_readsSquare.1 m_M_readsSquare.1 ∈ lw_tbl := List.mem_of_getElem? (i := 125) (by decide +kernel)
theorem ok_M_removes : MOK m_M_removes 2 := ⟨tm_7 (List.mem_of_getElem? (i := 152) rfl), tm_1 (List.mem_of_getElem? (i := 9) rfl), by decide +kernel, by decide, by decide +kernel⟩
theorem io_M_removes : Cond.instanceMethod m_M_removes.1 ∈ lw_tbl := tm_7 (List.mem_of_getElem? (i := 151) rfl)
theorem so_M_removes : Cond.selects m_M_removes.1.cls m_M_removes.1 m_M_removes.1 ∈ lw_tbl := List.mem_of_getElem? (i := 89) (by decide +kernel)
theorem ok_M_scale : MOK m_M_scale 3 := ⟨tm_7 (List.mem_of_getElem? (i := 77) rfl), tm_1 (List.mem_of_getElem? (i := 9) rfl), by decide +kernel, by decide, by decide +kernel⟩
theorem io_M_scale : Cond.instanceMethod m_M_scale.1 ∈ lw_tbl := tm_7 (List.mem_of_getElem? (i := 75) rfl)
theorem so_M_scale : Cond.selects m_M_scale.1.cls m_M_scale.1 m_M_scale.1 ∈ lw_tbl := tm_7 (List.mem_of_getElem? (i := 76) rfl)
theorem ok_M_signsIn : MOK m_M_signsIn 3 := ⟨tm_7 (List.mem_of_getElem? (i := 148) rfl), tm_1 (List.mem_of_getElem? (i := 9) rfl), by decide +kernel, by decide, by decide +kernel⟩
theorem to_M_signsIn : Cond.static m_M_signsIn.1 ∈ lw_tbl := tm_7 (List.mem_of_getElem? (i := 147) rfl)
theorem ok_M_signsOf : MOK m_M_signsOf 2 := ⟨tm_7 (List.mem_of_getElem? (i := 145) rfl), tm_1 (List.mem_of_getElem? (i := 9) rfl), by decide +kernel, by decide, by decide +kernel⟩
theorem io_M_signsOf : Cond.instanceMethod m_M_signsOf.1 ∈ lw_tbl := tm_7 (List.mem_of_getElem? (i := 144) rfl)
theorem so_M_signsOf : Cond.selects m_M_signsOf.1.cls m_M_signsOf.1 m_M_signsOf.1 ∈ lw_tbl := List.mem_of_getElem? (i := 88) (by decide +kernel)
theorem ok_M_signsOfLine : MOK m_M_signsOfLine 1 := ⟨tm_8 (List.mem_of_getElem? (i := 82) rfl), tm_1 (List.mem_of_getElem? (i := 9) rfl), by decide +kernel, by decide, by decide +kernel⟩
theorem io_M_signsOfLine : Cond.instanceMethod m_M_signsOfLine.1 ∈ lw_tbl := tm_8 (List.mem_of_getElem? (i := 81) rfl)
theorem so_M_signsOfLine : Cond.selects m_M_signsOfLine.1.cls m_M_signsOfLine.1 m_M_signsOfLine.1 ∈ lw_tbl := List.mem_of_getElem? (i := 113) (by decide +kernel)
theorem ok_M_squaresOf : MOK m_M_squaresOf 1 := ⟨tm_6 (List.mem_of_getElem? (i := 236) rfl), tm_1 (List.mem_of_getElem? (i := 9) rfl), by decide +kernel, by decide, by decide +kernel⟩
theorem io_M_squaresOf : Cond.instanceMethod m_M_squaresOf.1 ∈ lw_tbl := tm_6 (List.mem_of_getElem? (i := 235) rfl)
theorem so_M_squaresOf : Cond.selects m_M_squaresOf.1.cls m_M_squaresOf.1 m_M_squaresOf.1 ∈ lw_tbl := List.mem_of_getElem? (i := 66) (by decide +kernel)
theorem ok_M_standing : MOK m_M_standing 1 := ⟨tm_8 (List.mem_of_getElem? (i := 74) rfl), tm_1 (List.mem_of_getElem? (i := 9) rfl), by decide +kernel, by decide, by decide +kernel⟩
theorem io_M_standing : Cond.instanceMethod m_M_standing.1 ∈ lw_tbl := tm_8 (List.mem_of_getElem? (i := 73) rfl)
theorem so_M_standing : Cond.selects m_M_standing.1.cls m_M_standing.1 m_M_standing.1 ∈ lw_tbl := List.mem_of_getElem? (i := 112) (by decide +kernel)
theorem ok_M_takes : MOK m_M_takes 2 := ⟨tm_7 (List.mem_of_getElem? (i := 0) rfl), tm_1 (List.mem_of_getElem? (i := 9) rfl), by decide +kernel, by decide, by decide +kernel⟩
theorem io_M_takes : Cond.instanceMethod m_M_takes.1 ∈ lw_tbl := tm_6 (List.mem_of_getElem? (i := 239) rfl)
theorem so_M_takes : Cond.selects m_M_takes.1.cls m_M_takes.1 m_M_takes.1 ∈ lw_tbl := List.mem_of_getElem? (i := 67) (by decide +kernel)
theorem ok_M_takesSign : MOK m_M_takesSign 3 := ⟨tm_6 (List.mem_of_getElem? (i := 221) rfl), tm_1 (List.mem_of_getElem? (i := 9) rfl), by decide +kernel, by decide, by decide +kernel⟩
theorem io_M_takesSign : Cond.instanceMethod m_M_takesSign.1 ∈ lw_tbl := tm_6 (List.mem_of_getElem? (i := 220) rfl)
theorem so_M_takesSign : Cond.selects m_M_takesSign.1.cls m_M_takesSign.1 m_M_takesSign.1 ∈ lw_tbl := List.mem_of_getElem? (i := 63) (by decide +kernel)
theorem ok_M_tells : MOK m_M_tells 2 := ⟨tm_7 (List.mem_of_getElem? (i := 33) rfl), tm_1 (List.mem_of_getElem? (i := 9) rfl), by decide +kernel, by decide, by decide +kernel⟩
theorem io_M_tells : Cond.instanceMethod m_M_tells.1 ∈ lw_tbl := tm_7 (List.mem_of_getElem? (i := 32) rfl)
theorem so_M_tells : Cond.selects m_M_tells.1.cls m_M_tells.1 m_M_tells.1 ∈ lw_tbl := List.mem_of_getElem? (i := 72) (by decide +kernel)
theorem ok_M_term : MOK m_M_term 1 := ⟨tm_7 (List.mem_of_getElem? (i := 61) rfl), tm_1 (List.mem_of_getElem? (i := 9) rfl), by decide +kernel, by decide, by decide +kernel⟩
theorem io_M_term : Cond.instanceMethod m_M_term.1 ∈ lw_tbl := tm_7 (List.mem_of_getElem? (i := 60) rfl)
theorem so_M_term : Cond.selects m_M_term.1.cls m_M_term.1 m_M_term.1 ∈ lw_tbl := List.mem_of_getElem? (i := 78) (by decide +kernel)
theorem ok_M_tightestOf : MOK m_M_tightestOf 1 := ⟨tm_7 (List.mem_of_getElem? (i := 93) rfl), tm_1 (List.mem_of_getElem? (i := 9) rfl), by decide +kernel, by decide, by decide +kernel⟩
theorem io_M_tightestOf : Cond.instanceMethod m_M_tightestOf.1 ∈ lw_tbl := tm_7 (List.mem_of_getElem? (i := 92) rfl)
theorem so_M_tightestOf : Cond.selects m_M_tightestOf.1.cls m_M_tightestOf.1 m_M_tightestOf.1 ∈ lw_tbl := List.mem_of_getElem? (i := 80) (by decide +kernel)
theorem ok_M_told : MOK m_M_told 1 := ⟨tm_8 (List.mem_of_getElem? (i := 6) rfl), tm_1 (List.mem_of_getElem? (i := 9) rfl), by decide +kernel, by decide, by decide +kernel⟩
theorem io_M_told : Cond.instanceMethod m_M_told.1 ∈ lw_tbl := tm_8 (List.mem_of_getElem? (i := 5) rfl)
theorem so_M_told : Cond.selects m_M_told.1.cls m_M_told.1 m_M_told.1 ∈ lw_tbl := List.mem_of_getElem? (i := 101) (by decide +kernel)
theorem ok_M_wordFrom : MOK m_M_wordFrom 1 := ⟨tm_7 (List.mem_of_getElem? (i := 222) rfl), tm_1 (List.mem_of_getElem? (i := 9) rfl), by decide +kernel, by decide, by decide +kernel⟩
theorem io_M_wordFrom : Cond.instanceMethod m_M_wordFrom.1 ∈ lw_tbl := tm_7 (List.mem_of_getElem? (i := 221) rfl)
theorem so_M_wordFrom : Cond.selects m_M_wordFrom.1.cls m_M_wordFrom.1 m_M_wordFrom.1 ∈ lw_tbl := List.mem_of_getElem? (i := 95) (by decide +kernel)
theorem ok_M_writes : MOK m_M_writes 1 := ⟨tm_7 (List.mem_of_getElem? (i := 226) rfl), tm_1 (List.mem_of_getElem? (i := 9) rfl), by decide +kernel, by decide, by decide +kernel⟩
theorem io_M_writes : Cond.instanceMethod m_M_writes.1 ∈ lw_tbl := tm_7 (List.mem_of_getElem? (i := 225) rfl)
theorem so_M_writes : Cond.selects m_M_writes.1.cls m_M_writes.1 m_M_writes.1 ∈ lw_tbl := List.mem_of_getElem? (i := 96) (by decide +kernel)
theorem ok_M_writesAll : MOK m_M_writesAll 0 := ⟨tm_7 (List.mem_of_getElem? (i := 214) rfl), tm_1 (List.mem_of_getElem? (i := 9) rfl), by decide +kernel, by decide, by decide +kernel⟩
theorem io_M_writesAll : Cond.instanceMethod m_M_writesAll.1 ∈ lw_tbl := tm_7 (List.mem_of_getElem? (i := 213) rfl)
theorem so_M_writesAll : Cond.selects m_M_writesAll.1.cls m_M_writesAll.1 m_M_writesAll.1 ∈ lw_tbl := List.mem_of_getElem? (i := 93) (by decide +kernel)
theorem ok_M_writesLine : MOK m_M_writesLine 1 := ⟨tm_7 (List.mem_of_getElem? (i := 234) rfl), tm_1 (List.mem_of_getElem? (i := 9) rfl), by decide +kernel, by decide, by decide +kernel⟩
theorem io_M_writesLine : Cond.instanceMethod m_M_writesLine.1 ∈ lw_tbl := tm_7 (List.mem_of_getElem? (i := 233) rfl)
theorem so_M_writesLine : Cond.selects m_M_writesLine.1.cls m_M_writesLine.1 m_M_writesLine.1 ∈ lw_tbl := List.mem_of_getElem? (i := 98) (by decide +kernel)
theorem ok_M_writesNumber : MOK m_M_writesNumber 1 := ⟨tm_7 (List.mem_of_getElem? (i := 230) rfl), tm_1 (List.mem_of_getElem? (i := 9) rfl), by decide +kernel, by decide, by decide +kernel⟩
theorem io_M_writesNumber : Cond.instanceMethod m_M_writesNumber.1 ∈ lw_tbl := tm_7 (List.mem_of_getElem? (i := 229) rfl)
theorem so_M_writesNumber : Cond.selects m_M_writesNumber.1.cls m_M_writesNumber.1 m_M_writesNumber.1 ∈ lw_tbl := List.mem_of_getElem? (i := 97) (by decide +kernel)
theorem ok_M_writesRow : MOK m_M_writesRow 0 := ⟨tm_8 (List.mem_of_getElem? (i := 2) rfl), tm_1 (List.mem_of_getElem? (i := 9) rfl), by decide +kernel, by decide, by decide +kernel⟩
theorem io_M_writesRow : Cond.instanceMethod m_M_writesRow.1 ∈ lw_tbl := tm_8 (List.mem_of_getElem? (i := 1) rfl)
theorem so_M_writesRow : Cond.selects m_M_writesRow.1.cls m_M_writesRow.1 m_M_writesRow.1 ∈ lw_tbl := List.mem_of_getElem? (i := 100) (by decide +kernel)
theorem ok_M_writesWord : MOK m_M_writesWord 1 := ⟨tm_7 (List.mem_of_getElem? (i := 218) rfl), tm_1 (List.mem_of_getElem? (i := 9) rfl), by decide +kernel, by decide, by decide +kernel⟩
theorem io_M_writesWord : Cond.instanceMethod m_M_writesWord.1 ∈ lw_tbl := tm_7 (List.mem_of_getElem? (i := 217) rfl)
theorem so_M_writesWord : Cond.selects m_M_writesWord.1.cls m_M_writesWord.1 m_M_writesWord.1 ∈ lw_tbl := List.mem_of_getElem? (i := 94) (by decide +kernel)
theorem ok_Long_compare : MOK m_Long_compare 2 := ⟨tm_5 (List.mem_of_getElem? (i := 125) rfl), tm_1 (List.mem_of_getElem? (i := 19) rfl), by decide +kernel, by decide, by decide +kernel⟩
theorem to_Long_compare : Cond.static m_Long_compare.1 ∈ lw_tbl := tm_5 (List.mem_of_getElem? (i := 124) rfl)
theorem ok_String_charAt : MOK m_String_charAt 1 := ⟨tm_2 (List.mem_of_getElem? (i := 114) rfl), tm_1 (List.mem_of_getElem? (i := 10) rfl), by decide +kernel, by decide, by decide +kernel⟩
theorem io_String_charAt : Cond.instanceMethod m_String_charAt.1 ∈ lw_tbl := tm_2 (List.mem_of_getElem? (i := 112) rfl)
theorem so_String_charAt : Cond.selects m_String_charAt.1.cls m_String_charAt.1 m_String_charAt.1 ∈ lw_tbl := tm_2 (List.mem_of_getElem? (i := 113) rfl)
theorem ok_String_length : MOK m_String_length 0 := ⟨tm_2 (List.mem_of_getElem? (i := 104) rfl), tm_1 (List.mem_of_getElem? (i := 10) rfl), by decide +kernel, by decide, by decide +kernel⟩
theorem io_String_length : Cond.instanceMethod m_String_length.1 ∈ lw_tbl := tm_2 (List.mem_of_getElem? (i := 102) rfl)
theorem so_String_length : Cond.selects m_String_length.1.cls m_String_length.1 m_String_length.1 ∈ lw_tbl := tm_2 (List.mem_of_getElem? (i := 103) rfl)
theorem ok_Arrays_copyOf : MOK m_Arrays_copyOf 2 := ⟨tm_3 (List.mem_of_getElem? (i := 25) rfl), tm_1 (List.mem_of_getElem? (i := 16) rfl), by decide +kernel, by decide, by decide +kernel⟩
theorem to_Arrays_copyOf : Cond.static m_Arrays_copyOf.1 ∈ lw_tbl := tm_3 (List.mem_of_getElem? (i := 24) rfl)
theorem lo_S_1 : Cond.methodLink "SignSquares" 1 Lib.objectInit ∈ lw_tbl := tm_1 (List.mem_of_getElem? (i := 25) rfl)
theorem lk_S_9 : LK "SignSquares" 9 m_Table_init := Or.inr ⟨"SignSquares", tm_1 (List.mem_of_getElem? (i := 30) rfl)⟩
theorem lk_S_20 : LK "SignSquares" 20 m_Moment_init := Or.inl (tm_1 (List.mem_of_getElem? (i := 52) rfl))
theorem lk_S_37 : LK "SignSquares" 37 m_Draft_init := Or.inr ⟨"SignSquares", tm_1 (List.mem_of_getElem? (i := 77) rfl)⟩
theorem lk_S_44 : LK "SignSquares" 44 m_Reader_init := Or.inr ⟨"SignSquares", tm_1 (List.mem_of_getElem? (i := 91) rfl)⟩
theorem lk_S_51 : LK "SignSquares" 51 m_Layout_init := Or.inr ⟨"SignSquares", tm_1 (List.mem_of_getElem? (i := 144) rfl)⟩
theorem lk_S_58 : LK "SignSquares" 58 m_Speller_init := Or.inr ⟨"SignSquares", tm_1 (List.mem_of_getElem? (i := 177) rfl)⟩
theorem lk_S_65 : LK "SignSquares" 65 m_Arranger_init := Or.inr ⟨"SignSquares", tm_1 (List.mem_of_getElem? (i := 214) rfl)⟩
theorem lk_S_73 : LK "SignSquares" 73 m_Reader_takeFour := Or.inl (tm_2 (List.mem_of_getElem? (i := 54) rfl))
theorem lk_S_77 : LK "SignSquares" 77 m_Reader_begin := Or.inl (tm_2 (List.mem_of_getElem? (i := 66) rfl))
theorem lk_S_80 : LK "SignSquares" 80 m_Reader_readAll := Or.inl (tm_2 (List.mem_of_getElem? (i := 70) rfl))
theorem lk_S_88 : LK "SignSquares" 88 m_Reader_told := Or.inl (tm_3 (List.mem_of_getElem? (i := 65) rfl))
theorem lk_S_92 : LK "SignSquares" 92 m_S_forgetActs := Or.inl (tm_3 (List.mem_of_getElem? (i := 71) rfl))
theorem lk_S_99 : LK "SignSquares" 99 m_S_squareAt := Or.inl (tm_3 (List.mem_of_getElem? (i := 79) rfl))
theorem lk_S_103 : LK "SignSquares" 103 m_Table_has := Or.inl (tm_3 (List.mem_of_getElem? (i := 95) rfl))
theorem lk_S_107 : LK "SignSquares" 107 m_Sq_placeOf := Or.inl (tm_3 (List.mem_of_getElem? (i := 96) rfl))
theorem lk_S_113 : LK "SignSquares" 113 m_Sq_symbol := Or.inl (tm_3 (List.mem_of_getElem? (i := 101) rfl))
theorem lk_S_116 : LK "SignSquares" 116 m_S_letterOf := Or.inl (tm_3 (List.mem_of_getElem? (i := 105) rfl))
theorem lk_S_119 : LK "SignSquares" 119 m_S_holds := Or.inl (tm_3 (List.mem_of_getElem? (i := 14) rfl))
theorem lk_S_122 : LK "SignSquares" 122 m_Table_hasCore := Or.inl (tm_3 (List.mem_of_getElem? (i := 108) rfl))
theorem lk_S_125 : LK "SignSquares" 125 m_Draft_take := Or.inl (tm_3 (List.mem_of_getElem? (i := 109) rfl))
theorem lk_S_129 : LK "SignSquares" 129 m_Draft_change := Or.inl (tm_3 (List.mem_of_getElem? (i := 124) rfl))
theorem lk_S_133 : LK "SignSquares" 133 m_Draft_made := Or.inl (tm_3 (List.mem_of_getElem? (i := 125) rfl))
theorem lk_S_137 : LK "SignSquares" 137 m_S_become := Or.inl (tm_3 (List.mem_of_getElem? (i := 126) rfl))
theorem lk_S_141 : LK "SignSquares" 141 m_S_isJoint := Or.inl (tm_3 (List.mem_of_getElem? (i := 13) rfl))
theorem lk_S_144 : LK "SignSquares" 144 m_Sq_length := Or.inl (tm_3 (List.mem_of_getElem? (i := 162) rfl))
theorem lk_S_148 : LK "SignSquares" 148 m_Sq_holderOf := Or.inl (tm_3 (List.mem_of_getElem? (i := 163) rfl))
theorem lk_S_151 : LK "SignSquares" 151 m_S_squareBehind := Or.inl (tm_3 (List.mem_of_getElem? (i := 178) rfl))
theorem lk_S_154 : LK "SignSquares" 154 m_S_bothJoined := Or.inl (tm_3 (List.mem_of_getElem? (i := 183) rfl))
theorem lk_S_158 : LK "SignSquares" 158 m_S_lineAt := Or.inl (tm_3 (List.mem_of_getElem? (i := 130) rfl))
theorem lk_S_162 : LK "SignSquares" 162 m_Line_withoutNext := Or.inl (tm_3 (List.mem_of_getElem? (i := 199) rfl))
theorem lk_S_166 : LK "SignSquares" 166 m_S_replaceLine := Or.inl (tm_3 (List.mem_of_getElem? (i := 142) rfl))
theorem lk_S_170 : LK "SignSquares" 170 m_Line_size := Or.inl (tm_3 (List.mem_of_getElem? (i := 208) rfl))
theorem lk_S_173 : LK "SignSquares" 173 m_Sq_endOf := Or.inl (tm_3 (List.mem_of_getElem? (i := 212) rfl))
theorem lk_S_176 : LK "SignSquares" 176 m_S_slice := Or.inl (tm_3 (List.mem_of_getElem? (i := 213) rfl))
theorem lk_S_180 : LK "SignSquares" 180 m_Line_withNext := Or.inl (tm_3 (List.mem_of_getElem? (i := 217) rfl))
theorem lk_S_184 : LK "SignSquares" 184 m_Sq_links := Or.inl (tm_3 (List.mem_of_getElem? (i := 225) rfl))
theorem lk_S_188 : LK "SignSquares" 188 m_Draft_clear := Or.inl (tm_3 (List.mem_of_getElem? (i := 195) rfl))
theorem lk_S_191 : LK "SignSquares" 191 m_Sq_linkPlace := Or.inl (tm_3 (List.mem_of_getElem? (i := 230) rfl))
theorem lk_S_195 : LK "SignSquares" 195 m_Draft_put := Or.inl (tm_3 (List.mem_of_getElem? (i := 196) rfl))
theorem lk_S_198 : LK "SignSquares" 198 m_Draft_putAll := Or.inl (tm_3 (List.mem_of_getElem? (i := 197) rfl))
theorem lk_S_202 : LK "SignSquares" 202 m_Sq_signs := Or.inl (tm_3 (List.mem_of_getElem? (i := 187) rfl))
theorem lk_S_205 : LK "SignSquares" 205 m_S_spelled := Or.inl (tm_3 (List.mem_of_getElem? (i := 238) rfl))
theorem lk_S_212 : LK "SignSquares" 212 m_Line_has := Or.inl (tm_3 (List.mem_of_getElem? (i := 182) rfl))
theorem lk_S_213 : LK "SignSquares" 213 m_Line_moved := Or.inl (tm_4 (List.mem_of_getElem? (i := 53) rfl))
theorem lk_S_225 : LK "SignSquares" 225 m_Line_init := Or.inl (tm_4 (List.mem_of_getElem? (i := 61) rfl))
theorem lk_S_228 : LK "SignSquares" 228 m_S_bestOf := Or.inl (tm_4 (List.mem_of_getElem? (i := 66) rfl))
theorem lk_S_232 : LK "SignSquares" 232 m_Sq_isLike := Or.inl (tm_4 (List.mem_of_getElem? (i := 165) rfl))
theorem lk_S_242 : LK "SignSquares" 242 m_S_act := Or.inl (tm_3 (List.mem_of_getElem? (i := 154) rfl))
theorem lk_S_246 : LK "SignSquares" 246 m_Table_wideOf := Or.inl (tm_4 (List.mem_of_getElem? (i := 185) rfl))
theorem lk_S_249 : LK "SignSquares" 249 m_Table_highOf := Or.inl (tm_4 (List.mem_of_getElem? (i := 186) rfl))
theorem lk_S_252 : LK "SignSquares" 252 m_Table_coreWideOf := Or.inl (tm_4 (List.mem_of_getElem? (i := 187) rfl))
theorem lk_S_255 : LK "SignSquares" 255 m_Table_coreHighOf := Or.inl (tm_4 (List.mem_of_getElem? (i := 191) rfl))
theorem lk_S_258 : LK "SignSquares" 258 m_S_timesOf := Or.inl (tm_4 (List.mem_of_getElem? (i := 195) rfl))
theorem lk_S_261 : LK "SignSquares" 261 m_Line_signs := Or.inl (tm_4 (List.mem_of_getElem? (i := 212) rfl))
theorem lk_S_262 : LK "SignSquares" 262 m_S_measured := Or.inl (tm_4 (List.mem_of_getElem? (i := 221) rfl))
theorem lk_S_266 : LK "SignSquares" 266 m_Layout_wideAt := Or.inl (tm_5 (List.mem_of_getElem? (i := 14) rfl))
theorem lk_S_269 : LK "SignSquares" 269 m_Layout_highAt := Or.inl (tm_5 (List.mem_of_getElem? (i := 15) rfl))
theorem lk_S_272 : LK "SignSquares" 272 m_Sq_outerSigns := Or.inl (tm_4 (List.mem_of_getElem? (i := 70) rfl))
theorem lk_S_281 : LK "SignSquares" 281 m_S_scaleOf := Or.inl (tm_5 (List.mem_of_getElem? (i := 20) rfl))
theorem lk_S_285 : LK "SignSquares" 285 m_Sq_numberAt := Or.inl (tm_5 (List.mem_of_getElem? (i := 50) rfl))
theorem lk_S_290 : LK "SignSquares" 290 m_S_laidOut := Or.inl (tm_5 (List.mem_of_getElem? (i := 55) rfl))
theorem lk_S_294 : LK "SignSquares" 294 m_Layout_boxAbove := Or.inl (tm_5 (List.mem_of_getElem? (i := 82) rfl))
theorem lk_S_298 : LK "SignSquares" 298 m_Layout_boxBelow := Or.inl (tm_5 (List.mem_of_getElem? (i := 86) rfl))
theorem lk_S_301 : LK "SignSquares" 301 m_S_fraction := Or.inl (tm_5 (List.mem_of_getElem? (i := 32) rfl))
theorem lk_S_305 : LK "SignSquares" 305 m_S_isPoint := Or.inl (tm_5 (List.mem_of_getElem? (i := 95) rfl))
theorem lk_S_308 : LK "SignSquares" 308 m_Layout_reaches := Or.inl (tm_5 (List.mem_of_getElem? (i := 98) rfl))
theorem lk_S_312 : LK "SignSquares" 312 m_S_spanOf := Or.inl (tm_5 (List.mem_of_getElem? (i := 24) rfl))
theorem lk_S_316 : LK "SignSquares" 316 m_Layout_smallestSigns := Or.inl (tm_5 (List.mem_of_getElem? (i := 115) rfl))
theorem lk_S_319 : LK "SignSquares" 319 m_Line_get := Or.inl (tm_3 (List.mem_of_getElem? (i := 87) rfl))
theorem lk_S_323 : LK "SignSquares" 323 m_S_tightest := Or.inl (tm_5 (List.mem_of_getElem? (i := 138) rfl))
theorem lk_S_326 : LK "SignSquares" 326 m_Arranger_waysOf := Or.inl (tm_5 (List.mem_of_getElem? (i := 143) rfl))
theorem lk_S_329 : LK "SignSquares" 329 m_Speller_told := Or.inl (tm_5 (List.mem_of_getElem? (i := 156) rfl))
theorem lk_S_331 : LK "SignSquares" 331 m_Speller_begin := Or.inl (tm_4 (List.mem_of_getElem? (i := 2) rfl))
theorem lk_S_333 : LK "SignSquares" 333 m_Speller_writeAll := Or.inl (tm_5 (List.mem_of_getElem? (i := 168) rfl))
theorem lk_S_337 : LK "SignSquares" 337 m_Speller_writeLine := Or.inl (tm_5 (List.mem_of_getElem? (i := 205) rfl))
theorem lk_S_341 : LK "SignSquares" 341 m_Speller_writePart := Or.inr ⟨"SignSquares", tm_4 (List.mem_of_getElem? (i := 6) rfl)⟩
theorem lk_S_345 : LK "SignSquares" 345 m_Moment_squares := Or.inl (tm_5 (List.mem_of_getElem? (i := 210) rfl))
theorem lk_S_347 : LK "SignSquares" 347 m_Moment_signs := Or.inl (tm_5 (List.mem_of_getElem? (i := 215) rfl))
theorem lk_S_348 : LK "SignSquares" 348 m_Table_told := Or.inl (tm_5 (List.mem_of_getElem? (i := 220) rfl))
theorem lk_S_349 : LK "SignSquares" 349 m_Table_cores := Or.inl (tm_5 (List.mem_of_getElem? (i := 221) rfl))
theorem lk_S_352 : LK "SignSquares" 352 m_Moment_get := Or.inl (tm_3 (List.mem_of_getElem? (i := 83) rfl))
theorem lk_S_354 : LK "SignSquares" 354 m_Line_timesOf := Or.inl (tm_4 (List.mem_of_getElem? (i := 199) rfl))
theorem lk_S_355 : LK "SignSquares" 355 m_Line_with := Or.inl (tm_3 (List.mem_of_getElem? (i := 134) rfl))
theorem lk_S_358 : LK "SignSquares" 358 m_Moment_with := Or.inl (tm_3 (List.mem_of_getElem? (i := 146) rfl))
theorem lk_S_361 : LK "SignSquares" 361 m_Draft_makeNormal := Or.inl (tm_3 (List.mem_of_getElem? (i := 198) rfl))
theorem lk_S_364 : LK "SignSquares" 364 m_Arranger_knows := Or.inl (tm_4 (List.mem_of_getElem? (i := 74) rfl))
theorem lk_S_368 : LK "SignSquares" 368 m_Arranger_find := Or.inl (tm_4 (List.mem_of_getElem? (i := 78) rfl))
theorem lk_S_376 : LK "SignSquares" 376 m_Layout_measure := Or.inl (tm_4 (List.mem_of_getElem? (i := 225) rfl))
theorem lk_S_380 : LK "SignSquares" 380 m_Layout_place := Or.inl (tm_5 (List.mem_of_getElem? (i := 59) rfl))
theorem lk_S_383 : LK "SignSquares" 383 m_Layout_mirrorAll := Or.inl (tm_5 (List.mem_of_getElem? (i := 78) rfl))
theorem lk_S_386 : LK "SignSquares" 386 m_Layout_span := Or.inl (tm_5 (List.mem_of_getElem? (i := 28) rfl))
theorem lk_S_389 : LK "SignSquares" 389 m_S_greatestDivisor := Or.inl (tm_5 (List.mem_of_getElem? (i := 35) rfl))
theorem lo_Arranger_3 : Cond.methodLink "SignSquares$Arranger" 3 Lib.objectInit ∈ lw_tbl := tm_1 (List.mem_of_getElem? (i := 217) rfl)
theorem lk_Arranger_68 : LK "SignSquares$Arranger" 68 m_Arranger_makeSigns := Or.inl (tm_4 (List.mem_of_getElem? (i := 82) rfl))
theorem lk_Arranger_72 : LK "SignSquares$Arranger" 72 m_Arranger_makeSpan := Or.inl (tm_4 (List.mem_of_getElem? (i := 117) rfl))
theorem lk_Arranger_76 : LK "SignSquares$Arranger" 76 m_Draft_clear := Or.inl (tm_4 (List.mem_of_getElem? (i := 149) rfl))
theorem lk_Arranger_81 : LK "SignSquares$Arranger" 81 m_Arranger_spanOfSigns := Or.inl (tm_4 (List.mem_of_getElem? (i := 89) rfl))
theorem lk_Arranger_85 : LK "SignSquares$Arranger" 85 m_Arranger_bestForm := Or.inl (tm_4 (List.mem_of_getElem? (i := 150) rfl))
theorem lk_Arranger_88 : LK "SignSquares$Arranger" 88 m_Arranger_write := Or.inl (tm_4 (List.mem_of_getElem? (i := 158) rfl))
theorem lk_Arranger_92 : LK "SignSquares$Arranger" 92 m_Draft_made := Or.inl (tm_4 (List.mem_of_getElem? (i := 164) rfl))
theorem lk_Arranger_96 : LK "SignSquares$Arranger" 96 m_Sq_length := Or.inl (tm_4 (List.mem_of_getElem? (i := 86) rfl))
theorem lk_Arranger_102 : LK "SignSquares$Arranger" 102 m_Sq_symbol := Or.inl (tm_4 (List.mem_of_getElem? (i := 87) rfl))
theorem lk_Arranger_106 : LK "SignSquares$Arranger" 106 m_S_isJoint := Or.inr ⟨"SignSquares", tm_4 (List.mem_of_getElem? (i := 88) rfl)⟩
theorem lk_Arranger_110 : LK "SignSquares$Arranger" 110 m_Arranger_keep := Or.inl (tm_4 (List.mem_of_getElem? (i := 94) rfl))
theorem lk_Arranger_113 : LK "SignSquares$Arranger" 113 m_S_letterOf := Or.inr ⟨"SignSquares", tm_4 (List.mem_of_getElem? (i := 98) rfl)⟩
theorem lk_Arranger_116 : LK "SignSquares$Arranger" 116 m_Table_wideOf := Or.inl (tm_4 (List.mem_of_getElem? (i := 99) rfl))
theorem lk_Arranger_121 : LK "SignSquares$Arranger" 121 m_Table_highOf := Or.inl (tm_4 (List.mem_of_getElem? (i := 103) rfl))
theorem lk_Arranger_124 : LK "SignSquares$Arranger" 124 m_Arranger_keepSize := Or.inl (tm_4 (List.mem_of_getElem? (i := 107) rfl))
theorem lk_Arranger_130 : LK "SignSquares$Arranger" 130 m_Arranger_keepText := Or.inl (tm_4 (List.mem_of_getElem? (i := 112) rfl))
theorem lk_Arranger_134 : LK "SignSquares$Arranger" 134 m_Sq_endOf := Or.inl (tm_4 (List.mem_of_getElem? (i := 116) rfl))
theorem lk_Arranger_145 : LK "SignSquares$Arranger" 145 m_Arranger_makePairs := Or.inl (tm_4 (List.mem_of_getElem? (i := 121) rfl))
theorem lk_Arranger_148 : LK "SignSquares$Arranger" 148 m_Arranger_isForm := Or.inl (tm_4 (List.mem_of_getElem? (i := 125) rfl))
theorem lk_Arranger_151 : LK "SignSquares$Arranger" 151 m_Arranger_makeBeside := Or.inl (tm_4 (List.mem_of_getElem? (i := 129) rfl))
theorem lk_Arranger_154 : LK "SignSquares$Arranger" 154 m_Arranger_makeAbove := Or.inl (tm_4 (List.mem_of_getElem? (i := 144) rfl))
theorem lk_Arranger_157 : LK "SignSquares$Arranger" 157 m_Arranger_partText := Or.inl (tm_4 (List.mem_of_getElem? (i := 133) rfl))
theorem lk_Arranger_165 : LK "SignSquares$Arranger" 165 m_Arranger_partDigits := Or.inl (tm_4 (List.mem_of_getElem? (i := 140) rfl))
theorem lk_Arranger_172 : LK "SignSquares$Arranger" 172 m_Arranger_isBetter := Or.inl (tm_4 (List.mem_of_getElem? (i := 154) rfl))
theorem lk_Arranger_176 : LK "SignSquares$Arranger" 176 m_Draft_putAll := Or.inl (tm_4 (List.mem_of_getElem? (i := 162) rfl))
theorem lk_Arranger_180 : LK "SignSquares$Arranger" 180 m_Draft_put := Or.inl (tm_4 (List.mem_of_getElem? (i := 163) rfl))
theorem lo_Draft_3 : Cond.methodLink "SignSquares$Draft" 3 Lib.objectInit ∈ lw_tbl := tm_1 (List.mem_of_getElem? (i := 80) rfl)
theorem lk_Draft_19 : LK "SignSquares$Draft" 19 m_Draft_clear := Or.inl (tm_3 (List.mem_of_getElem? (i := 113) rfl))
theorem lk_Draft_22 : LK "SignSquares$Draft" 22 m_Sq_length := Or.inl (tm_3 (List.mem_of_getElem? (i := 114) rfl))
theorem lk_Draft_27 : LK "SignSquares$Draft" 27 m_Draft_putAll := Or.inl (tm_3 (List.mem_of_getElem? (i := 118) rfl))
theorem lk_Draft_31 : LK "SignSquares$Draft" 31 m_Draft_putAhead := Or.inl (tm_2 (List.mem_of_getElem? (i := 223) rfl))
theorem lk_Draft_35 : LK "SignSquares$Draft" 35 m_Sq_symbol := Or.inl (tm_3 (List.mem_of_getElem? (i := 122) rfl))
theorem lk_Draft_39 : LK "SignSquares$Draft" 39 m_Draft_put := Or.inl (tm_3 (List.mem_of_getElem? (i := 123) rfl))
theorem lk_Draft_43 : LK "SignSquares$Draft" 43 m_S_isJoint := Or.inr ⟨"SignSquares", tm_3 (List.mem_of_getElem? (i := 0) rfl)⟩
theorem lk_Draft_47 : LK "SignSquares$Draft" 47 m_Draft_openBrackets := Or.inl (tm_3 (List.mem_of_getElem? (i := 3) rfl))
theorem lk_Draft_50 : LK "SignSquares$Draft" 50 m_S_endOfPart := Or.inr ⟨"SignSquares", tm_3 (List.mem_of_getElem? (i := 7) rfl)⟩
theorem lk_Draft_54 : LK "SignSquares$Draft" 54 m_Arrays_copyOf := Or.inl (tm_3 (List.mem_of_getElem? (i := 23) rfl))
theorem lk_Draft_60 : LK "SignSquares$Draft" 60 m_Sq_init := Or.inl (tm_3 (List.mem_of_getElem? (i := 37) rfl))
theorem lo_Layout_3 : Cond.methodLink "SignSquares$Layout" 3 Lib.objectInit ∈ lw_tbl := tm_1 (List.mem_of_getElem? (i := 147) rfl)
theorem lk_Layout_38 : LK "SignSquares$Layout" 38 m_Layout_wideAt := Or.inl (tm_5 (List.mem_of_getElem? (i := 1) rfl))
theorem lk_Layout_42 : LK "SignSquares$Layout" 42 m_Layout_highAt := Or.inl (tm_5 (List.mem_of_getElem? (i := 6) rfl))
theorem lk_Layout_51 : LK "SignSquares$Layout" 51 m_Sq_length := Or.inl (tm_4 (List.mem_of_getElem? (i := 229) rfl))
theorem lk_Layout_59 : LK "SignSquares$Layout" 59 m_Sq_symbol := Or.inl (tm_4 (List.mem_of_getElem? (i := 231) rfl))
theorem lk_Layout_62 : LK "SignSquares$Layout" 62 m_S_isJoint := Or.inr ⟨"SignSquares", tm_4 (List.mem_of_getElem? (i := 232) rfl)⟩
theorem lk_Layout_66 : LK "SignSquares$Layout" 66 m_Layout_measureBoth := Or.inl (tm_4 (List.mem_of_getElem? (i := 233) rfl))
theorem lk_Layout_70 : LK "SignSquares$Layout" 70 m_S_letterOf := Or.inr ⟨"SignSquares", tm_5 (List.mem_of_getElem? (i := 10) rfl)⟩
theorem lk_Layout_73 : LK "SignSquares$Layout" 73 m_Table_wideOf := Or.inl (tm_5 (List.mem_of_getElem? (i := 11) rfl))
theorem lk_Layout_78 : LK "SignSquares$Layout" 78 m_Table_highOf := Or.inl (tm_5 (List.mem_of_getElem? (i := 12) rfl))
theorem lk_Layout_81 : LK "SignSquares$Layout" 81 m_S_holds := Or.inr ⟨"SignSquares", tm_5 (List.mem_of_getElem? (i := 13) rfl)⟩
theorem lk_Layout_84 : LK "SignSquares$Layout" 84 m_Layout_endAt := Or.inl (tm_4 (List.mem_of_getElem? (i := 237) rfl))
theorem lk_Layout_87 : LK "SignSquares$Layout" 87 m_Layout_span := Or.inl (tm_5 (List.mem_of_getElem? (i := 63) rfl))
theorem lk_Layout_90 : LK "SignSquares$Layout" 90 m_Layout_lay := Or.inl (tm_5 (List.mem_of_getElem? (i := 64) rfl))
theorem lk_Layout_94 : LK "SignSquares$Layout" 94 m_Layout_placeBoth := Or.inl (tm_5 (List.mem_of_getElem? (i := 68) rfl))
theorem lk_Layout_98 : LK "SignSquares$Layout" 98 m_Table_coreWideOf := Or.inl (tm_5 (List.mem_of_getElem? (i := 72) rfl))
theorem lk_Layout_101 : LK "SignSquares$Layout" 101 m_Table_coreHighOf := Or.inl (tm_5 (List.mem_of_getElem? (i := 73) rfl))
theorem lk_Layout_104 : LK "SignSquares$Layout" 104 m_Layout_placeInside := Or.inl (tm_5 (List.mem_of_getElem? (i := 74) rfl))
theorem lk_Layout_113 : LK "SignSquares$Layout" 113 m_Layout_compareScales := Or.inl (tm_5 (List.mem_of_getElem? (i := 119) rfl))
theorem lk_Layout_116 : LK "SignSquares$Layout" 116 m_Long_compare := Or.inl (tm_5 (List.mem_of_getElem? (i := 123) rfl))
theorem lo_Line_1 : Cond.methodLink "SignSquares$Line" 1 Lib.objectInit ∈ lw_tbl := tm_3 (List.mem_of_getElem? (i := 54) rfl)
theorem lk_Line_17 : LK "SignSquares$Line" 17 m_Line_has := Or.inl (tm_3 (List.mem_of_getElem? (i := 91) rfl))
theorem lk_Line_21 : LK "SignSquares$Line" 21 m_Sq_signs := Or.inl (tm_4 (List.mem_of_getElem? (i := 216) rfl))
theorem lk_Line_27 : LK "SignSquares$Line" 27 m_Sq_timesOf := Or.inl (tm_4 (List.mem_of_getElem? (i := 203) rfl))
theorem lk_Line_31 : LK "SignSquares$Line" 31 m_Line_get := Or.inl (tm_3 (List.mem_of_getElem? (i := 139) rfl))
theorem lk_Line_35 : LK "SignSquares$Line" 35 m_Line_init := Or.inl (tm_3 (List.mem_of_getElem? (i := 141) rfl))
theorem lo_Moment_1 : Cond.methodLink "SignSquares$Moment" 1 Lib.objectInit ∈ lw_tbl := tm_1 (List.mem_of_getElem? (i := 55) rfl)
theorem lk_Moment_20 : LK "SignSquares$Moment" 20 m_Line_size := Or.inl (tm_5 (List.mem_of_getElem? (i := 214) rfl))
theorem lk_Moment_26 : LK "SignSquares$Moment" 26 m_Line_signs := Or.inl (tm_5 (List.mem_of_getElem? (i := 219) rfl))
theorem lk_Moment_29 : LK "SignSquares$Moment" 29 m_Moment_get := Or.inl (tm_3 (List.mem_of_getElem? (i := 151) rfl))
theorem lk_Moment_33 : LK "SignSquares$Moment" 33 m_Moment_init := Or.inl (tm_3 (List.mem_of_getElem? (i := 153) rfl))
theorem lo_Reader_3 : Cond.methodLink "SignSquares$Reader" 3 Lib.objectInit ∈ lw_tbl := tm_1 (List.mem_of_getElem? (i := 94) rfl)
theorem lk_Reader_21 : LK "SignSquares$Reader" 21 m_Draft_init := Or.inr ⟨"SignSquares", tm_1 (List.mem_of_getElem? (i := 96) rfl)⟩
theorem lk_Reader_46 : LK "SignSquares$Reader" 46 m_Table_init := Or.inr ⟨"SignSquares", tm_1 (List.mem_of_getElem? (i := 101) rfl)⟩
theorem lk_Reader_74 : LK "SignSquares$Reader" 74 m_Moment_init := Or.inl (tm_3 (List.mem_of_getElem? (i := 70) rfl))
theorem lk_Reader_77 : LK "SignSquares$Reader" 77 m_Reader_next := Or.inl (tm_2 (List.mem_of_getElem? (i := 74) rfl))
theorem lk_Reader_82 : LK "SignSquares$Reader" 82 m_Reader_takeWord := Or.inl (tm_2 (List.mem_of_getElem? (i := 83) rfl))
theorem lk_Reader_86 : LK "SignSquares$Reader" 86 m_Reader_readNumber := Or.inl (tm_2 (List.mem_of_getElem? (i := 149) rfl))
theorem lk_Reader_92 : LK "SignSquares$Reader" 92 m_Reader_readTold := Or.inl (tm_2 (List.mem_of_getElem? (i := 158) rfl))
theorem lk_Reader_98 : LK "SignSquares$Reader" 98 m_Reader_readLine := Or.inl (tm_2 (List.mem_of_getElem? (i := 194) rfl))
theorem lk_Reader_101 : LK "SignSquares$Reader" 101 m_Reader_takeMark := Or.inl (tm_2 (List.mem_of_getElem? (i := 215) rfl))
theorem lk_Reader_105 : LK "SignSquares$Reader" 105 m_Reader_nextLetter := Or.inl (tm_2 (List.mem_of_getElem? (i := 162) rfl))
theorem lk_Reader_108 : LK "SignSquares$Reader" 108 m_Table_has := Or.inl (tm_2 (List.mem_of_getElem? (i := 166) rfl))
theorem lk_Reader_111 : LK "SignSquares$Reader" 111 m_Table_told := Or.inl (tm_2 (List.mem_of_getElem? (i := 173) rfl))
theorem lk_Reader_114 : LK "SignSquares$Reader" 114 m_Table_tell := Or.inl (tm_2 (List.mem_of_getElem? (i := 180) rfl))
theorem lk_Reader_120 : LK "SignSquares$Reader" 120 m_Reader_readCore := Or.inl (tm_2 (List.mem_of_getElem? (i := 185) rfl))
theorem lk_Reader_124 : LK "SignSquares$Reader" 124 m_Table_tellCore := Or.inl (tm_2 (List.mem_of_getElem? (i := 189) rfl))
theorem lk_Reader_129 : LK "SignSquares$Reader" 129 m_Draft_clear := Or.inl (tm_2 (List.mem_of_getElem? (i := 199) rfl))
theorem lk_Reader_132 : LK "SignSquares$Reader" 132 m_Reader_readGroup := Or.inl (tm_2 (List.mem_of_getElem? (i := 203) rfl))
theorem lk_Reader_136 : LK "SignSquares$Reader" 136 m_Draft_makeNormal := Or.inl (tm_2 (List.mem_of_getElem? (i := 236) rfl))
theorem lk_Reader_139 : LK "SignSquares$Reader" 139 m_Draft_made := Or.inl (tm_3 (List.mem_of_getElem? (i := 17) rfl))
theorem lk_Reader_143 : LK "SignSquares$Reader" 143 m_Reader_keepLine := Or.inl (tm_3 (List.mem_of_getElem? (i := 45) rfl))
theorem lk_Reader_147 : LK "SignSquares$Reader" 147 m_Line_init := Or.inl (tm_3 (List.mem_of_getElem? (i := 51) rfl))
theorem lk_Reader_151 : LK "SignSquares$Reader" 151 m_Reader_readPart := Or.inl (tm_2 (List.mem_of_getElem? (i := 207) rfl))
theorem lk_Reader_154 : LK "SignSquares$Reader" 154 m_Draft_putAhead := Or.inl (tm_2 (List.mem_of_getElem? (i := 235) rfl))
theorem lk_Reader_158 : LK "SignSquares$Reader" 158 m_Reader_takeOpening := Or.inl (tm_2 (List.mem_of_getElem? (i := 211) rfl))
theorem lk_Reader_162 : LK "SignSquares$Reader" 162 m_Draft_put := Or.inl (tm_2 (List.mem_of_getElem? (i := 219) rfl))
theorem lk_Reader_166 : LK "SignSquares$Reader" 166 m_Draft_change := Or.inl (tm_2 (List.mem_of_getElem? (i := 227) rfl))
theorem lk_Reader_169 : LK "SignSquares$Reader" 169 m_Table_hasCore := Or.inl (tm_2 (List.mem_of_getElem? (i := 231) rfl))
theorem lk_Reader_172 : LK "SignSquares$Reader" 172 m_Reader_byteAt := Or.inl (tm_2 (List.mem_of_getElem? (i := 78) rfl))
theorem lk_Reader_176 : LK "SignSquares$Reader" 176 m_Reader_isGlued := Or.inl (tm_2 (List.mem_of_getElem? (i := 87) rfl))
theorem lk_Reader_179 : LK "SignSquares$Reader" 179 m_Reader_wordEnd := Or.inl (tm_2 (List.mem_of_getElem? (i := 97) rfl))
theorem lk_Reader_182 : LK "SignSquares$Reader" 182 m_String_length := Or.inl (tm_2 (List.mem_of_getElem? (i := 101) rfl))
theorem lk_Reader_186 : LK "SignSquares$Reader" 186 m_String_charAt := Or.inl (tm_2 (List.mem_of_getElem? (i := 111) rfl))
theorem lk_Reader_190 : LK "SignSquares$Reader" 190 m_Reader_isDigit := Or.inl (tm_2 (List.mem_of_getElem? (i := 94) rfl))
theorem lk_Reader_193 : LK "SignSquares$Reader" 193 m_Reader_isSmallLetter := Or.inl (tm_2 (List.mem_of_getElem? (i := 91) rfl))
theorem lo_Speller_3 : Cond.methodLink "SignSquares$Speller" 3 Lib.objectInit ∈ lw_tbl := tm_1 (List.mem_of_getElem? (i := 180) rfl)
theorem lk_Speller_42 : LK "SignSquares$Speller" 42 m_Speller_writeWord := Or.inl (tm_5 (List.mem_of_getElem? (i := 173) rfl))
theorem lk_Speller_50 : LK "SignSquares$Speller" 50 m_Speller_writeNumber := Or.inl (tm_5 (List.mem_of_getElem? (i := 179) rfl))
theorem lk_Speller_54 : LK "SignSquares$Speller" 54 m_Speller_writeMark := Or.inl (tm_4 (List.mem_of_getElem? (i := 36) rfl))
theorem lk_Speller_61 : LK "SignSquares$Speller" 61 m_Table_has := Or.inl (tm_5 (List.mem_of_getElem? (i := 184) rfl))
theorem lk_Speller_67 : LK "SignSquares$Speller" 67 m_Speller_writeTold := Or.inl (tm_5 (List.mem_of_getElem? (i := 185) rfl))
theorem lk_Speller_75 : LK "SignSquares$Speller" 75 m_Moment_get := Or.inl (tm_5 (List.mem_of_getElem? (i := 196) rfl))
theorem lk_Speller_79 : LK "SignSquares$Speller" 79 m_Speller_writeLine := Or.inl (tm_5 (List.mem_of_getElem? (i := 197) rfl))
theorem lk_Speller_85 : LK "SignSquares$Speller" 85 m_Speller_writeLetter := Or.inl (tm_4 (List.mem_of_getElem? (i := 18) rfl))
theorem lk_Speller_88 : LK "SignSquares$Speller" 88 m_Table_wideOf := Or.inl (tm_5 (List.mem_of_getElem? (i := 190) rfl))
theorem lk_Speller_92 : LK "SignSquares$Speller" 92 m_Table_highOf := Or.inl (tm_5 (List.mem_of_getElem? (i := 191) rfl))
theorem lk_Speller_95 : LK "SignSquares$Speller" 95 m_Table_hasCore := Or.inl (tm_5 (List.mem_of_getElem? (i := 192) rfl))
theorem lk_Speller_100 : LK "SignSquares$Speller" 100 m_Table_coreWideOf := Or.inl (tm_5 (List.mem_of_getElem? (i := 194) rfl))
theorem lk_Speller_103 : LK "SignSquares$Speller" 103 m_Table_coreHighOf := Or.inl (tm_5 (List.mem_of_getElem? (i := 195) rfl))
theorem lk_Speller_114 : LK "SignSquares$Speller" 114 m_Line_size := Or.inl (tm_5 (List.mem_of_getElem? (i := 203) rfl))
theorem lk_Speller_118 : LK "SignSquares$Speller" 118 m_Line_get := Or.inl (tm_5 (List.mem_of_getElem? (i := 204) rfl))
theorem lk_Speller_121 : LK "SignSquares$Speller" 121 m_Speller_writePart := Or.inl (tm_4 (List.mem_of_getElem? (i := 40) rfl))
theorem lk_Speller_125 : LK "SignSquares$Speller" 125 m_Sq_length := Or.inl (tm_4 (List.mem_of_getElem? (i := 10) rfl))
theorem lk_Speller_129 : LK "SignSquares$Speller" 129 m_Sq_symbol := Or.inl (tm_4 (List.mem_of_getElem? (i := 11) rfl))
theorem lk_Speller_132 : LK "SignSquares$Speller" 132 m_S_isJoint := Or.inr ⟨"SignSquares", tm_4 (List.mem_of_getElem? (i := 12) rfl)⟩
theorem lk_Speller_135 : LK "SignSquares$Speller" 135 m_Speller_writeSign := Or.inl (tm_4 (List.mem_of_getElem? (i := 13) rfl))
theorem lk_Speller_139 : LK "SignSquares$Speller" 139 m_Speller_writeOpening := Or.inl (tm_4 (List.mem_of_getElem? (i := 32) rfl))
theorem lk_Speller_142 : LK "SignSquares$Speller" 142 m_Speller_writeClosing := Or.inl (tm_4 (List.mem_of_getElem? (i := 41) rfl))
theorem lk_Speller_145 : LK "SignSquares$Speller" 145 m_S_letterOf := Or.inr ⟨"SignSquares", tm_4 (List.mem_of_getElem? (i := 17) rfl)⟩
theorem lk_Speller_148 : LK "SignSquares$Speller" 148 m_S_holds := Or.inr ⟨"SignSquares", tm_4 (List.mem_of_getElem? (i := 30) rfl)⟩
theorem lk_Speller_157 : LK "SignSquares$Speller" 157 m_Speller_put := Or.inl (tm_4 (List.mem_of_getElem? (i := 26) rfl))
theorem lk_Speller_160 : LK "SignSquares$Speller" 160 m_Speller_beginWord := Or.inl (tm_4 (List.mem_of_getElem? (i := 22) rfl))
theorem lk_Speller_163 : LK "SignSquares$Speller" 163 m_String_length := Or.inl (tm_5 (List.mem_of_getElem? (i := 177) rfl))
theorem lk_Speller_166 : LK "SignSquares$Speller" 166 m_String_charAt := Or.inl (tm_5 (List.mem_of_getElem? (i := 178) rfl))
theorem lo_Sq_3 : Cond.methodLink "SignSquares$Square" 3 Lib.objectInit ∈ lw_tbl := tm_3 (List.mem_of_getElem? (i := 40) rfl)
theorem lk_Sq_15 : LK "SignSquares$Square" 15 m_S_endOfPart := Or.inr ⟨"SignSquares", tm_3 (List.mem_of_getElem? (i := 173) rfl)⟩
theorem lk_Sq_19 : LK "SignSquares$Square" 19 m_Sq_numberAt := Or.inl (tm_3 (List.mem_of_getElem? (i := 191) rfl))
theorem lk_Sq_23 : LK "SignSquares$Square" 23 m_S_isJoint := Or.inr ⟨"SignSquares", tm_3 (List.mem_of_getElem? (i := 100) rfl)⟩
theorem lk_Sq_33 : LK "SignSquares$Square" 33 m_S_holds := Or.inr ⟨"SignSquares", tm_3 (List.mem_of_getElem? (i := 168) rfl)⟩
theorem lk_Sq_36 : LK "SignSquares$Square" 36 m_Sq_endOf := Or.inl (tm_3 (List.mem_of_getElem? (i := 169) rfl))
theorem lk_Sq_42 : LK "SignSquares$Square" 42 m_S_letterOf := Or.inr ⟨"SignSquares", tm_4 (List.mem_of_getElem? (i := 207) rfl)⟩
theorem lo_Table_3 : Cond.methodLink "SignSquares$Table" 3 Lib.objectInit ∈ lw_tbl := tm_1 (List.mem_of_getElem? (i := 33) rfl)
theorem lk_Table_24 : LK "SignSquares$Table" 24 m_Table_sizeIn := Or.inl (tm_2 (List.mem_of_getElem? (i := 170) rfl))
theorem lk_Table_28 : LK "SignSquares$Table" 28 m_Table_filled := Or.inl (tm_2 (List.mem_of_getElem? (i := 177) rfl))
theorem lo_M_7 : Cond.methodLink "SignSquaresModel" 7 Lib.objectInit ∈ lw_tbl := tm_5 (List.mem_of_getElem? (i := 230) rfl)
theorem lk_M_167 : LK "SignSquaresModel" 167 m_M_in := Or.inl (tm_6 (List.mem_of_getElem? (i := 230) rfl))
theorem lk_M_174 : LK "SignSquaresModel" 174 m_M_isLine := Or.inl (tm_6 (List.mem_of_getElem? (i := 226) rfl))
theorem lk_M_178 : LK "SignSquaresModel" 178 m_M_squaresOf := Or.inl (tm_6 (List.mem_of_getElem? (i := 233) rfl))
theorem lk_M_182 : LK "SignSquaresModel" 182 m_M_partsOf := Or.inl (tm_7 (List.mem_of_getElem? (i := 27) rfl))
theorem lk_M_185 : LK "SignSquaresModel" 185 m_M_placeOf := Or.inl (tm_7 (List.mem_of_getElem? (i := 1) rfl))
theorem lk_M_195 : LK "SignSquaresModel" 195 m_M_adds := Or.inl (tm_7 (List.mem_of_getElem? (i := 126) rfl))
theorem lk_M_199 : LK "SignSquaresModel" 199 m_M_isSign := Or.inl (tm_7 (List.mem_of_getElem? (i := 8) rfl))
theorem lk_M_202 : LK "SignSquaresModel" 202 m_M_signsIn := Or.inl (tm_7 (List.mem_of_getElem? (i := 146) rfl))
theorem lk_M_206 : LK "SignSquaresModel" 206 m_M_isSquare := Or.inl (tm_6 (List.mem_of_getElem? (i := 222) rfl))
theorem lk_M_210 : LK "SignSquaresModel" 210 m_M_takes := Or.inl (tm_6 (List.mem_of_getElem? (i := 237) rfl))
theorem lk_M_214 : LK "SignSquaresModel" 214 m_M_nodeOf := Or.inl (tm_7 (List.mem_of_getElem? (i := 4) rfl))
theorem lk_M_217 : LK "SignSquaresModel" 217 m_M_letterOf := Or.inl (tm_7 (List.mem_of_getElem? (i := 24) rfl))
theorem lk_M_220 : LK "SignSquaresModel" 220 m_M_measures := Or.inl (tm_7 (List.mem_of_getElem? (i := 20) rfl))
theorem lk_M_223 : LK "SignSquaresModel" 223 m_M_common := Or.inl (tm_7 (List.mem_of_getElem? (i := 34) rfl))
theorem lk_M_234 : LK "SignSquaresModel" 234 m_M_tells := Or.inl (tm_7 (List.mem_of_getElem? (i := 30) rfl))
theorem lk_M_243 : LK "SignSquaresModel" 243 m_M_plus := Or.inl (tm_7 (List.mem_of_getElem? (i := 42) rfl))
theorem lk_M_246 : LK "SignSquaresModel" 246 m_M_begins := Or.inl (tm_7 (List.mem_of_getElem? (i := 38) rfl))
theorem lk_M_250 : LK "SignSquaresModel" 250 m_M_greatest := Or.inl (tm_7 (List.mem_of_getElem? (i := 16) rfl))
theorem lk_M_254 : LK "SignSquaresModel" 254 m_M_goesInside := Or.inl (tm_7 (List.mem_of_getElem? (i := 46) rfl))
theorem lk_M_257 : LK "SignSquaresModel" 257 m_M_takesSign := Or.inl (tm_6 (List.mem_of_getElem? (i := 218) rfl))
theorem lk_M_263 : LK "SignSquaresModel" 263 m_M_places := Or.inl (tm_7 (List.mem_of_getElem? (i := 12) rfl))
theorem lk_M_266 : LK "SignSquaresModel" 266 m_M_isLeft := Or.inl (tm_7 (List.mem_of_getElem? (i := 50) rfl))
theorem lk_M_269 : LK "SignSquaresModel" 269 m_M_boxOf := Or.inl (tm_7 (List.mem_of_getElem? (i := 54) rfl))
theorem lk_M_273 : LK "SignSquaresModel" 273 m_M_term := Or.inl (tm_7 (List.mem_of_getElem? (i := 58) rfl))
theorem lk_M_277 : LK "SignSquaresModel" 277 m_M_isWithin := Or.inl (tm_7 (List.mem_of_getElem? (i := 66) rfl))
theorem lk_M_281 : LK "SignSquaresModel" 281 m_M_tightestOf := Or.inl (tm_7 (List.mem_of_getElem? (i := 90) rfl))
theorem lk_M_284 : LK "SignSquaresModel" 284 m_M_scale := Or.inl (tm_7 (List.mem_of_getElem? (i := 98) rfl))
theorem lk_M_287 : LK "SignSquaresModel" 287 m_M_isTold := Or.inl (tm_7 (List.mem_of_getElem? (i := 103) rfl))
theorem lk_M_290 : LK "SignSquaresModel" 290 m_M_keeps := Or.inl (tm_7 (List.mem_of_getElem? (i := 107) rfl))
theorem lk_M_293 : LK "SignSquaresModel" 293 m_M_opens := Or.inl (tm_7 (List.mem_of_getElem? (i := 115) rfl))
theorem lk_M_296 : LK "SignSquaresModel" 296 m_M_endOf := Or.inl (tm_7 (List.mem_of_getElem? (i := 119) rfl))
theorem lk_M_300 : LK "SignSquaresModel" 300 m_M_addsAll := Or.inl (tm_7 (List.mem_of_getElem? (i := 122) rfl))
theorem lk_M_304 : LK "SignSquaresModel" 304 m_M_lays := Or.inl (tm_7 (List.mem_of_getElem? (i := 130) rfl))
theorem lk_M_307 : LK "SignSquaresModel" 307 m_M_signsOf := Or.inl (tm_7 (List.mem_of_getElem? (i := 142) rfl))
theorem lk_M_310 : LK "SignSquaresModel" 310 m_M_joins := Or.inl (tm_7 (List.mem_of_getElem? (i := 138) rfl))
theorem lk_M_313 : LK "SignSquaresModel" 313 m_M_removes := Or.inl (tm_7 (List.mem_of_getElem? (i := 149) rfl))
theorem lk_M_316 : LK "SignSquaresModel" 316 m_M_makesRoom := Or.inl (tm_7 (List.mem_of_getElem? (i := 157) rfl))
theorem lk_M_319 : LK "SignSquaresModel" 319 m_M_partAt := Or.inl (tm_7 (List.mem_of_getElem? (i := 165) rfl))
theorem lk_M_322 : LK "SignSquaresModel" 322 m_M_around := Or.inl (tm_7 (List.mem_of_getElem? (i := 173) rfl))
theorem lk_M_325 : LK "SignSquaresModel" 325 m_M_deepIn := Or.inl (tm_7 (List.mem_of_getElem? (i := 176) rfl))
theorem lk_M_328 : LK "SignSquaresModel" 328 m_M_becomes := Or.inl (tm_7 (List.mem_of_getElem? (i := 195) rfl))
theorem lk_M_334 : LK "SignSquaresModel" 334 m_M_writes := Or.inl (tm_7 (List.mem_of_getElem? (i := 223) rfl))
theorem lk_M_337 : LK "SignSquaresModel" 337 m_M_wordFrom := Or.inl (tm_7 (List.mem_of_getElem? (i := 219) rfl))
theorem lk_M_340 : LK "SignSquaresModel" 340 m_M_writesWord := Or.inl (tm_7 (List.mem_of_getElem? (i := 215) rfl))
theorem lk_M_343 : LK "SignSquaresModel" 343 m_M_isLetterFirst := Or.inl (tm_7 (List.mem_of_getElem? (i := 235) rfl))
theorem lk_M_347 : LK "SignSquaresModel" 347 m_M_writesRow := Or.inl (tm_7 (List.mem_of_getElem? (i := 239) rfl))
theorem lk_M_350 : LK "SignSquaresModel" 350 m_M_writesNumber := Or.inl (tm_7 (List.mem_of_getElem? (i := 227) rfl))
theorem lk_M_353 : LK "SignSquaresModel" 353 m_M_writesLine := Or.inl (tm_7 (List.mem_of_getElem? (i := 231) rfl))
theorem lk_M_356 : LK "SignSquaresModel" 356 m_M_writesAll := Or.inl (tm_7 (List.mem_of_getElem? (i := 211) rfl))
theorem lk_M_359 : LK "SignSquaresModel" 359 m_M_told := Or.inl (tm_8 (List.mem_of_getElem? (i := 3) rfl))
theorem lk_M_362 : LK "SignSquaresModel" 362 m_M_addsForm := Or.inl (tm_8 (List.mem_of_getElem? (i := 23) rfl))
theorem lk_M_366 : LK "SignSquaresModel" 366 m_M_keepsForm := Or.inl (tm_8 (List.mem_of_getElem? (i := 27) rfl))
theorem lk_M_369 : LK "SignSquaresModel" 369 m_M_laysForms := Or.inl (tm_8 (List.mem_of_getElem? (i := 19) rfl))
theorem lk_M_382 : LK "SignSquaresModel" 382 m_M_bracketsInText := Or.inl (tm_8 (List.mem_of_getElem? (i := 43) rfl))
theorem lk_M_388 : LK "SignSquaresModel" 388 m_M_isAhead := Or.inl (tm_8 (List.mem_of_getElem? (i := 47) rfl))
theorem lk_M_394 : LK "SignSquaresModel" 394 m_M_laysAllForms := Or.inl (tm_8 (List.mem_of_getElem? (i := 15) rfl))
theorem lk_M_397 : LK "SignSquaresModel" 397 m_M_laysItems := Or.inl (tm_8 (List.mem_of_getElem? (i := 31) rfl))
theorem lk_M_400 : LK "SignSquaresModel" 400 m_M_forms := Or.inl (tm_8 (List.mem_of_getElem? (i := 35) rfl))
theorem lk_M_403 : LK "SignSquaresModel" 403 m_M_compares := Or.inl (tm_8 (List.mem_of_getElem? (i := 39) rfl))
theorem lk_M_406 : LK "SignSquaresModel" 406 m_M_laysBest := Or.inl (tm_8 (List.mem_of_getElem? (i := 11) rfl))
theorem lk_M_409 : LK "SignSquaresModel" 409 m_M_standing := Or.inl (tm_8 (List.mem_of_getElem? (i := 71) rfl))
theorem lk_M_412 : LK "SignSquaresModel" 412 m_M_signsOfLine := Or.inl (tm_8 (List.mem_of_getElem? (i := 79) rfl))
theorem lk_M_415 : LK "SignSquaresModel" 415 m_M_deepInText := Or.inl (tm_8 (List.mem_of_getElem? (i := 87) rfl))
theorem lk_M_427 : LK "SignSquaresModel" 427 m_M_here := Or.inl (tm_8 (List.mem_of_getElem? (i := 123) rfl))
theorem lk_M_440 : LK "SignSquaresModel" 440 m_M_goesOn := Or.inl (tm_8 (List.mem_of_getElem? (i := 119) rfl))
theorem lk_M_443 : LK "SignSquaresModel" 443 m_M_isMark := Or.inl (tm_8 (List.mem_of_getElem? (i := 143) rfl))
theorem lk_M_446 : LK "SignSquaresModel" 446 m_M_letterHere := Or.inl (tm_8 (List.mem_of_getElem? (i := 151) rfl))
theorem lk_M_452 : LK "SignSquaresModel" 452 m_M_needsNumber := Or.inl (tm_8 (List.mem_of_getElem? (i := 135) rfl))
theorem lk_M_455 : LK "SignSquaresModel" 455 m_M_isWord := Or.inl (tm_8 (List.mem_of_getElem? (i := 131) rfl))
theorem lk_M_458 : LK "SignSquaresModel" 458 m_M_needsMark := Or.inl (tm_8 (List.mem_of_getElem? (i := 139) rfl))
theorem lk_M_467 : LK "SignSquaresModel" 467 m_M_node := Or.inl (tm_8 (List.mem_of_getElem? (i := 167) rfl))
theorem lk_M_470 : LK "SignSquaresModel" 470 m_M_only := Or.inl (tm_8 (List.mem_of_getElem? (i := 187) rfl))
theorem lk_M_473 : LK "SignSquaresModel" 473 m_M_appends := Or.inl (tm_8 (List.mem_of_getElem? (i := 179) rfl))
theorem lk_M_476 : LK "SignSquaresModel" 476 m_M_endsRow := Or.inl (tm_8 (List.mem_of_getElem? (i := 183) rfl))
theorem lk_M_479 : LK "SignSquaresModel" 479 m_M_opensGroup := Or.inl (tm_8 (List.mem_of_getElem? (i := 163) rfl))
theorem lk_M_488 : LK "SignSquaresModel" 488 m_M_endsGroup := Or.inl (tm_8 (List.mem_of_getElem? (i := 190) rfl))
theorem lk_M_491 : LK "SignSquaresModel" 491 m_M_beginsPart := Or.inl (tm_8 (List.mem_of_getElem? (i := 171) rfl))
theorem lk_M_494 : LK "SignSquaresModel" 494 m_M_endsPart := Or.inl (tm_8 (List.mem_of_getElem? (i := 175) rfl))
theorem lk_M_497 : LK "SignSquaresModel" 497 m_M_flattens := Or.inl (tm_8 (List.mem_of_getElem? (i := 194) rfl))
theorem lk_M_500 : LK "SignSquaresModel" 500 m_M_readsSquare := Or.inl (tm_8 (List.mem_of_getElem? (i := 159) rfl))
theorem lk_M_503 : LK "SignSquaresModel" 503 m_M_readsSign := Or.inl (tm_8 (List.mem_of_getElem? (i := 147) rfl))
theorem lk_M_506 : LK "SignSquaresModel" 506 m_M_readsLine := Or.inl (tm_8 (List.mem_of_getElem? (i := 155) rfl))
theorem lk_M_509 : LK "SignSquaresModel" 509 m_M_readsAll := Or.inl (tm_8 (List.mem_of_getElem? (i := 127) rfl))
theorem lw_Layout_38 : Cond.methodLink "SignSquares$Layout" 38 m_Layout_wideAt.1 ∈ lw_tbl := tm_5 (List.mem_of_getElem? (i := 1) rfl)
theorem lw_Layout_42 : Cond.methodLink "SignSquares$Layout" 42 m_Layout_highAt.1 ∈ lw_tbl := tm_5 (List.mem_of_getElem? (i := 6) rfl)
theorem lm_S_393 : Cond.methodLink "SignSquares" 393 Lib.MathLoose.abs_long.x ∈ lw_tbl := tm_5 (List.mem_of_getElem? (i := 38) rfl)
theorem lm_S_399 : Cond.methodLink "SignSquares" 399 Lib.Math.max.name ∈ lw_tbl := tm_3 (List.mem_of_getElem? (i := 10) rfl)
theorem lm_Arranger_137 : Cond.methodLink "SignSquares$Arranger" 137 Lib.Math.max.name ∈ lw_tbl := tm_4 (List.mem_of_getElem? (i := 93) rfl)
theorem lm_Arranger_142 : Cond.methodLink "SignSquares$Arranger" 142 Lib.Math.min.name ∈ lw_tbl := tm_4 (List.mem_of_getElem? (i := 92) rfl)
theorem lm_Layout_45 : Cond.methodLink "SignSquares$Layout" 45 Lib.Math.max.name ∈ lw_tbl := tm_5 (List.mem_of_getElem? (i := 5) rfl)
theorem lm_Layout_56 : Cond.methodLink "SignSquares$Layout" 56 Lib.Math.min.name ∈ lw_tbl := tm_4 (List.mem_of_getElem? (i := 230) rfl)
theorem lm_Layout_109 : Cond.methodLink "SignSquares$Layout" 109 Lib.MathLoose.abs_long.x ∈ lw_tbl := tm_5 (List.mem_of_getElem? (i := 102) rfl)
theorem lm_Line_38 : Cond.methodLink "SignSquares$Line" 38 Lib.Math.max.name ∈ lw_tbl := tm_3 (List.mem_of_getElem? (i := 203) rfl)
theorem lm_Reader_63 : Cond.methodLink "SignSquares$Reader" 63 Lib.Math.min.name ∈ lw_tbl := tm_2 (List.mem_of_getElem? (i := 153) rfl)
theorem lm_Reader_69 : Cond.methodLink "SignSquares$Reader" 69 Lib.Math.max.name ∈ lw_tbl := tm_3 (List.mem_of_getElem? (i := 49) rfl)
theorem lm_Speller_151 : Cond.methodLink "SignSquares$Speller" 151 Lib.Math.max.name ∈ lw_tbl := tm_4 (List.mem_of_getElem? (i := 31) rfl)
theorem lm_Sq_27 : Cond.methodLink "SignSquares$Square" 27 Lib.Math.min.name ∈ lw_tbl := tm_3 (List.mem_of_getElem? (i := 167) rfl)
theorem lm_Sq_39 : Cond.methodLink "SignSquares$Square" 39 Lib.Math.max.name ∈ lw_tbl := tm_3 (List.mem_of_getElem? (i := 229) rfl)
theorem lm_abs_s : Cond.static Lib.MathLoose.abs_long.x ∈ lw_tbl := tm_5 (List.mem_of_getElem? (i := 39) rfl)
theorem lm_abs_c : Cond.code Lib.MathLoose.abs_long.x Lib.MathLoose.abs_long.code 2 (some .long) ∈ lw_tbl := tm_5 (List.mem_of_getElem? (i := 40) rfl)
theorem lm_max_s : Cond.static Lib.Math.max.name ∈ lw_tbl := tm_3 (List.mem_of_getElem? (i := 11) rfl)
theorem lm_max_c : Cond.code Lib.Math.max.name Lib.Math.max.code 2 (some .int) ∈ lw_tbl := tm_3 (List.mem_of_getElem? (i := 12) rfl)
theorem lm_min_s : Cond.static Lib.Math.min.name ∈ lw_tbl := tm_2 (List.mem_of_getElem? (i := 154) rfl)
theorem lm_min_c : Cond.code Lib.Math.min.name Lib.Math.min.code 2 (some .int) ∈ lw_tbl := tm_2 (List.mem_of_getElem? (i := 155) rfl)
theorem lm_i : Cond.initialized "java/lang/Math" ∈ lw_tbl := tm_1 (List.mem_of_getElem? (i := 14) rfl)
theorem lo_inst : Cond.instanceMethod Lib.objectInit ∈ lw_tbl := tm_1 (List.mem_of_getElem? (i := 26) rfl)
theorem lo_code : Cond.code Lib.objectInit ⟨#[0xb1]⟩ 1 none ∈ lw_tbl := tm_1 (List.mem_of_getElem? (i := 27) rfl)
theorem nw_S_7 : Cond.classLink "SignSquares" 7 "SignSquares$Table" ∈ lw_tbl := tm_1 (List.mem_of_getElem? (i := 28) rfl)
theorem nw_S_16 : Cond.classLink "SignSquares" 16 "SignSquares$Moment" ∈ lw_tbl := tm_1 (List.mem_of_getElem? (i := 48) rfl)
theorem nw_S_18 : Cond.classLink "SignSquares" 18 "SignSquares$Line" ∈ lw_tbl := tm_1 (List.mem_of_getElem? (i := 50) rfl)
theorem nw_S_35 : Cond.classLink "SignSquares" 35 "SignSquares$Draft" ∈ lw_tbl := tm_1 (List.mem_of_getElem? (i := 75) rfl)
theorem nw_S_42 : Cond.classLink "SignSquares" 42 "SignSquares$Reader" ∈ lw_tbl := tm_1 (List.mem_of_getElem? (i := 89) rfl)
theorem nw_S_49 : Cond.classLink "SignSquares" 49 "SignSquares$Layout" ∈ lw_tbl := tm_1 (List.mem_of_getElem? (i := 142) rfl)
theorem nw_S_56 : Cond.classLink "SignSquares" 56 "SignSquares$Speller" ∈ lw_tbl := tm_1 (List.mem_of_getElem? (i := 175) rfl)
theorem nw_S_63 : Cond.classLink "SignSquares" 63 "SignSquares$Arranger" ∈ lw_tbl := tm_1 (List.mem_of_getElem? (i := 212) rfl)
theorem nw_Draft_23 : Cond.classLink "SignSquares$Draft" 23 "SignSquares$Square" ∈ lw_tbl := tm_3 (List.mem_of_getElem? (i := 21) rfl)
theorem nw_Line_8 : Cond.classLink "SignSquares$Line" 8 "SignSquares$Line" ∈ lw_tbl := tm_3 (List.mem_of_getElem? (i := 140) rfl)
theorem nw_Line_22 : Cond.classLink "SignSquares$Line" 22 "SignSquares$Square" ∈ lw_tbl := tm_3 (List.mem_of_getElem? (i := 138) rfl)
theorem nw_Moment_8 : Cond.classLink "SignSquares$Moment" 8 "SignSquares$Moment" ∈ lw_tbl := tm_3 (List.mem_of_getElem? (i := 152) rfl)
theorem nw_Moment_21 : Cond.classLink "SignSquares$Moment" 21 "SignSquares$Line" ∈ lw_tbl := tm_3 (List.mem_of_getElem? (i := 150) rfl)
theorem nw_Reader_19 : Cond.classLink "SignSquares$Reader" 19 "SignSquares$Draft" ∈ lw_tbl := tm_1 (List.mem_of_getElem? (i := 95) rfl)
theorem nw_Reader_26 : Cond.classLink "SignSquares$Reader" 26 "SignSquares$Square" ∈ lw_tbl := tm_1 (List.mem_of_getElem? (i := 97) rfl)
theorem nw_Reader_32 : Cond.classLink "SignSquares$Reader" 32 "SignSquares$Line" ∈ lw_tbl := tm_1 (List.mem_of_getElem? (i := 99) rfl)
theorem nw_Reader_44 : Cond.classLink "SignSquares$Reader" 44 "SignSquares$Table" ∈ lw_tbl := tm_1 (List.mem_of_getElem? (i := 100) rfl)
theorem nw_Reader_72 : Cond.classLink "SignSquares$Reader" 72 "SignSquares$Moment" ∈ lw_tbl := tm_3 (List.mem_of_getElem? (i := 69) rfl)
theorem ll_S_288 : Cond.constantLong "SignSquares" 288 (-1) ∈ lw_tbl := tm_5 (List.mem_of_getElem? (i := 41) rfl)
theorem ll_Arranger_128 : Cond.constantLong "SignSquares$Arranger" 128 (5) ∈ lw_tbl := tm_4 (List.mem_of_getElem? (i := 111) rfl)
theorem ll_Arranger_161 : Cond.constantLong "SignSquares$Arranger" 161 (8) ∈ lw_tbl := tm_4 (List.mem_of_getElem? (i := 137) rfl)
theorem ll_Arranger_163 : Cond.constantLong "SignSquares$Arranger" 163 (3) ∈ lw_tbl := tm_4 (List.mem_of_getElem? (i := 139) rfl)
theorem ll_Arranger_168 : Cond.constantLong "SignSquares$Arranger" 168 (4) ∈ lw_tbl := tm_4 (List.mem_of_getElem? (i := 148) rfl)
theorem ll_Arranger_170 : Cond.constantLong "SignSquares$Arranger" 170 (2) ∈ lw_tbl := tm_4 (List.mem_of_getElem? (i := 138) rfl)
theorem ll_Layout_107 : Cond.constantLong "SignSquares$Layout" 107 (2) ∈ lw_tbl := tm_5 (List.mem_of_getElem? (i := 90) rfl)
theorem ll_M_241 : Cond.constantLong "SignSquaresModel" 241 (2) ∈ lw_tbl := tm_7 (List.mem_of_getElem? (i := 37) rfl)
theorem ll_M_261 : Cond.constantLong "SignSquaresModel" 261 (-1) ∈ lw_tbl := tm_7 (List.mem_of_getElem? (i := 11) rfl)
