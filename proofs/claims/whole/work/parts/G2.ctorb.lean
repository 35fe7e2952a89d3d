/-! THE CONSTRUCTORS: their stretches, before all is made -/
theorem n_Reader_init_0 {E : EV} {d : Nat} {Q : Option AV → St → Prop} {σ : St} (h : (sh (al σ 21 400) 12 = some (5, 12)) ∧ WP E m_Reader_init (d + 1) 13 [(0, aP 12)] [] (wr (al σ 21 400) 12 0 (nx σ)) Q) : WP E m_Reader_init (d + 1) 0 [(0, aP 12)] [] σ Q := by
  refine s_aload_n 0 d_Reader_init_0 rfl rfl ?_
  refine s_objInit d_Reader_init_1 lo_Reader_3 lo_inst lo_code (by decide) (Nat.le_of_ble_eq_true rfl) ?_
  refine s_aload_n 0 d_Reader_init_4 rfl rfl ?_
  refine s_sipush d_Reader_init_5 (by decide) ?_
  refine s_newarray (kd := 21) d_Reader_init_8 (by decide) ac_21 (by decide) ?_
  obtain ⟨g1, h⟩ := h
  refine s_putf 0 rfl d_Reader_init_10 fl_Reader_9 (fun C T h => by cases h; exact Or.inr ⟨rfl, rfl, rfl, fk_Reader_9⟩) rfl (Or.inr (Or.inr (Or.inr (Or.inr ⟨_, rfl⟩)))) (fun h => nomatch h) g1 ?_
  exact h
theorem ne_Reader_init {E : EV} {d : Nat} {Q : Option AV → St → Prop} {σ : St} (h : (sh (al σ 21 400) 12 = some (5, 12)) ∧ WP E m_Reader_init (d + 1) 13 [(0, aP 12)] [] (wr (al σ 21 400) 12 0 (nx σ)) Q) : WM E m_Reader_init (d + 1) [aP 12] σ Q := s_meth (by decide) (Nat.le_of_ble_eq_true rfl) rfl (n_Reader_init_0 h)
theorem n_Reader_init_13 {E : EV} {d : Nat} {Q : Option AV → St → Prop} {σ : St} (h : (sh σ 12 = some (5, 12)) ∧ WP E m_Reader_init (d + 1) 18 [(0, aP 12)] [] (wr σ 12 1 0) Q) : WP E m_Reader_init (d + 1) 13 [(0, aP 12)] [] σ Q := by
  refine s_aload_n 0 d_Reader_init_13 rfl rfl ?_
  refine s_iconst d_Reader_init_14 ?_
  obtain ⟨g1, h⟩ := h
  refine s_putf 1 rfl d_Reader_init_15 fl_Reader_15 (fun C T h => by cases h; exact Or.inl rfl) rfl (Or.inl rfl) (fun h => nomatch h) g1 ?_
  exact h
theorem n_Reader_init_18 {E : EV} {d : Nat} {Q : Option AV → St → Prop} {σ : St} (h : (0 < (nx σ)) ∧ (WMv E m_Draft_init d [aP (nx σ)] (al σ 1 2) (fun σ1 => (sh σ1 12 = some (5, 12)) ∧ WP E m_Reader_init (d + 1) 29 [(0, aP 12)] [] (wr σ1 12 2 (nx σ)) Q))) : WP E m_Reader_init (d + 1) 18 [(0, aP 12)] [] σ Q := by
  refine s_aload_n 0 d_Reader_init_18 rfl rfl ?_
  refine s_new (ci := 1) d_Reader_init_19 (by decide) rfl inG1 tyX1_ok (df_1 E) nw_Reader_19 in_1 ii_1 ?_
  refine s_dup d_Reader_init_22 (Nat.ne_of_beq_eq_false rfl) ?_
  obtain ⟨g2, h⟩ := h
  refine s_callI (as := []) d_Reader_init_23 ok_Draft_init lk_Reader_21 io_Draft_init rfl rfl rfl (Nat.le_of_ble_eq_true rfl) rfl g2 (WM.mono h ?_)
  rintro _ σ1 ⟨rfl, hp, h⟩
  show WP E m_Reader_init (d + 1) 26 [(0, aP 12)] [aP (nx σ), aP 12] σ1 Q
  obtain ⟨g3, h⟩ := h
  refine s_putf 2 rfl d_Reader_init_26 fl_Reader_22 (fun C T h => by cases h; exact Or.inr ⟨rfl, rfl, rfl, fk_Reader_22⟩) rfl (Or.inr (Or.inr (Or.inr (Or.inl ⟨_, rfl⟩)))) (fun h => nomatch h) g3 ?_
  exact h
theorem n_Reader_init_29 {E : EV} {d : Nat} {Q : Option AV → St → Prop} {σ : St} (h : (sh (al σ 24 8) 12 = some (5, 12)) ∧ WP E m_Reader_init (d + 1) 38 [(0, aP 12)] [] (wr (al σ 24 8) 12 3 (nx σ)) Q) : WP E m_Reader_init (d + 1) 29 [(0, aP 12)] [] σ Q := by
  refine s_aload_n 0 d_Reader_init_29 rfl rfl ?_
  refine s_bipush d_Reader_init_30 (by decide) ?_
  refine s_anewarray (kd := 24) d_Reader_init_32 (by decide) rfl nw_Reader_26 (by decide) ?_
  obtain ⟨g1, h⟩ := h
  refine s_putf 3 rfl d_Reader_init_35 fl_Reader_28 (fun C T h => by cases h; exact Or.inr ⟨rfl, rfl, rfl, fk_Reader_28⟩) rfl (Or.inr (Or.inr (Or.inr (Or.inr ⟨_, rfl⟩)))) (fun h => nomatch h) g1 ?_
  exact h
theorem n_Reader_init_38 {E : EV} {d : Nat} {Q : Option AV → St → Prop} {σ : St} (h : (sh (al σ 25 4) 12 = some (5, 12)) ∧ WP E m_Reader_init (d + 1) 46 [(0, aP 12)] [] (wr (al σ 25 4) 12 4 (nx σ)) Q) : WP E m_Reader_init (d + 1) 38 [(0, aP 12)] [] σ Q := by
  refine s_aload_n 0 d_Reader_init_38 rfl rfl ?_
  refine s_iconst d_Reader_init_39 ?_
  refine s_anewarray (kd := 25) d_Reader_init_40 (by decide) rfl nw_Reader_32 (by decide) ?_
  obtain ⟨g1, h⟩ := h
  refine s_putf 4 rfl d_Reader_init_43 fl_Reader_34 (fun C T h => by cases h; exact Or.inr ⟨rfl, rfl, rfl, fk_Reader_34⟩) rfl (Or.inr (Or.inr (Or.inr (Or.inr ⟨_, rfl⟩)))) (fun h => nomatch h) g1 ?_
  exact h
theorem n_Reader_init_46 {E : EV} {d : Nat} {Q : Option AV → St → Prop} {σ : St} (h : (sh σ 12 = some (5, 12)) ∧ WP E m_Reader_init (d + 1) 51 [(0, aP 12)] [] (wr σ 12 5 0) Q) : WP E m_Reader_init (d + 1) 46 [(0, aP 12)] [] σ Q := by
  refine s_aload_n 0 d_Reader_init_46 rfl rfl ?_
  refine s_iconst d_Reader_init_47 ?_
  obtain ⟨g1, h⟩ := h
  refine s_putf 5 rfl d_Reader_init_48 fl_Reader_38 (fun C T h => by cases h; exact Or.inl rfl) rfl (Or.inl rfl) (fun h => nomatch h) g1 ?_
  exact h
theorem n_Reader_init_51 {E : EV} {d : Nat} {Q : Option AV → St → Prop} {σ : St} (h : (sh σ 12 = some (5, 12)) ∧ WP E m_Reader_init (d + 1) 56 [(0, aP 12)] [] (wr σ 12 6 0) Q) : WP E m_Reader_init (d + 1) 51 [(0, aP 12)] [] σ Q := by
  refine s_aload_n 0 d_Reader_init_51 rfl rfl ?_
  refine s_iconst d_Reader_init_52 ?_
  obtain ⟨g1, h⟩ := h
  refine s_putf 6 rfl d_Reader_init_53 fl_Reader_41 (fun C T h => by cases h; exact Or.inl rfl) rfl (Or.inl rfl) (fun h => nomatch h) g1 ?_
  exact h
theorem n_Reader_init_56 {E : EV} {d : Nat} {Q : Option AV → St → Prop} {σ : St} (h : (0 < (nx σ)) ∧ (WMv E m_Table_init d [aP (nx σ)] (al σ 8 4) (fun σ1 => (sh σ1 12 = some (5, 12)) ∧ WP E m_Reader_init (d + 1) 67 [(0, aP 12)] [] (wr σ1 12 7 (nx σ)) Q))) : WP E m_Reader_init (d + 1) 56 [(0, aP 12)] [] σ Q := by
  refine s_aload_n 0 d_Reader_init_56 rfl rfl ?_
  refine s_new (ci := 8) d_Reader_init_57 (by decide) rfl inG8 tyX8_ok (df_8 E) nw_Reader_44 in_8 ii_8 ?_
  refine s_dup d_Reader_init_60 (Nat.ne_of_beq_eq_false rfl) ?_
  obtain ⟨g2, h⟩ := h
  refine s_callI (as := []) d_Reader_init_61 ok_Table_init lk_Reader_46 io_Table_init rfl rfl rfl (Nat.le_of_ble_eq_true rfl) rfl g2 (WM.mono h ?_)
  rintro _ σ1 ⟨rfl, hp, h⟩
  show WP E m_Reader_init (d + 1) 64 [(0, aP 12)] [aP (nx σ), aP 12] σ1 Q
  obtain ⟨g3, h⟩ := h
  refine s_putf 7 rfl d_Reader_init_64 fl_Reader_47 (fun C T h => by cases h; exact Or.inl rfl) rfl (Or.inr (Or.inr (Or.inr (Or.inl ⟨_, rfl⟩)))) (fun h => nomatch h) g3 ?_
  exact h
theorem n_Reader_init_67 {E : EV} {d : Nat} {Q : Option AV → St → Prop} {σ : St} (h : (sh σ 12 = some (5, 12)) ∧ WP E m_Reader_init (d + 1) 72 [(0, aP 12)] [] (wr σ 12 8 0) Q) : WP E m_Reader_init (d + 1) 67 [(0, aP 12)] [] σ Q := by
  refine s_aload_n 0 d_Reader_init_67 rfl rfl ?_
  refine s_iconst d_Reader_init_68 ?_
  obtain ⟨g1, h⟩ := h
  refine s_putf 8 rfl d_Reader_init_69 fl_Reader_51 (fun C T h => by cases h; exact Or.inl rfl) rfl (Or.inl rfl) (fun h => nomatch h) g1 ?_
  exact h
theorem n_Reader_init_72 {E : EV} {d : Nat} {Q : Option AV → St → Prop} {σ : St} (h : (sh σ 12 = some (5, 12)) ∧ WP E m_Reader_init (d + 1) 78 [(0, aP 12)] [] (wr σ 12 9 12) Q) : WP E m_Reader_init (d + 1) 72 [(0, aP 12)] [] σ Q := by
  refine s_aload_n 0 d_Reader_init_72 rfl rfl ?_
  refine s_bipush d_Reader_init_73 (by decide) ?_
  obtain ⟨g1, h⟩ := h
  refine s_putf 9 rfl d_Reader_init_75 fl_Reader_54 (fun C T h => by cases h; exact Or.inl rfl) rfl (Or.inl rfl) (fun h => nomatch h) g1 ?_
  exact h
theorem n_Reader_init_78 {E : EV} {d : Nat} {Q : Option AV → St → Prop} {σ : St} (h : (sh σ 12 = some (5, 12)) ∧ WP E m_Reader_init (d + 1) 83 [(0, aP 12)] [] (wr σ 12 10 1) Q) : WP E m_Reader_init (d + 1) 78 [(0, aP 12)] [] σ Q := by
  refine s_aload_n 0 d_Reader_init_78 rfl rfl ?_
  refine s_iconst d_Reader_init_79 ?_
  obtain ⟨g1, h⟩ := h
  refine s_putf 10 rfl d_Reader_init_80 fl_Reader_57 (fun C T h => by cases h; exact Or.inl rfl) rfl (Or.inl rfl) (fun h => nomatch h) g1 ?_
  exact h
theorem n_Reader_init_83 {E : EV} {d : Nat} {Q : Option AV → St → Prop} {σ : St} (h : (sh σ 12 = some (5, 12)) ∧ WP E m_Reader_init (d + 1) 88 [] [] (wr σ 12 11 0) Q) : WP E m_Reader_init (d + 1) 83 [(0, aP 12)] [] σ Q := by
  refine s_aload_n 0 d_Reader_init_83 rfl rfl ?_
  refine s_iconst d_Reader_init_84 ?_
  obtain ⟨g1, h⟩ := h
  refine s_putf 11 rfl d_Reader_init_85 fl_Reader_60 (fun C T h => by cases h; exact Or.inl rfl) rfl (Or.inl rfl) (fun h => nomatch h) g1 ?_
  refine wp_drop [] rfl ?_
  exact h
theorem n_Reader_init_88 {E : EV} {d : Nat} {Q : Option AV → St → Prop} {σ : St} (h : Q none σ) : WP E m_Reader_init (d + 1) 88 [] [] σ Q := by
  exact s_return d_Reader_init_88 rfl h
theorem n_Layout_init_0 {E : EV} {d : Nat} {Q : Option AV → St → Prop} {σ : St} (h : (sh (al σ 20 24) 23 = some (2, 8)) ∧ WP E m_Layout_init (d + 1) 12 [(0, aP 23)] [] (wr (al σ 20 24) 23 0 (nx σ)) Q) : WP E m_Layout_init (d + 1) 0 [(0, aP 23)] [] σ Q := by
  refine s_aload_n 0 d_Layout_init_0 rfl rfl ?_
  refine s_objInit d_Layout_init_1 lo_Layout_3 lo_inst lo_code (by decide) (Nat.le_of_ble_eq_true rfl) ?_
  refine s_aload_n 0 d_Layout_init_4 rfl rfl ?_
  refine s_bipush d_Layout_init_5 (by decide) ?_
  refine s_newarray (kd := 20) d_Layout_init_7 (by decide) ac_20 (by decide) ?_
  obtain ⟨g1, h⟩ := h
  refine s_putf 0 rfl d_Layout_init_9 fl_Layout_9 (fun C T h => by cases h; exact Or.inr ⟨rfl, rfl, rfl, fk_Layout_9⟩) rfl (Or.inr (Or.inr (Or.inr (Or.inr ⟨_, rfl⟩)))) (fun h => nomatch h) g1 ?_
  exact h
theorem ne_Layout_init {E : EV} {d : Nat} {Q : Option AV → St → Prop} {σ : St} (h : (sh (al σ 20 24) 23 = some (2, 8)) ∧ WP E m_Layout_init (d + 1) 12 [(0, aP 23)] [] (wr (al σ 20 24) 23 0 (nx σ)) Q) : WM E m_Layout_init (d + 1) [aP 23] σ Q := s_meth (by decide) (Nat.le_of_ble_eq_true rfl) rfl (n_Layout_init_0 h)
theorem n_Layout_init_12 {E : EV} {d : Nat} {Q : Option AV → St → Prop} {σ : St} (h : (sh (al σ 20 24) 23 = some (2, 8)) ∧ WP E m_Layout_init (d + 1) 20 [(0, aP 23)] [] (wr (al σ 20 24) 23 1 (nx σ)) Q) : WP E m_Layout_init (d + 1) 12 [(0, aP 23)] [] σ Q := by
  refine s_aload_n 0 d_Layout_init_12 rfl rfl ?_
  refine s_bipush d_Layout_init_13 (by decide) ?_
  refine s_newarray (kd := 20) d_Layout_init_15 (by decide) ac_20 (by decide) ?_
  obtain ⟨g1, h⟩ := h
  refine s_putf 1 rfl d_Layout_init_17 fl_Layout_15 (fun C T h => by cases h; exact Or.inr ⟨rfl, rfl, rfl, fk_Layout_15⟩) rfl (Or.inr (Or.inr (Or.inr (Or.inr ⟨_, rfl⟩)))) (fun h => nomatch h) g1 ?_
  exact h
theorem n_Layout_init_20 {E : EV} {d : Nat} {Q : Option AV → St → Prop} {σ : St} (h : (sh (al σ 20 24) 23 = some (2, 8)) ∧ WP E m_Layout_init (d + 1) 28 [(0, aP 23)] [] (wr (al σ 20 24) 23 2 (nx σ)) Q) : WP E m_Layout_init (d + 1) 20 [(0, aP 23)] [] σ Q := by
  refine s_aload_n 0 d_Layout_init_20 rfl rfl ?_
  refine s_bipush d_Layout_init_21 (by decide) ?_
  refine s_newarray (kd := 20) d_Layout_init_23 (by decide) ac_20 (by decide) ?_
  obtain ⟨g1, h⟩ := h
  refine s_putf 2 rfl d_Layout_init_25 fl_Layout_18 (fun C T h => by cases h; exact Or.inr ⟨rfl, rfl, rfl, fk_Layout_18⟩) rfl (Or.inr (Or.inr (Or.inr (Or.inr ⟨_, rfl⟩)))) (fun h => nomatch h) g1 ?_
  exact h
theorem n_Layout_init_28 {E : EV} {d : Nat} {Q : Option AV → St → Prop} {σ : St} (h : (sh (al σ 22 24) 23 = some (2, 8)) ∧ WP E m_Layout_init (d + 1) 36 [(0, aP 23)] [] (wr (al σ 22 24) 23 3 (nx σ)) Q) : WP E m_Layout_init (d + 1) 28 [(0, aP 23)] [] σ Q := by
  refine s_aload_n 0 d_Layout_init_28 rfl rfl ?_
  refine s_bipush d_Layout_init_29 (by decide) ?_
  refine s_newarray (kd := 22) d_Layout_init_31 (by decide) ac_22 (by decide) ?_
  obtain ⟨g1, h⟩ := h
  refine s_putf 3 rfl d_Layout_init_33 fl_Layout_21 (fun C T h => by cases h; exact Or.inr ⟨rfl, rfl, rfl, fk_Layout_21⟩) rfl (Or.inr (Or.inr (Or.inr (Or.inr ⟨_, rfl⟩)))) (fun h => nomatch h) g1 ?_
  exact h
theorem n_Layout_init_36 {E : EV} {d : Nat} {Q : Option AV → St → Prop} {σ : St} (h : (sh (al σ 22 24) 23 = some (2, 8)) ∧ WP E m_Layout_init (d + 1) 44 [(0, aP 23)] [] (wr (al σ 22 24) 23 4 (nx σ)) Q) : WP E m_Layout_init (d + 1) 36 [(0, aP 23)] [] σ Q := by
  refine s_aload_n 0 d_Layout_init_36 rfl rfl ?_
  refine s_bipush d_Layout_init_37 (by decide) ?_
  refine s_newarray (kd := 22) d_Layout_init_39 (by decide) ac_22 (by decide) ?_
  obtain ⟨g1, h⟩ := h
  refine s_putf 4 rfl d_Layout_init_41 fl_Layout_25 (fun C T h => by cases h; exact Or.inr ⟨rfl, rfl, rfl, fk_Layout_25⟩) rfl (Or.inr (Or.inr (Or.inr (Or.inr ⟨_, rfl⟩)))) (fun h => nomatch h) g1 ?_
  exact h
theorem n_Layout_init_44 {E : EV} {d : Nat} {Q : Option AV → St → Prop} {σ : St} (h : (sh (al σ 22 24) 23 = some (2, 8)) ∧ WP E m_Layout_init (d + 1) 52 [(0, aP 23)] [] (wr (al σ 22 24) 23 5 (nx σ)) Q) : WP E m_Layout_init (d + 1) 44 [(0, aP 23)] [] σ Q := by
  refine s_aload_n 0 d_Layout_init_44 rfl rfl ?_
  refine s_bipush d_Layout_init_45 (by decide) ?_
  refine s_newarray (kd := 22) d_Layout_init_47 (by decide) ac_22 (by decide) ?_
  obtain ⟨g1, h⟩ := h
  refine s_putf 5 rfl d_Layout_init_49 fl_Layout_28 (fun C T h => by cases h; exact Or.inr ⟨rfl, rfl, rfl, fk_Layout_28⟩) rfl (Or.inr (Or.inr (Or.inr (Or.inr ⟨_, rfl⟩)))) (fun h => nomatch h) g1 ?_
  exact h
theorem n_Layout_init_52 {E : EV} {d : Nat} {Q : Option AV → St → Prop} {σ : St} (h : (sh (al σ 22 24) 23 = some (2, 8)) ∧ WP E m_Layout_init (d + 1) 60 [(0, aP 23)] [] (wr (al σ 22 24) 23 6 (nx σ)) Q) : WP E m_Layout_init (d + 1) 52 [(0, aP 23)] [] σ Q := by
  refine s_aload_n 0 d_Layout_init_52 rfl rfl ?_
  refine s_bipush d_Layout_init_53 (by decide) ?_
  refine s_newarray (kd := 22) d_Layout_init_55 (by decide) ac_22 (by decide) ?_
  obtain ⟨g1, h⟩ := h
  refine s_putf 6 rfl d_Layout_init_57 fl_Layout_31 (fun C T h => by cases h; exact Or.inr ⟨rfl, rfl, rfl, fk_Layout_31⟩) rfl (Or.inr (Or.inr (Or.inr (Or.inr ⟨_, rfl⟩)))) (fun h => nomatch h) g1 ?_
  exact h
theorem n_Layout_init_60 {E : EV} {d : Nat} {Q : Option AV → St → Prop} {σ : St} (h : (sh σ 23 = some (2, 8)) ∧ WP E m_Layout_init (d + 1) 65 [] [] (wr σ 23 7 0) Q) : WP E m_Layout_init (d + 1) 60 [(0, aP 23)] [] σ Q := by
  refine s_aload_n 0 d_Layout_init_60 rfl rfl ?_
  refine s_iconst d_Layout_init_61 ?_
  obtain ⟨g1, h⟩ := h
  refine s_putf 7 rfl d_Layout_init_62 fl_Layout_34 (fun C T h => by cases h; exact Or.inl rfl) rfl (Or.inl rfl) (fun h => nomatch h) g1 ?_
  refine wp_drop [] rfl ?_
  exact h
theorem n_Layout_init_65 {E : EV} {d : Nat} {Q : Option AV → St → Prop} {σ : St} (h : Q none σ) : WP E m_Layout_init (d + 1) 65 [] [] σ Q := by
  exact s_return d_Layout_init_65 rfl h
theorem n_Arranger_init_0 {E : EV} {d : Nat} {Q : Option AV → St → Prop} {σ : St} (h : (sh (al σ 20 680) 32 = some (0, 14)) ∧ WP E m_Arranger_init (d + 1) 13 [(0, aP 32)] [] (wr (al σ 20 680) 32 0 (nx σ)) Q) : WP E m_Arranger_init (d + 1) 0 [(0, aP 32)] [] σ Q := by
  refine s_aload_n 0 d_Arranger_init_0 rfl rfl ?_
  refine s_objInit d_Arranger_init_1 lo_Arranger_3 lo_inst lo_code (by decide) (Nat.le_of_ble_eq_true rfl) ?_
  refine s_aload_n 0 d_Arranger_init_4 rfl rfl ?_
  refine s_sipush d_Arranger_init_5 (by decide) ?_
  refine s_newarray (kd := 20) d_Arranger_init_8 (by decide) ac_20 (by decide) ?_
  obtain ⟨g1, h⟩ := h
  refine s_putf 0 rfl d_Arranger_init_10 fl_Arranger_11 (fun C T h => by cases h; exact Or.inr ⟨rfl, rfl, rfl, fk_Arranger_11⟩) rfl (Or.inr (Or.inr (Or.inr (Or.inr ⟨_, rfl⟩)))) (fun h => nomatch h) g1 ?_
  exact h
theorem ne_Arranger_init {E : EV} {d : Nat} {Q : Option AV → St → Prop} {σ : St} (h : (sh (al σ 20 680) 32 = some (0, 14)) ∧ WP E m_Arranger_init (d + 1) 13 [(0, aP 32)] [] (wr (al σ 20 680) 32 0 (nx σ)) Q) : WM E m_Arranger_init (d + 1) [aP 32] σ Q := s_meth (by decide) (Nat.le_of_ble_eq_true rfl) rfl (n_Arranger_init_0 h)
theorem n_Arranger_init_13 {E : EV} {d : Nat} {Q : Option AV → St → Prop} {σ : St} (h : (sh (al σ 20 680) 32 = some (0, 14)) ∧ WP E m_Arranger_init (d + 1) 22 [(0, aP 32)] [] (wr (al σ 20 680) 32 1 (nx σ)) Q) : WP E m_Arranger_init (d + 1) 13 [(0, aP 32)] [] σ Q := by
  refine s_aload_n 0 d_Arranger_init_13 rfl rfl ?_
  refine s_sipush d_Arranger_init_14 (by decide) ?_
  refine s_newarray (kd := 20) d_Arranger_init_17 (by decide) ac_20 (by decide) ?_
  obtain ⟨g1, h⟩ := h
  refine s_putf 1 rfl d_Arranger_init_19 fl_Arranger_15 (fun C T h => by cases h; exact Or.inr ⟨rfl, rfl, rfl, fk_Arranger_15⟩) rfl (Or.inr (Or.inr (Or.inr (Or.inr ⟨_, rfl⟩)))) (fun h => nomatch h) g1 ?_
  exact h
theorem n_Arranger_init_22 {E : EV} {d : Nat} {Q : Option AV → St → Prop} {σ : St} (h : (sh (al σ 20 680) 32 = some (0, 14)) ∧ WP E m_Arranger_init (d + 1) 31 [(0, aP 32)] [] (wr (al σ 20 680) 32 2 (nx σ)) Q) : WP E m_Arranger_init (d + 1) 22 [(0, aP 32)] [] σ Q := by
  refine s_aload_n 0 d_Arranger_init_22 rfl rfl ?_
  refine s_sipush d_Arranger_init_23 (by decide) ?_
  refine s_newarray (kd := 20) d_Arranger_init_26 (by decide) ac_20 (by decide) ?_
  obtain ⟨g1, h⟩ := h
  refine s_putf 2 rfl d_Arranger_init_28 fl_Arranger_18 (fun C T h => by cases h; exact Or.inr ⟨rfl, rfl, rfl, fk_Arranger_18⟩) rfl (Or.inr (Or.inr (Or.inr (Or.inr ⟨_, rfl⟩)))) (fun h => nomatch h) g1 ?_
  exact h
theorem n_Arranger_init_31 {E : EV} {d : Nat} {Q : Option AV → St → Prop} {σ : St} (h : (sh (al σ 20 680) 32 = some (0, 14)) ∧ WP E m_Arranger_init (d + 1) 40 [(0, aP 32)] [] (wr (al σ 20 680) 32 3 (nx σ)) Q) : WP E m_Arranger_init (d + 1) 31 [(0, aP 32)] [] σ Q := by
  refine s_aload_n 0 d_Arranger_init_31 rfl rfl ?_
  refine s_sipush d_Arranger_init_32 (by decide) ?_
  refine s_newarray (kd := 20) d_Arranger_init_35 (by decide) ac_20 (by decide) ?_
  obtain ⟨g1, h⟩ := h
  refine s_putf 3 rfl d_Arranger_init_37 fl_Arranger_21 (fun C T h => by cases h; exact Or.inr ⟨rfl, rfl, rfl, fk_Arranger_21⟩) rfl (Or.inr (Or.inr (Or.inr (Or.inr ⟨_, rfl⟩)))) (fun h => nomatch h) g1 ?_
  exact h
theorem n_Arranger_init_40 {E : EV} {d : Nat} {Q : Option AV → St → Prop} {σ : St} (h : (sh (al σ 20 680) 32 = some (0, 14)) ∧ WP E m_Arranger_init (d + 1) 49 [(0, aP 32)] [] (wr (al σ 20 680) 32 4 (nx σ)) Q) : WP E m_Arranger_init (d + 1) 40 [(0, aP 32)] [] σ Q := by
  refine s_aload_n 0 d_Arranger_init_40 rfl rfl ?_
  refine s_sipush d_Arranger_init_41 (by decide) ?_
  refine s_newarray (kd := 20) d_Arranger_init_44 (by decide) ac_20 (by decide) ?_
  obtain ⟨g1, h⟩ := h
  refine s_putf 4 rfl d_Arranger_init_46 fl_Arranger_24 (fun C T h => by cases h; exact Or.inr ⟨rfl, rfl, rfl, fk_Arranger_24⟩) rfl (Or.inr (Or.inr (Or.inr (Or.inr ⟨_, rfl⟩)))) (fun h => nomatch h) g1 ?_
  exact h
theorem n_Arranger_init_49 {E : EV} {d : Nat} {Q : Option AV → St → Prop} {σ : St} (h : (sh (al σ 20 680) 32 = some (0, 14)) ∧ WP E m_Arranger_init (d + 1) 58 [(0, aP 32)] [] (wr (al σ 20 680) 32 5 (nx σ)) Q) : WP E m_Arranger_init (d + 1) 49 [(0, aP 32)] [] σ Q := by
  refine s_aload_n 0 d_Arranger_init_49 rfl rfl ?_
  refine s_sipush d_Arranger_init_50 (by decide) ?_
  refine s_newarray (kd := 20) d_Arranger_init_53 (by decide) ac_20 (by decide) ?_
  obtain ⟨g1, h⟩ := h
  refine s_putf 5 rfl d_Arranger_init_55 fl_Arranger_27 (fun C T h => by cases h; exact Or.inr ⟨rfl, rfl, rfl, fk_Arranger_27⟩) rfl (Or.inr (Or.inr (Or.inr (Or.inr ⟨_, rfl⟩)))) (fun h => nomatch h) g1 ?_
  exact h
theorem n_Arranger_init_58 {E : EV} {d : Nat} {Q : Option AV → St → Prop} {σ : St} (h : (sh (al σ 22 680) 32 = some (0, 14)) ∧ WP E m_Arranger_init (d + 1) 67 [(0, aP 32)] [] (wr (al σ 22 680) 32 6 (nx σ)) Q) : WP E m_Arranger_init (d + 1) 58 [(0, aP 32)] [] σ Q := by
  refine s_aload_n 0 d_Arranger_init_58 rfl rfl ?_
  refine s_sipush d_Arranger_init_59 (by decide) ?_
  refine s_newarray (kd := 22) d_Arranger_init_62 (by decide) ac_22 (by decide) ?_
  obtain ⟨g1, h⟩ := h
  refine s_putf 6 rfl d_Arranger_init_64 fl_Arranger_30 (fun C T h => by cases h; exact Or.inr ⟨rfl, rfl, rfl, fk_Arranger_30⟩) rfl (Or.inr (Or.inr (Or.inr (Or.inr ⟨_, rfl⟩)))) (fun h => nomatch h) g1 ?_
  exact h
theorem n_Arranger_init_67 {E : EV} {d : Nat} {Q : Option AV → St → Prop} {σ : St} (h : (sh σ 32 = some (0, 14)) ∧ WP E m_Arranger_init (d + 1) 72 [(0, aP 32)] [] (wr σ 32 7 0) Q) : WP E m_Arranger_init (d + 1) 67 [(0, aP 32)] [] σ Q := by
  refine s_aload_n 0 d_Arranger_init_67 rfl rfl ?_
  refine s_iconst d_Arranger_init_68 ?_
  obtain ⟨g1, h⟩ := h
  refine s_putf 7 rfl d_Arranger_init_69 fl_Arranger_34 (fun C T h => by cases h; exact Or.inl rfl) rfl (Or.inl rfl) (fun h => nomatch h) g1 ?_
  exact h
theorem n_Arranger_init_72 {E : EV} {d : Nat} {Q : Option AV → St → Prop} {σ : St} (h : (sh (al σ 20 49) 32 = some (0, 14)) ∧ WP E m_Arranger_init (d + 1) 80 [(0, aP 32)] [] (wr (al σ 20 49) 32 8 (nx σ)) Q) : WP E m_Arranger_init (d + 1) 72 [(0, aP 32)] [] σ Q := by
  refine s_aload_n 0 d_Arranger_init_72 rfl rfl ?_
  refine s_bipush d_Arranger_init_73 (by decide) ?_
  refine s_newarray (kd := 20) d_Arranger_init_75 (by decide) ac_20 (by decide) ?_
  obtain ⟨g1, h⟩ := h
  refine s_putf 8 rfl d_Arranger_init_77 fl_Arranger_38 (fun C T h => by cases h; exact Or.inr ⟨rfl, rfl, rfl, fk_Arranger_38⟩) rfl (Or.inr (Or.inr (Or.inr (Or.inr ⟨_, rfl⟩)))) (fun h => nomatch h) g1 ?_
  exact h
theorem n_Arranger_init_80 {E : EV} {d : Nat} {Q : Option AV → St → Prop} {σ : St} (h : (sh (al σ 20 49) 32 = some (0, 14)) ∧ WP E m_Arranger_init (d + 1) 88 [(0, aP 32)] [] (wr (al σ 20 49) 32 9 (nx σ)) Q) : WP E m_Arranger_init (d + 1) 80 [(0, aP 32)] [] σ Q := by
  refine s_aload_n 0 d_Arranger_init_80 rfl rfl ?_
  refine s_bipush d_Arranger_init_81 (by decide) ?_
  refine s_newarray (kd := 20) d_Arranger_init_83 (by decide) ac_20 (by decide) ?_
  obtain ⟨g1, h⟩ := h
  refine s_putf 9 rfl d_Arranger_init_85 fl_Arranger_41 (fun C T h => by cases h; exact Or.inr ⟨rfl, rfl, rfl, fk_Arranger_41⟩) rfl (Or.inr (Or.inr (Or.inr (Or.inr ⟨_, rfl⟩)))) (fun h => nomatch h) g1 ?_
  exact h
theorem n_Arranger_init_88 {E : EV} {d : Nat} {Q : Option AV → St → Prop} {σ : St} (h : (sh σ 32 = some (0, 14)) ∧ WP E m_Arranger_init (d + 1) 93 [(0, aP 32)] [] (wr σ 32 10 0) Q) : WP E m_Arranger_init (d + 1) 88 [(0, aP 32)] [] σ Q := by
  refine s_aload_n 0 d_Arranger_init_88 rfl rfl ?_
  refine s_null d_Arranger_init_89 ?_
  obtain ⟨g1, h⟩ := h
  refine s_putf 10 rfl d_Arranger_init_90 fl_Arranger_44 (fun C T h => by cases h; exact Or.inl rfl) rfl (Or.inr (Or.inr (Or.inr (Or.inl ⟨_, rfl⟩)))) (fun h => nomatch h) g1 ?_
  exact h
theorem n_Arranger_init_93 {E : EV} {d : Nat} {Q : Option AV → St → Prop} {σ : St} (h : (sh σ 32 = some (0, 14)) ∧ WP E m_Arranger_init (d + 1) 98 [(0, aP 32)] [] (wr σ 32 11 0) Q) : WP E m_Arranger_init (d + 1) 93 [(0, aP 32)] [] σ Q := by
  refine s_aload_n 0 d_Arranger_init_93 rfl rfl ?_
  refine s_iconst d_Arranger_init_94 ?_
  obtain ⟨g1, h⟩ := h
  refine s_putf 11 rfl d_Arranger_init_95 fl_Arranger_48 (fun C T h => by cases h; exact Or.inl rfl) rfl (Or.inl rfl) (fun h => nomatch h) g1 ?_
  exact h
theorem n_Arranger_init_98 {E : EV} {d : Nat} {Q : Option AV → St → Prop} {σ : St} (h : (sh σ 32 = some (0, 14)) ∧ WP E m_Arranger_init (d + 1) 103 [(0, aP 32)] [] (wr σ 32 12 0) Q) : WP E m_Arranger_init (d + 1) 98 [(0, aP 32)] [] σ Q := by
  refine s_aload_n 0 d_Arranger_init_98 rfl rfl ?_
  refine s_iconst d_Arranger_init_99 ?_
  obtain ⟨g1, h⟩ := h
  refine s_putf 12 rfl d_Arranger_init_100 fl_Arranger_51 (fun C T h => by cases h; exact Or.inl rfl) rfl (Or.inl rfl) (fun h => nomatch h) g1 ?_
  exact h
theorem n_Arranger_init_103 {E : EV} {d : Nat} {Q : Option AV → St → Prop} {σ : St} (h : (sh σ 32 = some (0, 14)) ∧ WP E m_Arranger_init (d + 1) 108 [] [] (wr σ 32 13 0) Q) : WP E m_Arranger_init (d + 1) 103 [(0, aP 32)] [] σ Q := by
  refine s_aload_n 0 d_Arranger_init_103 rfl rfl ?_
  refine s_null d_Arranger_init_104 ?_
  obtain ⟨g1, h⟩ := h
  refine s_putf 13 rfl d_Arranger_init_105 fl_Arranger_54 (fun C T h => by cases h; exact Or.inl rfl) rfl (Or.inr (Or.inr (Or.inr (Or.inl ⟨_, rfl⟩)))) (fun h => nomatch h) g1 ?_
  refine wp_drop [] rfl ?_
  exact h
theorem n_Arranger_init_108 {E : EV} {d : Nat} {Q : Option AV → St → Prop} {σ : St} (h : Q none σ) : WP E m_Arranger_init (d + 1) 108 [] [] σ Q := by
  exact s_return d_Arranger_init_108 rfl h
theorem n_S_init_0 {E : EV} {d : Nat} {Q : Option AV → St → Prop} {σ : St} (h : (0 < (nx σ)) ∧ (WMv E m_Table_init d [aP (nx σ)] (al σ 8 4) (fun σ1 => (sh σ1 1 = some (9, 9)) ∧ WP E m_S_init (d + 1) 15 [(0, aP 1)] [] (wr σ1 1 0 (nx σ)) Q))) : WP E m_S_init (d + 1) 0 [(0, aP 1)] [] σ Q := by
  refine s_aload_n 0 d_S_init_0 rfl rfl ?_
  refine s_objInit d_S_init_1 lo_S_1 lo_inst lo_code (by decide) (Nat.le_of_ble_eq_true rfl) ?_
  refine s_aload_n 0 d_S_init_4 rfl rfl ?_
  refine s_new (ci := 8) d_S_init_5 (by decide) rfl inG8 tyX8_ok (df_8 E) nw_S_7 in_8 ii_8 ?_
  refine s_dup d_S_init_8 (Nat.ne_of_beq_eq_false rfl) ?_
  obtain ⟨g2, h⟩ := h
  refine s_callI (as := []) d_S_init_9 ok_Table_init lk_S_9 io_Table_init rfl rfl rfl (Nat.le_of_ble_eq_true rfl) rfl g2 (WM.mono h ?_)
  rintro _ σ1 ⟨rfl, hp, h⟩
  show WP E m_S_init (d + 1) 12 [(0, aP 1)] [aP (nx σ), aP 1] σ1 Q
  obtain ⟨g3, h⟩ := h
  refine s_putf 0 rfl d_S_init_12 fl_S_10 (fun C T h => by cases h; exact Or.inl rfl) rfl (Or.inr (Or.inr (Or.inr (Or.inl ⟨_, rfl⟩)))) (fun h => nomatch h) g3 ?_
  exact h
theorem ne_S_init {E : EV} {d : Nat} {Q : Option AV → St → Prop} {σ : St} (h : (0 < (nx σ)) ∧ (WMv E m_Table_init d [aP (nx σ)] (al σ 8 4) (fun σ1 => (sh σ1 1 = some (9, 9)) ∧ WP E m_S_init (d + 1) 15 [(0, aP 1)] [] (wr σ1 1 0 (nx σ)) Q))) : WM E m_S_init (d + 1) [aP 1] σ Q := s_meth (by decide) (Nat.le_of_ble_eq_true rfl) rfl (n_S_init_0 h)
theorem n_S_init_15 {E : EV} {d : Nat} {Q : Option AV → St → Prop} {σ : St} (h : (0 < (nx σ)) ∧ (WMv E m_Moment_init d [aP (nx σ), aP (nx (al σ 4 3)), aI 12, aI 1] (al (al σ 4 3) 25 0) (fun σ1 => (sh σ1 1 = some (9, 9)) ∧ WP E m_S_init (d + 1) 33 [(0, aP 1)] [] (wr σ1 1 1 (nx σ)) Q))) : WP E m_S_init (d + 1) 15 [(0, aP 1)] [] σ Q := by
  refine s_aload_n 0 d_S_init_15 rfl rfl ?_
  refine s_new (ci := 4) d_S_init_16 (by decide) rfl inG4 tyX4_ok (df_4 E) nw_S_16 in_4 ii_4 ?_
  refine s_dup d_S_init_19 (Nat.ne_of_beq_eq_false rfl) ?_
  refine s_iconst d_S_init_20 ?_
  refine s_anewarray (kd := 25) d_S_init_21 (by decide) rfl nw_S_18 (by decide) ?_
  refine s_bipush d_S_init_24 (by decide) ?_
  refine s_iconst d_S_init_26 ?_
  obtain ⟨g2, h⟩ := h
  refine s_callI (as := [aP (nx (al σ 4 3)), aI 12, aI 1]) d_S_init_27 ok_Moment_init lk_S_20 io_Moment_init rfl rfl rfl (Nat.le_of_ble_eq_true rfl) rfl g2 (WM.mono h ?_)
  rintro _ σ1 ⟨rfl, hp, h⟩
  show WP E m_S_init (d + 1) 30 [(0, aP 1)] [aP (nx σ), aP 1] σ1 Q
  obtain ⟨g3, h⟩ := h
  refine s_putf 1 rfl d_S_init_30 fl_S_23 (fun C T h => by cases h; exact Or.inl rfl) rfl (Or.inr (Or.inr (Or.inr (Or.inl ⟨_, rfl⟩)))) (fun h => nomatch h) g3 ?_
  exact h
theorem n_S_init_33 {E : EV} {d : Nat} {Q : Option AV → St → Prop} {σ : St} (h : (sh (al σ 26 12) 1 = some (9, 9)) ∧ WP E m_S_init (d + 1) 42 [(0, aP 1)] [] (wr (al σ 26 12) 1 2 (nx σ)) Q) : WP E m_S_init (d + 1) 33 [(0, aP 1)] [] σ Q := by
  refine s_aload_n 0 d_S_init_33 rfl rfl ?_
  refine s_bipush d_S_init_34 (by decide) ?_
  refine s_anewarray (kd := 26) d_S_init_36 (by decide) rfl nw_S_16 (by decide) ?_
  obtain ⟨g1, h⟩ := h
  refine s_putf 2 rfl d_S_init_39 fl_S_27 (fun C T h => by cases h; exact Or.inr ⟨rfl, rfl, rfl, fk_S_27⟩) rfl (Or.inr (Or.inr (Or.inr (Or.inr ⟨_, rfl⟩)))) (fun h => nomatch h) g1 ?_
  exact h
theorem n_S_init_42 {E : EV} {d : Nat} {Q : Option AV → St → Prop} {σ : St} (h : (sh σ 1 = some (9, 9)) ∧ WP E m_S_init (d + 1) 47 [(0, aP 1)] [] (wr σ 1 3 0) Q) : WP E m_S_init (d + 1) 42 [(0, aP 1)] [] σ Q := by
  refine s_aload_n 0 d_S_init_42 rfl rfl ?_
  refine s_iconst d_S_init_43 ?_
  obtain ⟨g1, h⟩ := h
  refine s_putf 3 rfl d_S_init_44 fl_S_31 (fun C T h => by cases h; exact Or.inl rfl) rfl (Or.inl rfl) (fun h => nomatch h) g1 ?_
  exact h
theorem n_S_init_47 {E : EV} {d : Nat} {Q : Option AV → St → Prop} {σ : St} (h : (0 < (nx σ)) ∧ (WMv E m_Draft_init d [aP (nx σ)] (al σ 1 2) (fun σ1 => (sh σ1 1 = some (9, 9)) ∧ WP E m_S_init (d + 1) 58 [(0, aP 1)] [] (wr σ1 1 4 (nx σ)) Q))) : WP E m_S_init (d + 1) 47 [(0, aP 1)] [] σ Q := by
  refine s_aload_n 0 d_S_init_47 rfl rfl ?_
  refine s_new (ci := 1) d_S_init_48 (by decide) rfl inG1 tyX1_ok (df_1 E) nw_S_35 in_1 ii_1 ?_
  refine s_dup d_S_init_51 (Nat.ne_of_beq_eq_false rfl) ?_
  obtain ⟨g2, h⟩ := h
  refine s_callI (as := []) d_S_init_52 ok_Draft_init lk_S_37 io_Draft_init rfl rfl rfl (Nat.le_of_ble_eq_true rfl) rfl g2 (WM.mono h ?_)
  rintro _ σ1 ⟨rfl, hp, h⟩
  show WP E m_S_init (d + 1) 55 [(0, aP 1)] [aP (nx σ), aP 1] σ1 Q
  obtain ⟨g3, h⟩ := h
  refine s_putf 4 rfl d_S_init_55 fl_S_38 (fun C T h => by cases h; exact Or.inr ⟨rfl, rfl, rfl, fk_S_38⟩) rfl (Or.inr (Or.inr (Or.inr (Or.inl ⟨_, rfl⟩)))) (fun h => nomatch h) g3 ?_
  exact h
theorem n_S_init_58 {E : EV} {d : Nat} {Q : Option AV → St → Prop} {σ : St} (h : (0 < (nx σ)) ∧ (WMv E m_Reader_init d [aP (nx σ)] (al σ 5 12) (fun σ1 => (sh σ1 1 = some (9, 9)) ∧ WP E m_S_init (d + 1) 69 [(0, aP 1)] [] (wr σ1 1 5 (nx σ)) Q))) : WP E m_S_init (d + 1) 58 [(0, aP 1)] [] σ Q := by
  refine s_aload_n 0 d_S_init_58 rfl rfl ?_
  refine s_new (ci := 5) d_S_init_59 (by decide) rfl inG5 tyX5_ok (df_5 E) nw_S_42 in_5 ii_5 ?_
  refine s_dup d_S_init_62 (Nat.ne_of_beq_eq_false rfl) ?_
  obtain ⟨g2, h⟩ := h
  refine s_callI (as := []) d_S_init_63 ok_Reader_init lk_S_44 io_Reader_init rfl rfl rfl (Nat.le_of_ble_eq_true rfl) rfl g2 (WM.mono h ?_)
  rintro _ σ1 ⟨rfl, hp, h⟩
  show WP E m_S_init (d + 1) 66 [(0, aP 1)] [aP (nx σ), aP 1] σ1 Q
  obtain ⟨g3, h⟩ := h
  refine s_putf 5 rfl d_S_init_66 fl_S_45 (fun C T h => by cases h; exact Or.inr ⟨rfl, rfl, rfl, fk_S_45⟩) rfl (Or.inr (Or.inr (Or.inr (Or.inl ⟨_, rfl⟩)))) (fun h => nomatch h) g3 ?_
  exact h
theorem n_S_init_69 {E : EV} {d : Nat} {Q : Option AV → St → Prop} {σ : St} (h : (0 < (nx σ)) ∧ (WMv E m_Layout_init d [aP (nx σ)] (al σ 2 8) (fun σ1 => (sh σ1 1 = some (9, 9)) ∧ WP E m_S_init (d + 1) 80 [(0, aP 1)] [] (wr σ1 1 6 (nx σ)) Q))) : WP E m_S_init (d + 1) 69 [(0, aP 1)] [] σ Q := by
  refine s_aload_n 0 d_S_init_69 rfl rfl ?_
  refine s_new (ci := 2) d_S_init_70 (by decide) rfl inG2 tyX2_ok (df_2 E) nw_S_49 in_2 ii_2 ?_
  refine s_dup d_S_init_73 (Nat.ne_of_beq_eq_false rfl) ?_
  obtain ⟨g2, h⟩ := h
  refine s_callI (as := []) d_S_init_74 ok_Layout_init lk_S_51 io_Layout_init rfl rfl rfl (Nat.le_of_ble_eq_true rfl) rfl g2 (WM.mono h ?_)
  rintro _ σ1 ⟨rfl, hp, h⟩
  show WP E m_S_init (d + 1) 77 [(0, aP 1)] [aP (nx σ), aP 1] σ1 Q
  obtain ⟨g3, h⟩ := h
  refine s_putf 6 rfl d_S_init_77 fl_S_52 (fun C T h => by cases h; exact Or.inr ⟨rfl, rfl, rfl, fk_S_52⟩) rfl (Or.inr (Or.inr (Or.inr (Or.inl ⟨_, rfl⟩)))) (fun h => nomatch h) g3 ?_
  exact h
theorem n_S_init_80 {E : EV} {d : Nat} {Q : Option AV → St → Prop} {σ : St} (h : (0 < (nx σ)) ∧ (WMv E m_Speller_init d [aP (nx σ)] (al σ 6 9) (fun σ1 => (sh σ1 1 = some (9, 9)) ∧ WP E m_S_init (d + 1) 91 [(0, aP 1)] [] (wr σ1 1 7 (nx σ)) Q))) : WP E m_S_init (d + 1) 80 [(0, aP 1)] [] σ Q := by
  refine s_aload_n 0 d_S_init_80 rfl rfl ?_
  refine s_new (ci := 6) d_S_init_81 (by decide) rfl inG6 tyX6_ok (df_6 E) nw_S_56 in_6 ii_6 ?_
  refine s_dup d_S_init_84 (Nat.ne_of_beq_eq_false rfl) ?_
  obtain ⟨g2, h⟩ := h
  refine s_callI (as := []) d_S_init_85 ok_Speller_init lk_S_58 io_Speller_init rfl rfl rfl (Nat.le_of_ble_eq_true rfl) rfl g2 (WM.mono h ?_)
  rintro _ σ1 ⟨rfl, hp, h⟩
  show WP E m_S_init (d + 1) 88 [(0, aP 1)] [aP (nx σ), aP 1] σ1 Q
  obtain ⟨g3, h⟩ := h
  refine s_putf 7 rfl d_S_init_88 fl_S_59 (fun C T h => by cases h; exact Or.inr ⟨rfl, rfl, rfl, fk_S_59⟩) rfl (Or.inr (Or.inr (Or.inr (Or.inl ⟨_, rfl⟩)))) (fun h => nomatch h) g3 ?_
  exact h
theorem n_S_init_91 {E : EV} {d : Nat} {Q : Option AV → St → Prop} {σ : St} (h : (0 < (nx σ)) ∧ (WMv E m_Arranger_init d [aP (nx σ)] (al σ 0 14) (fun σ1 => (sh σ1 1 = some (9, 9)) ∧ WP E m_S_init (d + 1) 102 [] [] (wr σ1 1 8 (nx σ)) Q))) : WP E m_S_init (d + 1) 91 [(0, aP 1)] [] σ Q := by
  refine s_aload_n 0 d_S_init_91 rfl rfl ?_
  refine s_new (ci := 0) d_S_init_92 (by decide) rfl inG0 tyX0_ok (df_0 E) nw_S_63 in_0 ii_0 ?_
  refine s_dup d_S_init_95 (Nat.ne_of_beq_eq_false rfl) ?_
  obtain ⟨g2, h⟩ := h
  refine s_callI (as := []) d_S_init_96 ok_Arranger_init lk_S_65 io_Arranger_init rfl rfl rfl (Nat.le_of_ble_eq_true rfl) rfl g2 (WM.mono h ?_)
  rintro _ σ1 ⟨rfl, hp, h⟩
  show WP E m_S_init (d + 1) 99 [(0, aP 1)] [aP (nx σ), aP 1] σ1 Q
  obtain ⟨g3, h⟩ := h
  refine s_putf 8 rfl d_S_init_99 fl_S_66 (fun C T h => by cases h; exact Or.inr ⟨rfl, rfl, rfl, fk_S_66⟩) rfl (Or.inr (Or.inr (Or.inr (Or.inl ⟨_, rfl⟩)))) (fun h => nomatch h) g3 ?_
  refine wp_drop [] rfl ?_
  exact h
theorem n_S_init_102 {E : EV} {d : Nat} {Q : Option AV → St → Prop} {σ : St} (h : Q none σ) : WP E m_S_init (d + 1) 102 [] [] σ Q := by
  exact s_return d_S_init_102 rfl h
theorem n_M_init_0 {E : EV} {d : Nat} {Q : Option AV → St → Prop} {σ : St} (h : (sh (al σ 20 26) 42 = some (10, 74)) ∧ WP E m_M_init (d + 1) 12 [(0, aP 42)] [] (wr (al σ 20 26) 42 1 (nx σ)) Q) : WP E m_M_init (d + 1) 0 [(0, aP 42)] [] σ Q := by
  refine s_aload_n 0 d_M_init_0 rfl rfl ?_
  refine s_objInit d_M_init_1 lo_M_7 lo_inst lo_code (by decide) (Nat.le_of_ble_eq_true rfl) ?_
  refine s_aload_n 0 d_M_init_4 rfl rfl ?_
  refine s_bipush d_M_init_5 (by decide) ?_
  refine s_newarray (kd := 20) d_M_init_7 (by decide) ac_20 (by decide) ?_
  obtain ⟨g1, h⟩ := h
  refine s_putf 1 rfl d_M_init_9 fl_M_13 (fun C T h => by cases h; exact Or.inr ⟨rfl, rfl, rfl, fk_M_13⟩) rfl (Or.inr (Or.inr (Or.inr (Or.inr ⟨_, rfl⟩)))) (fun h => nomatch h) g1 ?_
  exact h
theorem ne_M_init {E : EV} {d : Nat} {Q : Option AV → St → Prop} {σ : St} (h : (sh (al σ 20 26) 42 = some (10, 74)) ∧ WP E m_M_init (d + 1) 12 [(0, aP 42)] [] (wr (al σ 20 26) 42 1 (nx σ)) Q) : WM E m_M_init (d + 1) [aP 42] σ Q := s_meth (by decide) (Nat.le_of_ble_eq_true rfl) rfl (n_M_init_0 h)
theorem n_M_init_12 {E : EV} {d : Nat} {Q : Option AV → St → Prop} {σ : St} (h : (sh (al σ 20 26) 42 = some (10, 74)) ∧ WP E m_M_init (d + 1) 20 [(0, aP 42)] [] (wr (al σ 20 26) 42 2 (nx σ)) Q) : WP E m_M_init (d + 1) 12 [(0, aP 42)] [] σ Q := by
  refine s_aload_n 0 d_M_init_12 rfl rfl ?_
  refine s_bipush d_M_init_13 (by decide) ?_
  refine s_newarray (kd := 20) d_M_init_15 (by decide) ac_20 (by decide) ?_
  obtain ⟨g1, h⟩ := h
  refine s_putf 2 rfl d_M_init_17 fl_M_17 (fun C T h => by cases h; exact Or.inr ⟨rfl, rfl, rfl, fk_M_17⟩) rfl (Or.inr (Or.inr (Or.inr (Or.inr ⟨_, rfl⟩)))) (fun h => nomatch h) g1 ?_
  exact h
theorem n_M_init_20 {E : EV} {d : Nat} {Q : Option AV → St → Prop} {σ : St} (h : (sh (al σ 20 26) 42 = some (10, 74)) ∧ WP E m_M_init (d + 1) 28 [(0, aP 42)] [] (wr (al σ 20 26) 42 3 (nx σ)) Q) : WP E m_M_init (d + 1) 20 [(0, aP 42)] [] σ Q := by
  refine s_aload_n 0 d_M_init_20 rfl rfl ?_
  refine s_bipush d_M_init_21 (by decide) ?_
  refine s_newarray (kd := 20) d_M_init_23 (by decide) ac_20 (by decide) ?_
  obtain ⟨g1, h⟩ := h
  refine s_putf 3 rfl d_M_init_25 fl_M_20 (fun C T h => by cases h; exact Or.inr ⟨rfl, rfl, rfl, fk_M_20⟩) rfl (Or.inr (Or.inr (Or.inr (Or.inr ⟨_, rfl⟩)))) (fun h => nomatch h) g1 ?_
  exact h
theorem n_M_init_28 {E : EV} {d : Nat} {Q : Option AV → St → Prop} {σ : St} (h : (sh (al σ 20 26) 42 = some (10, 74)) ∧ WP E m_M_init (d + 1) 36 [(0, aP 42)] [] (wr (al σ 20 26) 42 4 (nx σ)) Q) : WP E m_M_init (d + 1) 28 [(0, aP 42)] [] σ Q := by
  refine s_aload_n 0 d_M_init_28 rfl rfl ?_
  refine s_bipush d_M_init_29 (by decide) ?_
  refine s_newarray (kd := 20) d_M_init_31 (by decide) ac_20 (by decide) ?_
  obtain ⟨g1, h⟩ := h
  refine s_putf 4 rfl d_M_init_33 fl_M_23 (fun C T h => by cases h; exact Or.inr ⟨rfl, rfl, rfl, fk_M_23⟩) rfl (Or.inr (Or.inr (Or.inr (Or.inr ⟨_, rfl⟩)))) (fun h => nomatch h) g1 ?_
  exact h
theorem n_M_init_36 {E : EV} {d : Nat} {Q : Option AV → St → Prop} {σ : St} (h : (sh (al σ 20 683) 42 = some (10, 74)) ∧ WP E m_M_init (d + 1) 45 [(0, aP 42)] [] (wr (al σ 20 683) 42 5 (nx σ)) Q) : WP E m_M_init (d + 1) 36 [(0, aP 42)] [] σ Q := by
  refine s_aload_n 0 d_M_init_36 rfl rfl ?_
  refine s_sipush d_M_init_37 (by decide) ?_
  refine s_newarray (kd := 20) d_M_init_40 (by decide) ac_20 (by decide) ?_
  obtain ⟨g1, h⟩ := h
  refine s_putf 5 rfl d_M_init_42 fl_M_26 (fun C T h => by cases h; exact Or.inr ⟨rfl, rfl, rfl, fk_M_26⟩) rfl (Or.inr (Or.inr (Or.inr (Or.inr ⟨_, rfl⟩)))) (fun h => nomatch h) g1 ?_
  exact h
theorem n_M_init_45 {E : EV} {d : Nat} {Q : Option AV → St → Prop} {σ : St} (h : (sh (al σ 20 683) 42 = some (10, 74)) ∧ WP E m_M_init (d + 1) 54 [(0, aP 42)] [] (wr (al σ 20 683) 42 6 (nx σ)) Q) : WP E m_M_init (d + 1) 45 [(0, aP 42)] [] σ Q := by
  refine s_aload_n 0 d_M_init_45 rfl rfl ?_
  refine s_sipush d_M_init_46 (by decide) ?_
  refine s_newarray (kd := 20) d_M_init_49 (by decide) ac_20 (by decide) ?_
  obtain ⟨g1, h⟩ := h
  refine s_putf 6 rfl d_M_init_51 fl_M_29 (fun C T h => by cases h; exact Or.inr ⟨rfl, rfl, rfl, fk_M_29⟩) rfl (Or.inr (Or.inr (Or.inr (Or.inr ⟨_, rfl⟩)))) (fun h => nomatch h) g1 ?_
  exact h
theorem n_M_init_54 {E : EV} {d : Nat} {Q : Option AV → St → Prop} {σ : St} (h : (sh (al σ 20 8196) 42 = some (10, 74)) ∧ WP E m_M_init (d + 1) 63 [(0, aP 42)] [] (wr (al σ 20 8196) 42 7 (nx σ)) Q) : WP E m_M_init (d + 1) 54 [(0, aP 42)] [] σ Q := by
  refine s_aload_n 0 d_M_init_54 rfl rfl ?_
  refine s_sipush d_M_init_55 (by decide) ?_
  refine s_newarray (kd := 20) d_M_init_58 (by decide) ac_20 (by decide) ?_
  obtain ⟨g1, h⟩ := h
  refine s_putf 7 rfl d_M_init_60 fl_M_32 (fun C T h => by cases h; exact Or.inr ⟨rfl, rfl, rfl, fk_M_32⟩) rfl (Or.inr (Or.inr (Or.inr (Or.inr ⟨_, rfl⟩)))) (fun h => nomatch h) g1 ?_
  exact h
theorem n_M_init_63 {E : EV} {d : Nat} {Q : Option AV → St → Prop} {σ : St} (h : (sh (al σ 20 24) 42 = some (10, 74)) ∧ WP E m_M_init (d + 1) 71 [(0, aP 42)] [] (wr (al σ 20 24) 42 9 (nx σ)) Q) : WP E m_M_init (d + 1) 63 [(0, aP 42)] [] σ Q := by
  refine s_aload_n 0 d_M_init_63 rfl rfl ?_
  refine s_bipush d_M_init_64 (by decide) ?_
  refine s_newarray (kd := 20) d_M_init_66 (by decide) ac_20 (by decide) ?_
  obtain ⟨g1, h⟩ := h
  refine s_putf 9 rfl d_M_init_68 fl_M_35 (fun C T h => by cases h; exact Or.inr ⟨rfl, rfl, rfl, fk_M_35⟩) rfl (Or.inr (Or.inr (Or.inr (Or.inr ⟨_, rfl⟩)))) (fun h => nomatch h) g1 ?_
  exact h
theorem n_M_init_71 {E : EV} {d : Nat} {Q : Option AV → St → Prop} {σ : St} (h : (sh (al σ 20 48) 42 = some (10, 74)) ∧ WP E m_M_init (d + 1) 79 [(0, aP 42)] [] (wr (al σ 20 48) 42 11 (nx σ)) Q) : WP E m_M_init (d + 1) 71 [(0, aP 42)] [] σ Q := by
  refine s_aload_n 0 d_M_init_71 rfl rfl ?_
  refine s_bipush d_M_init_72 (by decide) ?_
  refine s_newarray (kd := 20) d_M_init_74 (by decide) ac_20 (by decide) ?_
  obtain ⟨g1, h⟩ := h
  refine s_putf 11 rfl d_M_init_76 fl_M_38 (fun C T h => by cases h; exact Or.inr ⟨rfl, rfl, rfl, fk_M_38⟩) rfl (Or.inr (Or.inr (Or.inr (Or.inr ⟨_, rfl⟩)))) (fun h => nomatch h) g1 ?_
  exact h
theorem n_M_init_79 {E : EV} {d : Nat} {Q : Option AV → St → Prop} {σ : St} (h : (sh (al σ 20 24) 42 = some (10, 74)) ∧ WP E m_M_init (d + 1) 87 [(0, aP 42)] [] (wr (al σ 20 24) 42 13 (nx σ)) Q) : WP E m_M_init (d + 1) 79 [(0, aP 42)] [] σ Q := by
  refine s_aload_n 0 d_M_init_79 rfl rfl ?_
  refine s_bipush d_M_init_80 (by decide) ?_
  refine s_newarray (kd := 20) d_M_init_82 (by decide) ac_20 (by decide) ?_
  obtain ⟨g1, h⟩ := h
  refine s_putf 13 rfl d_M_init_84 fl_M_41 (fun C T h => by cases h; exact Or.inr ⟨rfl, rfl, rfl, fk_M_41⟩) rfl (Or.inr (Or.inr (Or.inr (Or.inr ⟨_, rfl⟩)))) (fun h => nomatch h) g1 ?_
  exact h
theorem n_M_init_87 {E : EV} {d : Nat} {Q : Option AV → St → Prop} {σ : St} (h : (sh (al σ 20 24) 42 = some (10, 74)) ∧ WP E m_M_init (d + 1) 95 [(0, aP 42)] [] (wr (al σ 20 24) 42 14 (nx σ)) Q) : WP E m_M_init (d + 1) 87 [(0, aP 42)] [] σ Q := by
  refine s_aload_n 0 d_M_init_87 rfl rfl ?_
  refine s_bipush d_M_init_88 (by decide) ?_
  refine s_newarray (kd := 20) d_M_init_90 (by decide) ac_20 (by decide) ?_
  obtain ⟨g1, h⟩ := h
  refine s_putf 14 rfl d_M_init_92 fl_M_44 (fun C T h => by cases h; exact Or.inr ⟨rfl, rfl, rfl, fk_M_44⟩) rfl (Or.inr (Or.inr (Or.inr (Or.inr ⟨_, rfl⟩)))) (fun h => nomatch h) g1 ?_
  exact h
theorem n_M_init_95 {E : EV} {d : Nat} {Q : Option AV → St → Prop} {σ : St} (h : (sh (al σ 20 24) 42 = some (10, 74)) ∧ WP E m_M_init (d + 1) 103 [(0, aP 42)] [] (wr (al σ 20 24) 42 15 (nx σ)) Q) : WP E m_M_init (d + 1) 95 [(0, aP 42)] [] σ Q := by
  refine s_aload_n 0 d_M_init_95 rfl rfl ?_
  refine s_bipush d_M_init_96 (by decide) ?_
  refine s_newarray (kd := 20) d_M_init_98 (by decide) ac_20 (by decide) ?_
  obtain ⟨g1, h⟩ := h
  refine s_putf 15 rfl d_M_init_100 fl_M_47 (fun C T h => by cases h; exact Or.inr ⟨rfl, rfl, rfl, fk_M_47⟩) rfl (Or.inr (Or.inr (Or.inr (Or.inr ⟨_, rfl⟩)))) (fun h => nomatch h) g1 ?_
  exact h
theorem n_M_init_103 {E : EV} {d : Nat} {Q : Option AV → St → Prop} {σ : St} (h : (sh (al σ 22 12) 42 = some (10, 74)) ∧ WP E m_M_init (d + 1) 111 [(0, aP 42)] [] (wr (al σ 22 12) 42 18 (nx σ)) Q) : WP E m_M_init (d + 1) 103 [(0, aP 42)] [] σ Q := by
  refine s_aload_n 0 d_M_init_103 rfl rfl ?_
  refine s_bipush d_M_init_104 (by decide) ?_
  refine s_newarray (kd := 22) d_M_init_106 (by decide) ac_22 (by decide) ?_
  obtain ⟨g1, h⟩ := h
  refine s_putf 18 rfl d_M_init_108 fl_M_50 (fun C T h => by cases h; exact Or.inr ⟨rfl, rfl, rfl, fk_M_50⟩) rfl (Or.inr (Or.inr (Or.inr (Or.inr ⟨_, rfl⟩)))) (fun h => nomatch h) g1 ?_
  exact h
theorem n_M_init_111 {E : EV} {d : Nat} {Q : Option AV → St → Prop} {σ : St} (h : (sh (al σ 22 12) 42 = some (10, 74)) ∧ WP E m_M_init (d + 1) 119 [(0, aP 42)] [] (wr (al σ 22 12) 42 19 (nx σ)) Q) : WP E m_M_init (d + 1) 111 [(0, aP 42)] [] σ Q := by
  refine s_aload_n 0 d_M_init_111 rfl rfl ?_
  refine s_bipush d_M_init_112 (by decide) ?_
  refine s_newarray (kd := 22) d_M_init_114 (by decide) ac_22 (by decide) ?_
  obtain ⟨g1, h⟩ := h
  refine s_putf 19 rfl d_M_init_116 fl_M_54 (fun C T h => by cases h; exact Or.inr ⟨rfl, rfl, rfl, fk_M_54⟩) rfl (Or.inr (Or.inr (Or.inr (Or.inr ⟨_, rfl⟩)))) (fun h => nomatch h) g1 ?_
  exact h
theorem n_M_init_119 {E : EV} {d : Nat} {Q : Option AV → St → Prop} {σ : St} (h : (sh (al σ 22 12) 42 = some (10, 74)) ∧ WP E m_M_init (d + 1) 127 [(0, aP 42)] [] (wr (al σ 22 12) 42 20 (nx σ)) Q) : WP E m_M_init (d + 1) 119 [(0, aP 42)] [] σ Q := by
  refine s_aload_n 0 d_M_init_119 rfl rfl ?_
  refine s_bipush d_M_init_120 (by decide) ?_
  refine s_newarray (kd := 22) d_M_init_122 (by decide) ac_22 (by decide) ?_
  obtain ⟨g1, h⟩ := h
  refine s_putf 20 rfl d_M_init_124 fl_M_57 (fun C T h => by cases h; exact Or.inr ⟨rfl, rfl, rfl, fk_M_57⟩) rfl (Or.inr (Or.inr (Or.inr (Or.inr ⟨_, rfl⟩)))) (fun h => nomatch h) g1 ?_
  exact h
theorem n_M_init_127 {E : EV} {d : Nat} {Q : Option AV → St → Prop} {σ : St} (h : (sh (al σ 22 12) 42 = some (10, 74)) ∧ WP E m_M_init (d + 1) 135 [(0, aP 42)] [] (wr (al σ 22 12) 42 21 (nx σ)) Q) : WP E m_M_init (d + 1) 127 [(0, aP 42)] [] σ Q := by
  refine s_aload_n 0 d_M_init_127 rfl rfl ?_
  refine s_bipush d_M_init_128 (by decide) ?_
  refine s_newarray (kd := 22) d_M_init_130 (by decide) ac_22 (by decide) ?_
  obtain ⟨g1, h⟩ := h
  refine s_putf 21 rfl d_M_init_132 fl_M_60 (fun C T h => by cases h; exact Or.inr ⟨rfl, rfl, rfl, fk_M_60⟩) rfl (Or.inr (Or.inr (Or.inr (Or.inr ⟨_, rfl⟩)))) (fun h => nomatch h) g1 ?_
  exact h
theorem n_M_init_135 {E : EV} {d : Nat} {Q : Option AV → St → Prop} {σ : St} (h : (sh (al σ 22 12) 42 = some (10, 74)) ∧ WP E m_M_init (d + 1) 143 [(0, aP 42)] [] (wr (al σ 22 12) 42 22 (nx σ)) Q) : WP E m_M_init (d + 1) 135 [(0, aP 42)] [] σ Q := by
  refine s_aload_n 0 d_M_init_135 rfl rfl ?_
  refine s_bipush d_M_init_136 (by decide) ?_
  refine s_newarray (kd := 22) d_M_init_138 (by decide) ac_22 (by decide) ?_
  obtain ⟨g1, h⟩ := h
  refine s_putf 22 rfl d_M_init_140 fl_M_63 (fun C T h => by cases h; exact Or.inr ⟨rfl, rfl, rfl, fk_M_63⟩) rfl (Or.inr (Or.inr (Or.inr (Or.inr ⟨_, rfl⟩)))) (fun h => nomatch h) g1 ?_
  exact h
theorem n_M_init_143 {E : EV} {d : Nat} {Q : Option AV → St → Prop} {σ : St} (h : (sh (al σ 22 12) 42 = some (10, 74)) ∧ WP E m_M_init (d + 1) 151 [(0, aP 42)] [] (wr (al σ 22 12) 42 23 (nx σ)) Q) : WP E m_M_init (d + 1) 143 [(0, aP 42)] [] σ Q := by
  refine s_aload_n 0 d_M_init_143 rfl rfl ?_
  refine s_bipush d_M_init_144 (by decide) ?_
  refine s_newarray (kd := 22) d_M_init_146 (by decide) ac_22 (by decide) ?_
  obtain ⟨g1, h⟩ := h
  refine s_putf 23 rfl d_M_init_148 fl_M_66 (fun C T h => by cases h; exact Or.inr ⟨rfl, rfl, rfl, fk_M_66⟩) rfl (Or.inr (Or.inr (Or.inr (Or.inr ⟨_, rfl⟩)))) (fun h => nomatch h) g1 ?_
  exact h
theorem n_M_init_151 {E : EV} {d : Nat} {Q : Option AV → St → Prop} {σ : St} (h : (sh (al σ 20 24) 42 = some (10, 74)) ∧ WP E m_M_init (d + 1) 159 [(0, aP 42)] [] (wr (al σ 20 24) 42 24 (nx σ)) Q) : WP E m_M_init (d + 1) 151 [(0, aP 42)] [] σ Q := by
  refine s_aload_n 0 d_M_init_151 rfl rfl ?_
  refine s_bipush d_M_init_152 (by decide) ?_
  refine s_newarray (kd := 20) d_M_init_154 (by decide) ac_20 (by decide) ?_
  obtain ⟨g1, h⟩ := h
  refine s_putf 24 rfl d_M_init_156 fl_M_69 (fun C T h => by cases h; exact Or.inr ⟨rfl, rfl, rfl, fk_M_69⟩) rfl (Or.inr (Or.inr (Or.inr (Or.inr ⟨_, rfl⟩)))) (fun h => nomatch h) g1 ?_
  exact h
theorem n_M_init_159 {E : EV} {d : Nat} {Q : Option AV → St → Prop} {σ : St} (h : (sh (al σ 20 24) 42 = some (10, 74)) ∧ WP E m_M_init (d + 1) 167 [(0, aP 42)] [] (wr (al σ 20 24) 42 25 (nx σ)) Q) : WP E m_M_init (d + 1) 159 [(0, aP 42)] [] σ Q := by
  refine s_aload_n 0 d_M_init_159 rfl rfl ?_
  refine s_bipush d_M_init_160 (by decide) ?_
  refine s_newarray (kd := 20) d_M_init_162 (by decide) ac_20 (by decide) ?_
  obtain ⟨g1, h⟩ := h
  refine s_putf 25 rfl d_M_init_164 fl_M_72 (fun C T h => by cases h; exact Or.inr ⟨rfl, rfl, rfl, fk_M_72⟩) rfl (Or.inr (Or.inr (Or.inr (Or.inr ⟨_, rfl⟩)))) (fun h => nomatch h) g1 ?_
  exact h
theorem n_M_init_167 {E : EV} {d : Nat} {Q : Option AV → St → Prop} {σ : St} (h : (sh (al σ 20 24) 42 = some (10, 74)) ∧ WP E m_M_init (d + 1) 175 [(0, aP 42)] [] (wr (al σ 20 24) 42 26 (nx σ)) Q) : WP E m_M_init (d + 1) 167 [(0, aP 42)] [] σ Q := by
  refine s_aload_n 0 d_M_init_167 rfl rfl ?_
  refine s_bipush d_M_init_168 (by decide) ?_
  refine s_newarray (kd := 20) d_M_init_170 (by decide) ac_20 (by decide) ?_
  obtain ⟨g1, h⟩ := h
  refine s_putf 26 rfl d_M_init_172 fl_M_75 (fun C T h => by cases h; exact Or.inr ⟨rfl, rfl, rfl, fk_M_75⟩) rfl (Or.inr (Or.inr (Or.inr (Or.inr ⟨_, rfl⟩)))) (fun h => nomatch h) g1 ?_
  exact h
theorem n_M_init_175 {E : EV} {d : Nat} {Q : Option AV → St → Prop} {σ : St} (h : (sh (al σ 20 2600) 42 = some (10, 74)) ∧ WP E m_M_init (d + 1) 184 [(0, aP 42)] [] (wr (al σ 20 2600) 42 28 (nx σ)) Q) : WP E m_M_init (d + 1) 175 [(0, aP 42)] [] σ Q := by
  refine s_aload_n 0 d_M_init_175 rfl rfl ?_
  refine s_sipush d_M_init_176 (by decide) ?_
  refine s_newarray (kd := 20) d_M_init_179 (by decide) ac_20 (by decide) ?_
  obtain ⟨g1, h⟩ := h
  refine s_putf 28 rfl d_M_init_181 fl_M_78 (fun C T h => by cases h; exact Or.inr ⟨rfl, rfl, rfl, fk_M_78⟩) rfl (Or.inr (Or.inr (Or.inr (Or.inr ⟨_, rfl⟩)))) (fun h => nomatch h) g1 ?_
  exact h
theorem n_M_init_184 {E : EV} {d : Nat} {Q : Option AV → St → Prop} {σ : St} (h : (sh (al σ 20 24) 42 = some (10, 74)) ∧ WP E m_M_init (d + 1) 192 [(0, aP 42)] [] (wr (al σ 20 24) 42 30 (nx σ)) Q) : WP E m_M_init (d + 1) 184 [(0, aP 42)] [] σ Q := by
  refine s_aload_n 0 d_M_init_184 rfl rfl ?_
  refine s_bipush d_M_init_185 (by decide) ?_
  refine s_newarray (kd := 20) d_M_init_187 (by decide) ac_20 (by decide) ?_
  obtain ⟨g1, h⟩ := h
  refine s_putf 30 rfl d_M_init_189 fl_M_81 (fun C T h => by cases h; exact Or.inr ⟨rfl, rfl, rfl, fk_M_81⟩) rfl (Or.inr (Or.inr (Or.inr (Or.inr ⟨_, rfl⟩)))) (fun h => nomatch h) g1 ?_
  exact h
theorem n_M_init_192 {E : EV} {d : Nat} {Q : Option AV → St → Prop} {σ : St} (h : (sh (al σ 20 24) 42 = some (10, 74)) ∧ WP E m_M_init (d + 1) 200 [(0, aP 42)] [] (wr (al σ 20 24) 42 31 (nx σ)) Q) : WP E m_M_init (d + 1) 192 [(0, aP 42)] [] σ Q := by
  refine s_aload_n 0 d_M_init_192 rfl rfl ?_
  refine s_bipush d_M_init_193 (by decide) ?_
  refine s_newarray (kd := 20) d_M_init_195 (by decide) ac_20 (by decide) ?_
  obtain ⟨g1, h⟩ := h
  refine s_putf 31 rfl d_M_init_197 fl_M_84 (fun C T h => by cases h; exact Or.inr ⟨rfl, rfl, rfl, fk_M_84⟩) rfl (Or.inr (Or.inr (Or.inr (Or.inr ⟨_, rfl⟩)))) (fun h => nomatch h) g1 ?_
  exact h
theorem n_M_init_200 {E : EV} {d : Nat} {Q : Option AV → St → Prop} {σ : St} (h : (sh (al σ 20 24) 42 = some (10, 74)) ∧ WP E m_M_init (d + 1) 208 [(0, aP 42)] [] (wr (al σ 20 24) 42 32 (nx σ)) Q) : WP E m_M_init (d + 1) 200 [(0, aP 42)] [] σ Q := by
  refine s_aload_n 0 d_M_init_200 rfl rfl ?_
  refine s_bipush d_M_init_201 (by decide) ?_
  refine s_newarray (kd := 20) d_M_init_203 (by decide) ac_20 (by decide) ?_
  obtain ⟨g1, h⟩ := h
  refine s_putf 32 rfl d_M_init_205 fl_M_87 (fun C T h => by cases h; exact Or.inr ⟨rfl, rfl, rfl, fk_M_87⟩) rfl (Or.inr (Or.inr (Or.inr (Or.inr ⟨_, rfl⟩)))) (fun h => nomatch h) g1 ?_
  exact h
theorem n_M_init_208 {E : EV} {d : Nat} {Q : Option AV → St → Prop} {σ : St} (h : (sh (al σ 23 24) 42 = some (10, 74)) ∧ WP E m_M_init (d + 1) 216 [(0, aP 42)] [] (wr (al σ 23 24) 42 33 (nx σ)) Q) : WP E m_M_init (d + 1) 208 [(0, aP 42)] [] σ Q := by
  refine s_aload_n 0 d_M_init_208 rfl rfl ?_
  refine s_bipush d_M_init_209 (by decide) ?_
  refine s_newarray (kd := 23) d_M_init_211 (by decide) ac_23 (by decide) ?_
  obtain ⟨g1, h⟩ := h
  refine s_putf 33 rfl d_M_init_213 fl_M_90 (fun C T h => by cases h; exact Or.inr ⟨rfl, rfl, rfl, fk_M_90⟩) rfl (Or.inr (Or.inr (Or.inr (Or.inr ⟨_, rfl⟩)))) (fun h => nomatch h) g1 ?_
  exact h
theorem n_M_init_216 {E : EV} {d : Nat} {Q : Option AV → St → Prop} {σ : St} (h : (sh (al σ 20 3084) 42 = some (10, 74)) ∧ WP E m_M_init (d + 1) 225 [(0, aP 42)] [] (wr (al σ 20 3084) 42 34 (nx σ)) Q) : WP E m_M_init (d + 1) 216 [(0, aP 42)] [] σ Q := by
  refine s_aload_n 0 d_M_init_216 rfl rfl ?_
  refine s_sipush d_M_init_217 (by decide) ?_
  refine s_newarray (kd := 20) d_M_init_220 (by decide) ac_20 (by decide) ?_
  obtain ⟨g1, h⟩ := h
  refine s_putf 34 rfl d_M_init_222 fl_M_94 (fun C T h => by cases h; exact Or.inr ⟨rfl, rfl, rfl, fk_M_94⟩) rfl (Or.inr (Or.inr (Or.inr (Or.inr ⟨_, rfl⟩)))) (fun h => nomatch h) g1 ?_
  exact h
theorem n_M_init_225 {E : EV} {d : Nat} {Q : Option AV → St → Prop} {σ : St} (h : (sh (al σ 20 7) 42 = some (10, 74)) ∧ WP E m_M_init (d + 1) 233 [(0, aP 42)] [] (wr (al σ 20 7) 42 35 (nx σ)) Q) : WP E m_M_init (d + 1) 225 [(0, aP 42)] [] σ Q := by
  refine s_aload_n 0 d_M_init_225 rfl rfl ?_
  refine s_bipush d_M_init_226 (by decide) ?_
  refine s_newarray (kd := 20) d_M_init_228 (by decide) ac_20 (by decide) ?_
  obtain ⟨g1, h⟩ := h
  refine s_putf 35 rfl d_M_init_230 fl_M_97 (fun C T h => by cases h; exact Or.inr ⟨rfl, rfl, rfl, fk_M_97⟩) rfl (Or.inr (Or.inr (Or.inr (Or.inr ⟨_, rfl⟩)))) (fun h => nomatch h) g1 ?_
  exact h
theorem n_M_init_233 {E : EV} {d : Nat} {Q : Option AV → St → Prop} {σ : St} (h : (sh (al σ 20 8) 42 = some (10, 74)) ∧ WP E m_M_init (d + 1) 241 [(0, aP 42)] [] (wr (al σ 20 8) 42 36 (nx σ)) Q) : WP E m_M_init (d + 1) 233 [(0, aP 42)] [] σ Q := by
  refine s_aload_n 0 d_M_init_233 rfl rfl ?_
  refine s_bipush d_M_init_234 (by decide) ?_
  refine s_newarray (kd := 20) d_M_init_236 (by decide) ac_20 (by decide) ?_
  obtain ⟨g1, h⟩ := h
  refine s_putf 36 rfl d_M_init_238 fl_M_100 (fun C T h => by cases h; exact Or.inr ⟨rfl, rfl, rfl, fk_M_100⟩) rfl (Or.inr (Or.inr (Or.inr (Or.inr ⟨_, rfl⟩)))) (fun h => nomatch h) g1 ?_
  exact h
theorem n_M_init_241 {E : EV} {d : Nat} {Q : Option AV → St → Prop} {σ : St} (h : (sh (al σ 20 24) 42 = some (10, 74)) ∧ WP E m_M_init (d + 1) 249 [(0, aP 42)] [] (wr (al σ 20 24) 42 37 (nx σ)) Q) : WP E m_M_init (d + 1) 241 [(0, aP 42)] [] σ Q := by
  refine s_aload_n 0 d_M_init_241 rfl rfl ?_
  refine s_bipush d_M_init_242 (by decide) ?_
  refine s_newarray (kd := 20) d_M_init_244 (by decide) ac_20 (by decide) ?_
  obtain ⟨g1, h⟩ := h
  refine s_putf 37 rfl d_M_init_246 fl_M_103 (fun C T h => by cases h; exact Or.inr ⟨rfl, rfl, rfl, fk_M_103⟩) rfl (Or.inr (Or.inr (Or.inr (Or.inr ⟨_, rfl⟩)))) (fun h => nomatch h) g1 ?_
  exact h
theorem n_M_init_249 {E : EV} {d : Nat} {Q : Option AV → St → Prop} {σ : St} (h : (sh (al σ 20 10) 42 = some (10, 74)) ∧ WP E m_M_init (d + 1) 257 [(0, aP 42)] [] (wr (al σ 20 10) 42 38 (nx σ)) Q) : WP E m_M_init (d + 1) 249 [(0, aP 42)] [] σ Q := by
  refine s_aload_n 0 d_M_init_249 rfl rfl ?_
  refine s_bipush d_M_init_250 (by decide) ?_
  refine s_newarray (kd := 20) d_M_init_252 (by decide) ac_20 (by decide) ?_
  obtain ⟨g1, h⟩ := h
  refine s_putf 38 rfl d_M_init_254 fl_M_106 (fun C T h => by cases h; exact Or.inr ⟨rfl, rfl, rfl, fk_M_106⟩) rfl (Or.inr (Or.inr (Or.inr (Or.inr ⟨_, rfl⟩)))) (fun h => nomatch h) g1 ?_
  exact h
theorem n_M_init_257 {E : EV} {d : Nat} {Q : Option AV → St → Prop} {σ : St} (h : (sh (al σ 20 24) 42 = some (10, 74)) ∧ WP E m_M_init (d + 1) 265 [(0, aP 42)] [] (wr (al σ 20 24) 42 40 (nx σ)) Q) : WP E m_M_init (d + 1) 257 [(0, aP 42)] [] σ Q := by
  refine s_aload_n 0 d_M_init_257 rfl rfl ?_
  refine s_bipush d_M_init_258 (by decide) ?_
  refine s_newarray (kd := 20) d_M_init_260 (by decide) ac_20 (by decide) ?_
  obtain ⟨g1, h⟩ := h
  refine s_putf 40 rfl d_M_init_262 fl_M_109 (fun C T h => by cases h; exact Or.inr ⟨rfl, rfl, rfl, fk_M_109⟩) rfl (Or.inr (Or.inr (Or.inr (Or.inr ⟨_, rfl⟩)))) (fun h => nomatch h) g1 ?_
  exact h
theorem n_M_init_265 {E : EV} {d : Nat} {Q : Option AV → St → Prop} {σ : St} (h : (sh (al σ 20 80) 42 = some (10, 74)) ∧ WP E m_M_init (d + 1) 273 [(0, aP 42)] [] (wr (al σ 20 80) 42 44 (nx σ)) Q) : WP E m_M_init (d + 1) 265 [(0, aP 42)] [] σ Q := by
  refine s_aload_n 0 d_M_init_265 rfl rfl ?_
  refine s_bipush d_M_init_266 (by decide) ?_
  refine s_newarray (kd := 20) d_M_init_268 (by decide) ac_20 (by decide) ?_
  obtain ⟨g1, h⟩ := h
  refine s_putf 44 rfl d_M_init_270 fl_M_112 (fun C T h => by cases h; exact Or.inr ⟨rfl, rfl, rfl, fk_M_112⟩) rfl (Or.inr (Or.inr (Or.inr (Or.inr ⟨_, rfl⟩)))) (fun h => nomatch h) g1 ?_
  exact h
theorem n_M_init_273 {E : EV} {d : Nat} {Q : Option AV → St → Prop} {σ : St} (h : (sh (al σ 20 400) 42 = some (10, 74)) ∧ WP E m_M_init (d + 1) 282 [(0, aP 42)] [] (wr (al σ 20 400) 42 46 (nx σ)) Q) : WP E m_M_init (d + 1) 273 [(0, aP 42)] [] σ Q := by
  refine s_aload_n 0 d_M_init_273 rfl rfl ?_
  refine s_sipush d_M_init_274 (by decide) ?_
  refine s_newarray (kd := 20) d_M_init_277 (by decide) ac_20 (by decide) ?_
  obtain ⟨g1, h⟩ := h
  refine s_putf 46 rfl d_M_init_279 fl_M_115 (fun C T h => by cases h; exact Or.inr ⟨rfl, rfl, rfl, fk_M_115⟩) rfl (Or.inr (Or.inr (Or.inr (Or.inr ⟨_, rfl⟩)))) (fun h => nomatch h) g1 ?_
  exact h
theorem n_M_init_282 {E : EV} {d : Nat} {Q : Option AV → St → Prop} {σ : St} (h : (inb (al σ 21 29) (nx σ) 21 0) ∧ WP E m_M_init (d + 1) 292 [(0, aP 42)] [aP (nx σ), aP 42] (wr (al σ 21 29) (nx σ) 0 115) Q) : WP E m_M_init (d + 1) 282 [(0, aP 42)] [] σ Q := by
  refine s_aload_n 0 d_M_init_282 rfl rfl ?_
  refine s_bipush d_M_init_283 (by decide) ?_
  refine s_newarray (kd := 21) d_M_init_285 (by decide) ac_21 (by decide) ?_
  refine s_dup d_M_init_287 (Nat.ne_of_beq_eq_false rfl) ?_
  refine s_iconst d_M_init_288 ?_
  refine s_bipush d_M_init_289 (by decide) ?_
  obtain ⟨g1, h⟩ := h
  refine s_bastore (Or.inl ⟨rfl, (by decide)⟩) d_M_init_291 g1 ?_
  exact h
theorem n_M_init_292 {E : EV} {d : Nat} {Q : Option AV → St → Prop} {σ : St} (s0 s1 : Int) (h : (inb σ s1 21 1) ∧ WP E m_M_init (d + 1) 297 [(0, aP 42)] [aP s1, aP s0] (wr σ s1 1 105) Q) : WP E m_M_init (d + 1) 292 [(0, aP 42)] [aP s1, aP s0] σ Q := by
  refine s_dup d_M_init_292 (Nat.ne_of_beq_eq_false rfl) ?_
  refine s_iconst d_M_init_293 ?_
  refine s_bipush d_M_init_294 (by decide) ?_
  obtain ⟨g1, h⟩ := h
  refine s_bastore (Or.inl ⟨rfl, (by decide)⟩) d_M_init_296 g1 ?_
  exact h
theorem n_M_init_297 {E : EV} {d : Nat} {Q : Option AV → St → Prop} {σ : St} (s0 s1 : Int) (h : (inb σ s1 21 2) ∧ WP E m_M_init (d + 1) 302 [(0, aP 42)] [aP s1, aP s0] (wr σ s1 2 100) Q) : WP E m_M_init (d + 1) 297 [(0, aP 42)] [aP s1, aP s0] σ Q := by
  refine s_dup d_M_init_297 (Nat.ne_of_beq_eq_false rfl) ?_
  refine s_iconst d_M_init_298 ?_
  refine s_bipush d_M_init_299 (by decide) ?_
  obtain ⟨g1, h⟩ := h
  refine s_bastore (Or.inl ⟨rfl, (by decide)⟩) d_M_init_301 g1 ?_
  exact h
theorem n_M_init_302 {E : EV} {d : Nat} {Q : Option AV → St → Prop} {σ : St} (s0 s1 : Int) (h : (inb σ s1 21 3) ∧ WP E m_M_init (d + 1) 307 [(0, aP 42)] [aP s1, aP s0] (wr σ s1 3 101) Q) : WP E m_M_init (d + 1) 302 [(0, aP 42)] [aP s1, aP s0] σ Q := by
  refine s_dup d_M_init_302 (Nat.ne_of_beq_eq_false rfl) ?_
  refine s_iconst d_M_init_303 ?_
  refine s_bipush d_M_init_304 (by decide) ?_
  obtain ⟨g1, h⟩ := h
  refine s_bastore (Or.inl ⟨rfl, (by decide)⟩) d_M_init_306 g1 ?_
  exact h
theorem n_M_init_307 {E : EV} {d : Nat} {Q : Option AV → St → Prop} {σ : St} (s0 s1 : Int) (h : (inb σ s1 21 4) ∧ WP E m_M_init (d + 1) 311 [(0, aP 42)] [aP s1, aP s0] (wr σ s1 4 0) Q) : WP E m_M_init (d + 1) 307 [(0, aP 42)] [aP s1, aP s0] σ Q := by
  refine s_dup d_M_init_307 (Nat.ne_of_beq_eq_false rfl) ?_
  refine s_iconst d_M_init_308 ?_
  refine s_iconst d_M_init_309 ?_
  obtain ⟨g1, h⟩ := h
  refine s_bastore (Or.inl ⟨rfl, (by decide)⟩) d_M_init_310 g1 ?_
  exact h
theorem n_M_init_311 {E : EV} {d : Nat} {Q : Option AV → St → Prop} {σ : St} (s0 s1 : Int) (h : (inb σ s1 21 5) ∧ WP E m_M_init (d + 1) 316 [(0, aP 42)] [aP s1, aP s0] (wr σ s1 5 103) Q) : WP E m_M_init (d + 1) 311 [(0, aP 42)] [aP s1, aP s0] σ Q := by
  refine s_dup d_M_init_311 (Nat.ne_of_beq_eq_false rfl) ?_
  refine s_iconst d_M_init_312 ?_
  refine s_bipush d_M_init_313 (by decide) ?_
  obtain ⟨g1, h⟩ := h
  refine s_bastore (Or.inl ⟨rfl, (by decide)⟩) d_M_init_315 g1 ?_
  exact h
theorem n_M_init_316 {E : EV} {d : Nat} {Q : Option AV → St → Prop} {σ : St} (s0 s1 : Int) (h : (inb σ s1 21 6) ∧ WP E m_M_init (d + 1) 322 [(0, aP 42)] [aP s1, aP s0] (wr σ s1 6 97) Q) : WP E m_M_init (d + 1) 316 [(0, aP 42)] [aP s1, aP s0] σ Q := by
  refine s_dup d_M_init_316 (Nat.ne_of_beq_eq_false rfl) ?_
  refine s_bipush d_M_init_317 (by decide) ?_
  refine s_bipush d_M_init_319 (by decide) ?_
  obtain ⟨g1, h⟩ := h
  refine s_bastore (Or.inl ⟨rfl, (by decide)⟩) d_M_init_321 g1 ?_
  exact h
theorem n_M_init_322 {E : EV} {d : Nat} {Q : Option AV → St → Prop} {σ : St} (s0 s1 : Int) (h : (inb σ s1 21 7) ∧ WP E m_M_init (d + 1) 328 [(0, aP 42)] [aP s1, aP s0] (wr σ s1 7 112) Q) : WP E m_M_init (d + 1) 322 [(0, aP 42)] [aP s1, aP s0] σ Q := by
  refine s_dup d_M_init_322 (Nat.ne_of_beq_eq_false rfl) ?_
  refine s_bipush d_M_init_323 (by decide) ?_
  refine s_bipush d_M_init_325 (by decide) ?_
  obtain ⟨g1, h⟩ := h
  refine s_bastore (Or.inl ⟨rfl, (by decide)⟩) d_M_init_327 g1 ?_
  exact h
theorem n_M_init_328 {E : EV} {d : Nat} {Q : Option AV → St → Prop} {σ : St} (s0 s1 : Int) (h : (inb σ s1 21 8) ∧ WP E m_M_init (d + 1) 333 [(0, aP 42)] [aP s1, aP s0] (wr σ s1 8 0) Q) : WP E m_M_init (d + 1) 328 [(0, aP 42)] [aP s1, aP s0] σ Q := by
  refine s_dup d_M_init_328 (Nat.ne_of_beq_eq_false rfl) ?_
  refine s_bipush d_M_init_329 (by decide) ?_
  refine s_iconst d_M_init_331 ?_
  obtain ⟨g1, h⟩ := h
  refine s_bastore (Or.inl ⟨rfl, (by decide)⟩) d_M_init_332 g1 ?_
  exact h
theorem n_M_init_333 {E : EV} {d : Nat} {Q : Option AV → St → Prop} {σ : St} (s0 s1 : Int) (h : (inb σ s1 21 9) ∧ WP E m_M_init (d + 1) 339 [(0, aP 42)] [aP s1, aP s0] (wr σ s1 9 115) Q) : WP E m_M_init (d + 1) 333 [(0, aP 42)] [aP s1, aP s0] σ Q := by
  refine s_dup d_M_init_333 (Nat.ne_of_beq_eq_false rfl) ?_
  refine s_bipush d_M_init_334 (by decide) ?_
  refine s_bipush d_M_init_336 (by decide) ?_
  obtain ⟨g1, h⟩ := h
  refine s_bastore (Or.inl ⟨rfl, (by decide)⟩) d_M_init_338 g1 ?_
  exact h
theorem n_M_init_339 {E : EV} {d : Nat} {Q : Option AV → St → Prop} {σ : St} (s0 s1 : Int) (h : (inb σ s1 21 10) ∧ WP E m_M_init (d + 1) 345 [(0, aP 42)] [aP s1, aP s0] (wr σ s1 10 105) Q) : WP E m_M_init (d + 1) 339 [(0, aP 42)] [aP s1, aP s0] σ Q := by
  refine s_dup d_M_init_339 (Nat.ne_of_beq_eq_false rfl) ?_
  refine s_bipush d_M_init_340 (by decide) ?_
  refine s_bipush d_M_init_342 (by decide) ?_
  obtain ⟨g1, h⟩ := h
  refine s_bastore (Or.inl ⟨rfl, (by decide)⟩) d_M_init_344 g1 ?_
  exact h
theorem n_M_init_345 {E : EV} {d : Nat} {Q : Option AV → St → Prop} {σ : St} (s0 s1 : Int) (h : (inb σ s1 21 11) ∧ WP E m_M_init (d + 1) 351 [(0, aP 42)] [aP s1, aP s0] (wr σ s1 11 103) Q) : WP E m_M_init (d + 1) 345 [(0, aP 42)] [aP s1, aP s0] σ Q := by
  refine s_dup d_M_init_345 (Nat.ne_of_beq_eq_false rfl) ?_
  refine s_bipush d_M_init_346 (by decide) ?_
  refine s_bipush d_M_init_348 (by decide) ?_
  obtain ⟨g1, h⟩ := h
  refine s_bastore (Or.inl ⟨rfl, (by decide)⟩) d_M_init_350 g1 ?_
  exact h
theorem n_M_init_351 {E : EV} {d : Nat} {Q : Option AV → St → Prop} {σ : St} (s0 s1 : Int) (h : (inb σ s1 21 12) ∧ WP E m_M_init (d + 1) 357 [(0, aP 42)] [aP s1, aP s0] (wr σ s1 12 110) Q) : WP E m_M_init (d + 1) 351 [(0, aP 42)] [aP s1, aP s0] σ Q := by
  refine s_dup d_M_init_351 (Nat.ne_of_beq_eq_false rfl) ?_
  refine s_bipush d_M_init_352 (by decide) ?_
  refine s_bipush d_M_init_354 (by decide) ?_
  obtain ⟨g1, h⟩ := h
  refine s_bastore (Or.inl ⟨rfl, (by decide)⟩) d_M_init_356 g1 ?_
  exact h
theorem n_M_init_357 {E : EV} {d : Nat} {Q : Option AV → St → Prop} {σ : St} (s0 s1 : Int) (h : (inb σ s1 21 13) ∧ WP E m_M_init (d + 1) 362 [(0, aP 42)] [aP s1, aP s0] (wr σ s1 13 0) Q) : WP E m_M_init (d + 1) 357 [(0, aP 42)] [aP s1, aP s0] σ Q := by
  refine s_dup d_M_init_357 (Nat.ne_of_beq_eq_false rfl) ?_
  refine s_bipush d_M_init_358 (by decide) ?_
  refine s_iconst d_M_init_360 ?_
  obtain ⟨g1, h⟩ := h
  refine s_bastore (Or.inl ⟨rfl, (by decide)⟩) d_M_init_361 g1 ?_
  exact h
theorem n_M_init_362 {E : EV} {d : Nat} {Q : Option AV → St → Prop} {σ : St} (s0 s1 : Int) (h : (inb σ s1 21 14) ∧ WP E m_M_init (d + 1) 368 [(0, aP 42)] [aP s1, aP s0] (wr σ s1 14 99) Q) : WP E m_M_init (d + 1) 362 [(0, aP 42)] [aP s1, aP s0] σ Q := by
  refine s_dup d_M_init_362 (Nat.ne_of_beq_eq_false rfl) ?_
  refine s_bipush d_M_init_363 (by decide) ?_
  refine s_bipush d_M_init_365 (by decide) ?_
  obtain ⟨g1, h⟩ := h
  refine s_bastore (Or.inl ⟨rfl, (by decide)⟩) d_M_init_367 g1 ?_
  exact h
theorem n_M_init_368 {E : EV} {d : Nat} {Q : Option AV → St → Prop} {σ : St} (s0 s1 : Int) (h : (inb σ s1 21 15) ∧ WP E m_M_init (d + 1) 374 [(0, aP 42)] [aP s1, aP s0] (wr σ s1 15 111) Q) : WP E m_M_init (d + 1) 368 [(0, aP 42)] [aP s1, aP s0] σ Q := by
  refine s_dup d_M_init_368 (Nat.ne_of_beq_eq_false rfl) ?_
  refine s_bipush d_M_init_369 (by decide) ?_
  refine s_bipush d_M_init_371 (by decide) ?_
  obtain ⟨g1, h⟩ := h
  refine s_bastore (Or.inl ⟨rfl, (by decide)⟩) d_M_init_373 g1 ?_
  exact h
theorem n_M_init_374 {E : EV} {d : Nat} {Q : Option AV → St → Prop} {σ : St} (s0 s1 : Int) (h : (inb σ s1 21 16) ∧ WP E m_M_init (d + 1) 380 [(0, aP 42)] [aP s1, aP s0] (wr σ s1 16 114) Q) : WP E m_M_init (d + 1) 374 [(0, aP 42)] [aP s1, aP s0] σ Q := by
  refine s_dup d_M_init_374 (Nat.ne_of_beq_eq_false rfl) ?_
  refine s_bipush d_M_init_375 (by decide) ?_
  refine s_bipush d_M_init_377 (by decide) ?_
  obtain ⟨g1, h⟩ := h
  refine s_bastore (Or.inl ⟨rfl, (by decide)⟩) d_M_init_379 g1 ?_
  exact h
theorem n_M_init_380 {E : EV} {d : Nat} {Q : Option AV → St → Prop} {σ : St} (s0 s1 : Int) (h : (inb σ s1 21 17) ∧ WP E m_M_init (d + 1) 386 [(0, aP 42)] [aP s1, aP s0] (wr σ s1 17 101) Q) : WP E m_M_init (d + 1) 380 [(0, aP 42)] [aP s1, aP s0] σ Q := by
  refine s_dup d_M_init_380 (Nat.ne_of_beq_eq_false rfl) ?_
  refine s_bipush d_M_init_381 (by decide) ?_
  refine s_bipush d_M_init_383 (by decide) ?_
  obtain ⟨g1, h⟩ := h
  refine s_bastore (Or.inl ⟨rfl, (by decide)⟩) d_M_init_385 g1 ?_
  exact h
theorem n_M_init_386 {E : EV} {d : Nat} {Q : Option AV → St → Prop} {σ : St} (s0 s1 : Int) (h : (inb σ s1 21 18) ∧ WP E m_M_init (d + 1) 391 [(0, aP 42)] [aP s1, aP s0] (wr σ s1 18 0) Q) : WP E m_M_init (d + 1) 386 [(0, aP 42)] [aP s1, aP s0] σ Q := by
  refine s_dup d_M_init_386 (Nat.ne_of_beq_eq_false rfl) ?_
  refine s_bipush d_M_init_387 (by decide) ?_
  refine s_iconst d_M_init_389 ?_
  obtain ⟨g1, h⟩ := h
  refine s_bastore (Or.inl ⟨rfl, (by decide)⟩) d_M_init_390 g1 ?_
  exact h
theorem n_M_init_391 {E : EV} {d : Nat} {Q : Option AV → St → Prop} {σ : St} (s0 s1 : Int) (h : (inb σ s1 21 19) ∧ WP E m_M_init (d + 1) 397 [(0, aP 42)] [aP s1, aP s0] (wr σ s1 19 108) Q) : WP E m_M_init (d + 1) 391 [(0, aP 42)] [aP s1, aP s0] σ Q := by
  refine s_dup d_M_init_391 (Nat.ne_of_beq_eq_false rfl) ?_
  refine s_bipush d_M_init_392 (by decide) ?_
  refine s_bipush d_M_init_394 (by decide) ?_
  obtain ⟨g1, h⟩ := h
  refine s_bastore (Or.inl ⟨rfl, (by decide)⟩) d_M_init_396 g1 ?_
  exact h
theorem n_M_init_397 {E : EV} {d : Nat} {Q : Option AV → St → Prop} {σ : St} (s0 s1 : Int) (h : (inb σ s1 21 20) ∧ WP E m_M_init (d + 1) 403 [(0, aP 42)] [aP s1, aP s0] (wr σ s1 20 105) Q) : WP E m_M_init (d + 1) 397 [(0, aP 42)] [aP s1, aP s0] σ Q := by
  refine s_dup d_M_init_397 (Nat.ne_of_beq_eq_false rfl) ?_
  refine s_bipush d_M_init_398 (by decide) ?_
  refine s_bipush d_M_init_400 (by decide) ?_
  obtain ⟨g1, h⟩ := h
  refine s_bastore (Or.inl ⟨rfl, (by decide)⟩) d_M_init_402 g1 ?_
  exact h
theorem n_M_init_403 {E : EV} {d : Nat} {Q : Option AV → St → Prop} {σ : St} (s0 s1 : Int) (h : (inb σ s1 21 21) ∧ WP E m_M_init (d + 1) 409 [(0, aP 42)] [aP s1, aP s0] (wr σ s1 21 110) Q) : WP E m_M_init (d + 1) 403 [(0, aP 42)] [aP s1, aP s0] σ Q := by
  refine s_dup d_M_init_403 (Nat.ne_of_beq_eq_false rfl) ?_
  refine s_bipush d_M_init_404 (by decide) ?_
  refine s_bipush d_M_init_406 (by decide) ?_
  obtain ⟨g1, h⟩ := h
  refine s_bastore (Or.inl ⟨rfl, (by decide)⟩) d_M_init_408 g1 ?_
  exact h
theorem n_M_init_409 {E : EV} {d : Nat} {Q : Option AV → St → Prop} {σ : St} (s0 s1 : Int) (h : (inb σ s1 21 22) ∧ WP E m_M_init (d + 1) 415 [(0, aP 42)] [aP s1, aP s0] (wr σ s1 22 101) Q) : WP E m_M_init (d + 1) 409 [(0, aP 42)] [aP s1, aP s0] σ Q := by
  refine s_dup d_M_init_409 (Nat.ne_of_beq_eq_false rfl) ?_
  refine s_bipush d_M_init_410 (by decide) ?_
  refine s_bipush d_M_init_412 (by decide) ?_
  obtain ⟨g1, h⟩ := h
  refine s_bastore (Or.inl ⟨rfl, (by decide)⟩) d_M_init_414 g1 ?_
  exact h
theorem n_M_init_415 {E : EV} {d : Nat} {Q : Option AV → St → Prop} {σ : St} (s0 s1 : Int) (h : (inb σ s1 21 23) ∧ WP E m_M_init (d + 1) 420 [(0, aP 42)] [aP s1, aP s0] (wr σ s1 23 0) Q) : WP E m_M_init (d + 1) 415 [(0, aP 42)] [aP s1, aP s0] σ Q := by
  refine s_dup d_M_init_415 (Nat.ne_of_beq_eq_false rfl) ?_
  refine s_bipush d_M_init_416 (by decide) ?_
  refine s_iconst d_M_init_418 ?_
  obtain ⟨g1, h⟩ := h
  refine s_bastore (Or.inl ⟨rfl, (by decide)⟩) d_M_init_419 g1 ?_
  exact h
theorem n_M_init_420 {E : EV} {d : Nat} {Q : Option AV → St → Prop} {σ : St} (s0 s1 : Int) (h : (inb σ s1 21 24) ∧ WP E m_M_init (d + 1) 426 [(0, aP 42)] [aP s1, aP s0] (wr σ s1 24 108) Q) : WP E m_M_init (d + 1) 420 [(0, aP 42)] [aP s1, aP s0] σ Q := by
  refine s_dup d_M_init_420 (Nat.ne_of_beq_eq_false rfl) ?_
  refine s_bipush d_M_init_421 (by decide) ?_
  refine s_bipush d_M_init_423 (by decide) ?_
  obtain ⟨g1, h⟩ := h
  refine s_bastore (Or.inl ⟨rfl, (by decide)⟩) d_M_init_425 g1 ?_
  exact h
theorem n_M_init_426 {E : EV} {d : Nat} {Q : Option AV → St → Prop} {σ : St} (s0 s1 : Int) (h : (inb σ s1 21 25) ∧ WP E m_M_init (d + 1) 432 [(0, aP 42)] [aP s1, aP s0] (wr σ s1 25 101) Q) : WP E m_M_init (d + 1) 426 [(0, aP 42)] [aP s1, aP s0] σ Q := by
  refine s_dup d_M_init_426 (Nat.ne_of_beq_eq_false rfl) ?_
  refine s_bipush d_M_init_427 (by decide) ?_
  refine s_bipush d_M_init_429 (by decide) ?_
  obtain ⟨g1, h⟩ := h
  refine s_bastore (Or.inl ⟨rfl, (by decide)⟩) d_M_init_431 g1 ?_
  exact h
theorem n_M_init_432 {E : EV} {d : Nat} {Q : Option AV → St → Prop} {σ : St} (s0 s1 : Int) (h : (inb σ s1 21 26) ∧ WP E m_M_init (d + 1) 438 [(0, aP 42)] [aP s1, aP s0] (wr σ s1 26 102) Q) : WP E m_M_init (d + 1) 432 [(0, aP 42)] [aP s1, aP s0] σ Q := by
  refine s_dup d_M_init_432 (Nat.ne_of_beq_eq_false rfl) ?_
  refine s_bipush d_M_init_433 (by decide) ?_
  refine s_bipush d_M_init_435 (by decide) ?_
  obtain ⟨g1, h⟩ := h
  refine s_bastore (Or.inl ⟨rfl, (by decide)⟩) d_M_init_437 g1 ?_
  exact h
theorem n_M_init_438 {E : EV} {d : Nat} {Q : Option AV → St → Prop} {σ : St} (s0 s1 : Int) (h : (inb σ s1 21 27) ∧ WP E m_M_init (d + 1) 444 [(0, aP 42)] [aP s1, aP s0] (wr σ s1 27 116) Q) : WP E m_M_init (d + 1) 438 [(0, aP 42)] [aP s1, aP s0] σ Q := by
  refine s_dup d_M_init_438 (Nat.ne_of_beq_eq_false rfl) ?_
  refine s_bipush d_M_init_439 (by decide) ?_
  refine s_bipush d_M_init_441 (by decide) ?_
  obtain ⟨g1, h⟩ := h
  refine s_bastore (Or.inl ⟨rfl, (by decide)⟩) d_M_init_443 g1 ?_
  exact h
theorem n_M_init_444 {E : EV} {d : Nat} {Q : Option AV → St → Prop} {σ : St} (s0 s1 : Int) (h : (inb σ s1 21 28) ∧ WP E m_M_init (d + 1) 449 [(0, aP 42)] [aP s1, aP s0] (wr σ s1 28 0) Q) : WP E m_M_init (d + 1) 444 [(0, aP 42)] [aP s1, aP s0] σ Q := by
  refine s_dup d_M_init_444 (Nat.ne_of_beq_eq_false rfl) ?_
  refine s_bipush d_M_init_445 (by decide) ?_
  refine s_iconst d_M_init_447 ?_
  obtain ⟨g1, h⟩ := h
  refine s_bastore (Or.inl ⟨rfl, (by decide)⟩) d_M_init_448 g1 ?_
  exact h
theorem n_M_init_449 {E : EV} {d : Nat} {Q : Option AV → St → Prop} {σ : St} (s0 s1 : Int) (h : (sh σ s0 = some (10, 74)) ∧ WP E m_M_init (d + 1) 452 [(0, aP 42)] [] (wr σ s0 48 s1) Q) : WP E m_M_init (d + 1) 449 [(0, aP 42)] [aP s1, aP s0] σ Q := by
  obtain ⟨g1, h⟩ := h
  refine s_putf 48 rfl d_M_init_449 fl_M_118 (fun C T h => by cases h; exact Or.inr ⟨rfl, rfl, rfl, fk_M_118⟩) rfl (Or.inr (Or.inr (Or.inr (Or.inr ⟨_, rfl⟩)))) (fun h => nomatch h) g1 ?_
  exact h
theorem n_M_init_452 {E : EV} {d : Nat} {Q : Option AV → St → Prop} {σ : St} (h : (sh (al σ 20 26) 42 = some (10, 74)) ∧ WP E m_M_init (d + 1) 460 [(0, aP 42)] [] (wr (al σ 20 26) 42 54 (nx σ)) Q) : WP E m_M_init (d + 1) 452 [(0, aP 42)] [] σ Q := by
  refine s_aload_n 0 d_M_init_452 rfl rfl ?_
  refine s_bipush d_M_init_453 (by decide) ?_
  refine s_newarray (kd := 20) d_M_init_455 (by decide) ac_20 (by decide) ?_
  obtain ⟨g1, h⟩ := h
  refine s_putf 54 rfl d_M_init_457 fl_M_122 (fun C T h => by cases h; exact Or.inr ⟨rfl, rfl, rfl, fk_M_122⟩) rfl (Or.inr (Or.inr (Or.inr (Or.inr ⟨_, rfl⟩)))) (fun h => nomatch h) g1 ?_
  exact h
theorem n_M_init_460 {E : EV} {d : Nat} {Q : Option AV → St → Prop} {σ : St} (h : (sh (al σ 20 26) 42 = some (10, 74)) ∧ WP E m_M_init (d + 1) 468 [(0, aP 42)] [] (wr (al σ 20 26) 42 55 (nx σ)) Q) : WP E m_M_init (d + 1) 460 [(0, aP 42)] [] σ Q := by
  refine s_aload_n 0 d_M_init_460 rfl rfl ?_
  refine s_bipush d_M_init_461 (by decide) ?_
  refine s_newarray (kd := 20) d_M_init_463 (by decide) ac_20 (by decide) ?_
  obtain ⟨g1, h⟩ := h
  refine s_putf 55 rfl d_M_init_465 fl_M_125 (fun C T h => by cases h; exact Or.inr ⟨rfl, rfl, rfl, fk_M_125⟩) rfl (Or.inr (Or.inr (Or.inr (Or.inr ⟨_, rfl⟩)))) (fun h => nomatch h) g1 ?_
  exact h
theorem n_M_init_468 {E : EV} {d : Nat} {Q : Option AV → St → Prop} {σ : St} (h : (sh (al σ 20 26) 42 = some (10, 74)) ∧ WP E m_M_init (d + 1) 476 [(0, aP 42)] [] (wr (al σ 20 26) 42 56 (nx σ)) Q) : WP E m_M_init (d + 1) 468 [(0, aP 42)] [] σ Q := by
  refine s_aload_n 0 d_M_init_468 rfl rfl ?_
  refine s_bipush d_M_init_469 (by decide) ?_
  refine s_newarray (kd := 20) d_M_init_471 (by decide) ac_20 (by decide) ?_
  obtain ⟨g1, h⟩ := h
  refine s_putf 56 rfl d_M_init_473 fl_M_128 (fun C T h => by cases h; exact Or.inr ⟨rfl, rfl, rfl, fk_M_128⟩) rfl (Or.inr (Or.inr (Or.inr (Or.inr ⟨_, rfl⟩)))) (fun h => nomatch h) g1 ?_
  exact h
theorem n_M_init_476 {E : EV} {d : Nat} {Q : Option AV → St → Prop} {σ : St} (h : (sh (al σ 20 26) 42 = some (10, 74)) ∧ WP E m_M_init (d + 1) 484 [(0, aP 42)] [] (wr (al σ 20 26) 42 57 (nx σ)) Q) : WP E m_M_init (d + 1) 476 [(0, aP 42)] [] σ Q := by
  refine s_aload_n 0 d_M_init_476 rfl rfl ?_
  refine s_bipush d_M_init_477 (by decide) ?_
  refine s_newarray (kd := 20) d_M_init_479 (by decide) ac_20 (by decide) ?_
  obtain ⟨g1, h⟩ := h
  refine s_putf 57 rfl d_M_init_481 fl_M_131 (fun C T h => by cases h; exact Or.inr ⟨rfl, rfl, rfl, fk_M_131⟩) rfl (Or.inr (Or.inr (Or.inr (Or.inr ⟨_, rfl⟩)))) (fun h => nomatch h) g1 ?_
  exact h
theorem n_M_init_484 {E : EV} {d : Nat} {Q : Option AV → St → Prop} {σ : St} (h : (sh (al σ 20 200) 42 = some (10, 74)) ∧ WP E m_M_init (d + 1) 493 [(0, aP 42)] [] (wr (al σ 20 200) 42 59 (nx σ)) Q) : WP E m_M_init (d + 1) 484 [(0, aP 42)] [] σ Q := by
  refine s_aload_n 0 d_M_init_484 rfl rfl ?_
  refine s_sipush d_M_init_485 (by decide) ?_
  refine s_newarray (kd := 20) d_M_init_488 (by decide) ac_20 (by decide) ?_
  obtain ⟨g1, h⟩ := h
  refine s_putf 59 rfl d_M_init_490 fl_M_134 (fun C T h => by cases h; exact Or.inr ⟨rfl, rfl, rfl, fk_M_134⟩) rfl (Or.inr (Or.inr (Or.inr (Or.inr ⟨_, rfl⟩)))) (fun h => nomatch h) g1 ?_
  exact h
theorem n_M_init_493 {E : EV} {d : Nat} {Q : Option AV → St → Prop} {σ : St} (h : (sh (al σ 20 200) 42 = some (10, 74)) ∧ WP E m_M_init (d + 1) 502 [(0, aP 42)] [] (wr (al σ 20 200) 42 60 (nx σ)) Q) : WP E m_M_init (d + 1) 493 [(0, aP 42)] [] σ Q := by
  refine s_aload_n 0 d_M_init_493 rfl rfl ?_
  refine s_sipush d_M_init_494 (by decide) ?_
  refine s_newarray (kd := 20) d_M_init_497 (by decide) ac_20 (by decide) ?_
  obtain ⟨g1, h⟩ := h
  refine s_putf 60 rfl d_M_init_499 fl_M_137 (fun C T h => by cases h; exact Or.inr ⟨rfl, rfl, rfl, fk_M_137⟩) rfl (Or.inr (Or.inr (Or.inr (Or.inr ⟨_, rfl⟩)))) (fun h => nomatch h) g1 ?_
  exact h
theorem n_M_init_502 {E : EV} {d : Nat} {Q : Option AV → St → Prop} {σ : St} (h : (sh (al σ 20 200) 42 = some (10, 74)) ∧ WP E m_M_init (d + 1) 511 [(0, aP 42)] [] (wr (al σ 20 200) 42 61 (nx σ)) Q) : WP E m_M_init (d + 1) 502 [(0, aP 42)] [] σ Q := by
  refine s_aload_n 0 d_M_init_502 rfl rfl ?_
  refine s_sipush d_M_init_503 (by decide) ?_
  refine s_newarray (kd := 20) d_M_init_506 (by decide) ac_20 (by decide) ?_
  obtain ⟨g1, h⟩ := h
  refine s_putf 61 rfl d_M_init_508 fl_M_140 (fun C T h => by cases h; exact Or.inr ⟨rfl, rfl, rfl, fk_M_140⟩) rfl (Or.inr (Or.inr (Or.inr (Or.inr ⟨_, rfl⟩)))) (fun h => nomatch h) g1 ?_
  exact h
theorem n_M_init_511 {E : EV} {d : Nat} {Q : Option AV → St → Prop} {σ : St} (h : (sh (al σ 20 200) 42 = some (10, 74)) ∧ WP E m_M_init (d + 1) 520 [(0, aP 42)] [] (wr (al σ 20 200) 42 62 (nx σ)) Q) : WP E m_M_init (d + 1) 511 [(0, aP 42)] [] σ Q := by
  refine s_aload_n 0 d_M_init_511 rfl rfl ?_
  refine s_sipush d_M_init_512 (by decide) ?_
  refine s_newarray (kd := 20) d_M_init_515 (by decide) ac_20 (by decide) ?_
  obtain ⟨g1, h⟩ := h
  refine s_putf 62 rfl d_M_init_517 fl_M_143 (fun C T h => by cases h; exact Or.inr ⟨rfl, rfl, rfl, fk_M_143⟩) rfl (Or.inr (Or.inr (Or.inr (Or.inr ⟨_, rfl⟩)))) (fun h => nomatch h) g1 ?_
  exact h
theorem n_M_init_520 {E : EV} {d : Nat} {Q : Option AV → St → Prop} {σ : St} (h : (sh (al σ 20 200) 42 = some (10, 74)) ∧ WP E m_M_init (d + 1) 529 [(0, aP 42)] [] (wr (al σ 20 200) 42 63 (nx σ)) Q) : WP E m_M_init (d + 1) 520 [(0, aP 42)] [] σ Q := by
  refine s_aload_n 0 d_M_init_520 rfl rfl ?_
  refine s_sipush d_M_init_521 (by decide) ?_
  refine s_newarray (kd := 20) d_M_init_524 (by decide) ac_20 (by decide) ?_
  obtain ⟨g1, h⟩ := h
  refine s_putf 63 rfl d_M_init_526 fl_M_146 (fun C T h => by cases h; exact Or.inr ⟨rfl, rfl, rfl, fk_M_146⟩) rfl (Or.inr (Or.inr (Or.inr (Or.inr ⟨_, rfl⟩)))) (fun h => nomatch h) g1 ?_
  exact h
theorem n_M_init_529 {E : EV} {d : Nat} {Q : Option AV → St → Prop} {σ : St} (h : (sh (al σ 20 200) 42 = some (10, 74)) ∧ WP E m_M_init (d + 1) 538 [(0, aP 42)] [] (wr (al σ 20 200) 42 64 (nx σ)) Q) : WP E m_M_init (d + 1) 529 [(0, aP 42)] [] σ Q := by
  refine s_aload_n 0 d_M_init_529 rfl rfl ?_
  refine s_sipush d_M_init_530 (by decide) ?_
  refine s_newarray (kd := 20) d_M_init_533 (by decide) ac_20 (by decide) ?_
  obtain ⟨g1, h⟩ := h
  refine s_putf 64 rfl d_M_init_535 fl_M_149 (fun C T h => by cases h; exact Or.inr ⟨rfl, rfl, rfl, fk_M_149⟩) rfl (Or.inr (Or.inr (Or.inr (Or.inr ⟨_, rfl⟩)))) (fun h => nomatch h) g1 ?_
  exact h
theorem n_M_init_538 {E : EV} {d : Nat} {Q : Option AV → St → Prop} {σ : St} (h : (sh (al σ 20 200) 42 = some (10, 74)) ∧ WP E m_M_init (d + 1) 547 [(0, aP 42)] [] (wr (al σ 20 200) 42 65 (nx σ)) Q) : WP E m_M_init (d + 1) 538 [(0, aP 42)] [] σ Q := by
  refine s_aload_n 0 d_M_init_538 rfl rfl ?_
  refine s_sipush d_M_init_539 (by decide) ?_
  refine s_newarray (kd := 20) d_M_init_542 (by decide) ac_20 (by decide) ?_
  obtain ⟨g1, h⟩ := h
  refine s_putf 65 rfl d_M_init_544 fl_M_152 (fun C T h => by cases h; exact Or.inr ⟨rfl, rfl, rfl, fk_M_152⟩) rfl (Or.inr (Or.inr (Or.inr (Or.inr ⟨_, rfl⟩)))) (fun h => nomatch h) g1 ?_
  exact h
theorem n_M_init_547 {E : EV} {d : Nat} {Q : Option AV → St → Prop} {σ : St} (h : (sh (al σ 20 8) 42 = some (10, 74)) ∧ WP E m_M_init (d + 1) 555 [(0, aP 42)] [] (wr (al σ 20 8) 42 67 (nx σ)) Q) : WP E m_M_init (d + 1) 547 [(0, aP 42)] [] σ Q := by
  refine s_aload_n 0 d_M_init_547 rfl rfl ?_
  refine s_bipush d_M_init_548 (by decide) ?_
  refine s_newarray (kd := 20) d_M_init_550 (by decide) ac_20 (by decide) ?_
  obtain ⟨g1, h⟩ := h
  refine s_putf 67 rfl d_M_init_552 fl_M_155 (fun C T h => by cases h; exact Or.inr ⟨rfl, rfl, rfl, fk_M_155⟩) rfl (Or.inr (Or.inr (Or.inr (Or.inr ⟨_, rfl⟩)))) (fun h => nomatch h) g1 ?_
  exact h
theorem n_M_init_555 {E : EV} {d : Nat} {Q : Option AV → St → Prop} {σ : St} (h : (sh (al σ 20 8) 42 = some (10, 74)) ∧ WP E m_M_init (d + 1) 563 [(0, aP 42)] [] (wr (al σ 20 8) 42 68 (nx σ)) Q) : WP E m_M_init (d + 1) 555 [(0, aP 42)] [] σ Q := by
  refine s_aload_n 0 d_M_init_555 rfl rfl ?_
  refine s_bipush d_M_init_556 (by decide) ?_
  refine s_newarray (kd := 20) d_M_init_558 (by decide) ac_20 (by decide) ?_
  obtain ⟨g1, h⟩ := h
  refine s_putf 68 rfl d_M_init_560 fl_M_158 (fun C T h => by cases h; exact Or.inr ⟨rfl, rfl, rfl, fk_M_158⟩) rfl (Or.inr (Or.inr (Or.inr (Or.inr ⟨_, rfl⟩)))) (fun h => nomatch h) g1 ?_
  exact h
theorem n_M_init_563 {E : EV} {d : Nat} {Q : Option AV → St → Prop} {σ : St} (h : (sh (al σ 20 8) 42 = some (10, 74)) ∧ WP E m_M_init (d + 1) 571 [(0, aP 42)] [] (wr (al σ 20 8) 42 69 (nx σ)) Q) : WP E m_M_init (d + 1) 563 [(0, aP 42)] [] σ Q := by
  refine s_aload_n 0 d_M_init_563 rfl rfl ?_
  refine s_bipush d_M_init_564 (by decide) ?_
  refine s_newarray (kd := 20) d_M_init_566 (by decide) ac_20 (by decide) ?_
  obtain ⟨g1, h⟩ := h
  refine s_putf 69 rfl d_M_init_568 fl_M_161 (fun C T h => by cases h; exact Or.inr ⟨rfl, rfl, rfl, fk_M_161⟩) rfl (Or.inr (Or.inr (Or.inr (Or.inr ⟨_, rfl⟩)))) (fun h => nomatch h) g1 ?_
  exact h
theorem n_M_init_571 {E : EV} {d : Nat} {Q : Option AV → St → Prop} {σ : St} (h : (sh (al σ 20 48) 42 = some (10, 74)) ∧ WP E m_M_init (d + 1) 579 [(0, aP 42)] [] (wr (al σ 20 48) 42 73 (nx σ)) Q) : WP E m_M_init (d + 1) 571 [(0, aP 42)] [] σ Q := by
  refine s_aload_n 0 d_M_init_571 rfl rfl ?_
  refine s_bipush d_M_init_572 (by decide) ?_
  refine s_newarray (kd := 20) d_M_init_574 (by decide) ac_20 (by decide) ?_
  obtain ⟨g1, h⟩ := h
  refine s_putf 73 rfl d_M_init_576 fl_M_164 (fun C T h => by cases h; exact Or.inr ⟨rfl, rfl, rfl, fk_M_164⟩) rfl (Or.inr (Or.inr (Or.inr (Or.inr ⟨_, rfl⟩)))) (fun h => nomatch h) g1 ?_
  exact h
theorem n_M_init_579 {E : EV} {d : Nat} {Q : Option AV → St → Prop} {σ : St} (h : (sh σ 42 = some (10, 74)) ∧ (inb σ (σ.1 42 5) 20 0) ∧ (sh (wr σ (σ.1 42 5) 0 12) 42 = some (10, 74)) ∧ (inb (wr σ (σ.1 42 5) 0 12) ((wr σ (σ.1 42 5) 0 12).1 42 5) 20 1) ∧ Q none (wr (wr σ (σ.1 42 5) 0 12) ((wr σ (σ.1 42 5) 0 12).1 42 5) 1 1)) : WP E m_M_init (d + 1) 579 [(0, aP 42)] [] σ Q := by
  refine s_aload_n 0 d_M_init_579 rfl rfl ?_
  obtain ⟨g1, h⟩ := h
  refine s_getF (v := σ.1 42 5) d_M_init_580 fl_M_26 rfl g1 rfl ?_
  refine s_iconst d_M_init_583 ?_
  refine s_bipush d_M_init_584 (by decide) ?_
  obtain ⟨g2, h⟩ := h
  refine s_iastore d_M_init_586 g2 ?_
  refine s_aload_n 0 d_M_init_587 rfl rfl ?_
  obtain ⟨g3, h⟩ := h
  refine s_getF (v := (wr σ (σ.1 42 5) 0 12).1 42 5) d_M_init_588 fl_M_26 rfl g3 rfl ?_
  refine s_iconst d_M_init_591 ?_
  refine s_iconst d_M_init_592 ?_
  obtain ⟨g4, h⟩ := h
  refine s_iastore d_M_init_593 g4 ?_
  exact s_return d_M_init_594 rfl h
