theorem d_Reader_init_0 : decode m_Reader_init.2.1 0 = .ok (.aload_n 0, 1) := by decide +kernel
theorem d_Reader_init_1 : decode m_Reader_init.2.1 1 = .ok (.invokespecial 3, 3) := by decide +kernel
theorem d_Reader_init_4 : decode m_Reader_init.2.1 4 = .ok (.aload_n 0, 1) := by decide +kernel
theorem d_Reader_init_5 : decode m_Reader_init.2.1 5 = .ok (.sipush 400, 3) := by decide +kernel
theorem d_Reader_init_8 : decode m_Reader_init.2.1 8 = .ok (.newarray .byte, 2) := by decide +kernel
theorem d_Reader_init_10 : decode m_Reader_init.2.1 10 = .ok (.putfield 9, 3) := by decide +kernel
theorem d_Reader_init_13 : decode m_Reader_init.2.1 13 = .ok (.aload_n 0, 1) := by decide +kernel
theorem d_Reader_init_14 : decode m_Reader_init.2.1 14 = .ok (.iconst 0, 1) := by decide +kernel
theorem d_Reader_init_15 : decode m_Reader_init.2.1 15 = .ok (.putfield 15, 3) := by decide +kernel
theorem d_Reader_init_18 : decode m_Reader_init.2.1 18 = .ok (.aload_n 0, 1) := by decide +kernel
theorem d_Reader_init_19 : decode m_Reader_init.2.1 19 = .ok (.new 19, 3) := by decide +kernel
theorem d_Reader_init_22 : decode m_Reader_init.2.1 22 = .ok (.dup, 1) := by decide +kernel
theorem d_Reader_init_23 : decode m_Reader_init.2.1 23 = .ok (.invokespecial 21, 3) := by decide +kernel
theorem d_Reader_init_26 : decode m_Reader_init.2.1 26 = .ok (.putfield 22, 3) := by decide +kernel
theorem d_Reader_init_29 : decode m_Reader_init.2.1 29 = .ok (.aload_n 0, 1) := by decide +kernel
theorem d_Reader_init_30 : decode m_Reader_init.2.1 30 = .ok (.bipush 8, 2) := by decide +kernel
theorem d_Reader_init_32 : decode m_Reader_init.2.1 32 = .ok (.anewarray 26, 3) := by decide +kernel
theorem d_Reader_init_35 : decode m_Reader_init.2.1 35 = .ok (.putfield 28, 3) := by decide +kernel
theorem d_Reader_init_38 : decode m_Reader_init.2.1 38 = .ok (.aload_n 0, 1) := by decide +kernel
theorem d_Reader_init_39 : decode m_Reader_init.2.1 39 = .ok (.iconst 4, 1) := by decide +kernel
theorem d_Reader_init_40 : decode m_Reader_init.2.1 40 = .ok (.anewarray 32, 3) := by decide +kernel
theorem d_Reader_init_43 : decode m_Reader_init.2.1 43 = .ok (.putfield 34, 3) := by decide +kernel
theorem d_Reader_init_46 : decode m_Reader_init.2.1 46 = .ok (.aload_n 0, 1) := by decide +kernel
theorem d_Reader_init_47 : decode m_Reader_init.2.1 47 = .ok (.iconst 0, 1) := by decide +kernel
theorem d_Reader_init_48 : decode m_Reader_init.2.1 48 = .ok (.putfield 38, 3) := by decide +kernel
theorem d_Reader_init_51 : decode m_Reader_init.2.1 51 = .ok (.aload_n 0, 1) := by decide +kernel
theorem d_Reader_init_52 : decode m_Reader_init.2.1 52 = .ok (.iconst 0, 1) := by decide +kernel
theorem d_Reader_init_53 : decode m_Reader_init.2.1 53 = .ok (.putfield 41, 3) := by decide +kernel
theorem d_Reader_init_56 : decode m_Reader_init.2.1 56 = .ok (.aload_n 0, 1) := by decide +kernel
theorem d_Reader_init_57 : decode m_Reader_init.2.1 57 = .ok (.new 44, 3) := by decide +kernel
theorem d_Reader_init_60 : decode m_Reader_init.2.1 60 = .ok (.dup, 1) := by decide +kernel
theorem d_Reader_init_61 : decode m_Reader_init.2.1 61 = .ok (.invokespecial 46, 3) := by decide +kernel
theorem d_Reader_init_64 : decode m_Reader_init.2.1 64 = .ok (.putfield 47, 3) := by decide +kernel
theorem d_Reader_init_67 : decode m_Reader_init.2.1 67 = .ok (.aload_n 0, 1) := by decide +kernel
theorem d_Reader_init_68 : decode m_Reader_init.2.1 68 = .ok (.iconst 0, 1) := by decide +kernel
theorem d_Reader_init_69 : decode m_Reader_init.2.1 69 = .ok (.putfield 51, 3) := by decide +kernel
theorem d_Reader_init_72 : decode m_Reader_init.2.1 72 = .ok (.aload_n 0, 1) := by decide +kernel
theorem d_Reader_init_73 : decode m_Reader_init.2.1 73 = .ok (.bipush 12, 2) := by decide +kernel
theorem d_Reader_init_75 : decode m_Reader_init.2.1 75 = .ok (.putfield 54, 3) := by decide +kernel
theorem d_Reader_init_78 : decode m_Reader_init.2.1 78 = .ok (.aload_n 0, 1) := by decide +kernel
theorem d_Reader_init_79 : decode m_Reader_init.2.1 79 = .ok (.iconst 1, 1) := by decide +kernel
theorem d_Reader_init_80 : decode m_Reader_init.2.1 80 = .ok (.putfield 57, 3) := by decide +kernel
theorem d_Reader_init_83 : decode m_Reader_init.2.1 83 = .ok (.aload_n 0, 1) := by decide +kernel
theorem d_Reader_init_84 : decode m_Reader_init.2.1 84 = .ok (.iconst 0, 1) := by decide +kernel
theorem d_Reader_init_85 : decode m_Reader_init.2.1 85 = .ok (.putfield 60, 3) := by decide +kernel
theorem d_Reader_init_88 : decode m_Reader_init.2.1 88 = .ok (.return_, 1) := by decide +kernel
theorem b_Reader_init_0 {E : EV} {d : Nat} {Q : Option AV → St → Prop} {σ : St} (hF : Fix σ) (h : WP E m_Reader_init (d + 1) 13 [(0, aP 12)] [] (wr (al σ 21 400) 12 0 (nx σ)) Q) : WP E m_Reader_init (d + 1) 0 [(0, aP 12)] [] σ Q := by
  refine s_aload_n 0 d_Reader_init_0 rfl rfl ?_
  refine s_objInit d_Reader_init_1 lo_Reader_3 lo_inst lo_code (by decide) (Nat.le_of_ble_eq_true rfl) ?_
  refine s_aload_n 0 d_Reader_init_4 rfl rfl ?_
  refine s_sipush d_Reader_init_5 (by decide) ?_
  refine s_newarray (kd := 21) d_Reader_init_8 (by decide) ac_21 (by decide) ?_
  refine s_putf 0 rfl d_Reader_init_10 fl_Reader_9 (fun C T h => by cases h; exact Or.inr ⟨rfl, rfl, rfl, fk_Reader_9⟩) rfl (Or.inr (Or.inr (Or.inr (Or.inr ⟨_, rfl⟩)))) (fun h => nomatch h) (sf_12 hF.al_) ?_
  exact h
theorem e_Reader_init {E : EV} {d : Nat} {Q : Option AV → St → Prop} {σ : St} (hF : Fix σ) (h : WP E m_Reader_init (d + 1) 13 [(0, aP 12)] [] (wr (al σ 21 400) 12 0 (nx σ)) Q) : WM E m_Reader_init (d + 1) [aP 12] σ Q := s_meth (by decide) (Nat.le_of_ble_eq_true rfl) rfl (b_Reader_init_0 hF h)
theorem b_Reader_init_13 {E : EV} {d : Nat} {Q : Option AV → St → Prop} {σ : St} (hF : Fix σ) (h : WP E m_Reader_init (d + 1) 18 [(0, aP 12)] [] (wr σ 12 1 0) Q) : WP E m_Reader_init (d + 1) 13 [(0, aP 12)] [] σ Q := by
  refine s_aload_n 0 d_Reader_init_13 rfl rfl ?_
  refine s_iconst d_Reader_init_14 ?_
  refine s_putf 1 rfl d_Reader_init_15 fl_Reader_15 (fun C T h => by cases h; exact Or.inl rfl) rfl (Or.inl rfl) (fun h => nomatch h) (sf_12 hF) ?_
  exact h
theorem b_Reader_init_18 {E : EV} {d : Nat} {Q : Option AV → St → Prop} {σ : St} (hF : Fix σ) (h : (0 < (nx σ)) ∧ (WMv E m_Draft_init d [aP (nx σ)] (al σ 1 2) (fun σ1 => Fix σ1 ∧ WP E m_Reader_init (d + 1) 29 [(0, aP 12)] [] (wr σ1 12 2 (nx σ)) Q))) : WP E m_Reader_init (d + 1) 18 [(0, aP 12)] [] σ Q := by
  refine s_aload_n 0 d_Reader_init_18 rfl rfl ?_
  refine s_new (ci := 1) d_Reader_init_19 (by decide) rfl inG1 tyX1_ok (df_1 E) nw_Reader_19 in_1 ii_1 ?_
  refine s_dup d_Reader_init_22 (Nat.ne_of_beq_eq_false rfl) ?_
  obtain ⟨g2, h⟩ := h
  refine s_callI (as := []) d_Reader_init_23 ok_Draft_init lk_Reader_21 io_Draft_init rfl rfl rfl (Nat.le_of_ble_eq_true rfl) rfl g2 (WM.mono h ?_)
  rintro _ σ1 ⟨rfl, hp, h⟩
  obtain ⟨hF2, h⟩ := h
  show WP E m_Reader_init (d + 1) 26 [(0, aP 12)] [aP (nx σ), aP 12] σ1 Q
  refine s_putf 2 rfl d_Reader_init_26 fl_Reader_22 (fun C T h => by cases h; exact Or.inr ⟨rfl, rfl, rfl, fk_Reader_22⟩) rfl (Or.inr (Or.inr (Or.inr (Or.inl ⟨_, rfl⟩)))) (fun h => nomatch h) (sf_12 hF2) ?_
  exact h
theorem b_Reader_init_29 {E : EV} {d : Nat} {Q : Option AV → St → Prop} {σ : St} (hF : Fix σ) (h : WP E m_Reader_init (d + 1) 38 [(0, aP 12)] [] (wr (al σ 24 8) 12 3 (nx σ)) Q) : WP E m_Reader_init (d + 1) 29 [(0, aP 12)] [] σ Q := by
  refine s_aload_n 0 d_Reader_init_29 rfl rfl ?_
  refine s_bipush d_Reader_init_30 (by decide) ?_
  refine s_anewarray (kd := 24) d_Reader_init_32 (by decide) rfl nw_Reader_26 (by decide) ?_
  refine s_putf 3 rfl d_Reader_init_35 fl_Reader_28 (fun C T h => by cases h; exact Or.inr ⟨rfl, rfl, rfl, fk_Reader_28⟩) rfl (Or.inr (Or.inr (Or.inr (Or.inr ⟨_, rfl⟩)))) (fun h => nomatch h) (sf_12 hF.al_) ?_
  exact h
theorem b_Reader_init_38 {E : EV} {d : Nat} {Q : Option AV → St → Prop} {σ : St} (hF : Fix σ) (h : WP E m_Reader_init (d + 1) 46 [(0, aP 12)] [] (wr (al σ 25 4) 12 4 (nx σ)) Q) : WP E m_Reader_init (d + 1) 38 [(0, aP 12)] [] σ Q := by
  refine s_aload_n 0 d_Reader_init_38 rfl rfl ?_
  refine s_iconst d_Reader_init_39 ?_
  refine s_anewarray (kd := 25) d_Reader_init_40 (by decide) rfl nw_Reader_32 (by decide) ?_
  refine s_putf 4 rfl d_Reader_init_43 fl_Reader_34 (fun C T h => by cases h; exact Or.inr ⟨rfl, rfl, rfl, fk_Reader_34⟩) rfl (Or.inr (Or.inr (Or.inr (Or.inr ⟨_, rfl⟩)))) (fun h => nomatch h) (sf_12 hF.al_) ?_
  exact h
theorem b_Reader_init_46 {E : EV} {d : Nat} {Q : Option AV → St → Prop} {σ : St} (hF : Fix σ) (h : WP E m_Reader_init (d + 1) 51 [(0, aP 12)] [] (wr σ 12 5 0) Q) : WP E m_Reader_init (d + 1) 46 [(0, aP 12)] [] σ Q := by
  refine s_aload_n 0 d_Reader_init_46 rfl rfl ?_
  refine s_iconst d_Reader_init_47 ?_
  refine s_putf 5 rfl d_Reader_init_48 fl_Reader_38 (fun C T h => by cases h; exact Or.inl rfl) rfl (Or.inl rfl) (fun h => nomatch h) (sf_12 hF) ?_
  exact h
theorem b_Reader_init_51 {E : EV} {d : Nat} {Q : Option AV → St → Prop} {σ : St} (hF : Fix σ) (h : WP E m_Reader_init (d + 1) 56 [(0, aP 12)] [] (wr σ 12 6 0) Q) : WP E m_Reader_init (d + 1) 51 [(0, aP 12)] [] σ Q := by
  refine s_aload_n 0 d_Reader_init_51 rfl rfl ?_
  refine s_iconst d_Reader_init_52 ?_
  refine s_putf 6 rfl d_Reader_init_53 fl_Reader_41 (fun C T h => by cases h; exact Or.inl rfl) rfl (Or.inl rfl) (fun h => nomatch h) (sf_12 hF) ?_
  exact h
theorem b_Reader_init_56 {E : EV} {d : Nat} {Q : Option AV → St → Prop} {σ : St} (hF : Fix σ) (h : (0 < (nx σ)) ∧ (WMv E m_Table_init d [aP (nx σ)] (al σ 8 4) (fun σ1 => Fix σ1 ∧ WP E m_Reader_init (d + 1) 67 [(0, aP 12)] [] (wr σ1 12 7 (nx σ)) Q))) : WP E m_Reader_init (d + 1) 56 [(0, aP 12)] [] σ Q := by
  refine s_aload_n 0 d_Reader_init_56 rfl rfl ?_
  refine s_new (ci := 8) d_Reader_init_57 (by decide) rfl inG8 tyX8_ok (df_8 E) nw_Reader_44 in_8 ii_8 ?_
  refine s_dup d_Reader_init_60 (Nat.ne_of_beq_eq_false rfl) ?_
  obtain ⟨g2, h⟩ := h
  refine s_callI (as := []) d_Reader_init_61 ok_Table_init lk_Reader_46 io_Table_init rfl rfl rfl (Nat.le_of_ble_eq_true rfl) rfl g2 (WM.mono h ?_)
  rintro _ σ1 ⟨rfl, hp, h⟩
  obtain ⟨hF2, h⟩ := h
  show WP E m_Reader_init (d + 1) 64 [(0, aP 12)] [aP (nx σ), aP 12] σ1 Q
  refine s_putf 7 rfl d_Reader_init_64 fl_Reader_47 (fun C T h => by cases h; exact Or.inl rfl) rfl (Or.inr (Or.inr (Or.inr (Or.inl ⟨_, rfl⟩)))) (fun h => nomatch h) (sf_12 hF2) ?_
  exact h
theorem b_Reader_init_67 {E : EV} {d : Nat} {Q : Option AV → St → Prop} {σ : St} (hF : Fix σ) (h : WP E m_Reader_init (d + 1) 72 [(0, aP 12)] [] (wr σ 12 8 0) Q) : WP E m_Reader_init (d + 1) 67 [(0, aP 12)] [] σ Q := by
  refine s_aload_n 0 d_Reader_init_67 rfl rfl ?_
  refine s_iconst d_Reader_init_68 ?_
  refine s_putf 8 rfl d_Reader_init_69 fl_Reader_51 (fun C T h => by cases h; exact Or.inl rfl) rfl (Or.inl rfl) (fun h => nomatch h) (sf_12 hF) ?_
  exact h
theorem b_Reader_init_72 {E : EV} {d : Nat} {Q : Option AV → St → Prop} {σ : St} (hF : Fix σ) (h : WP E m_Reader_init (d + 1) 78 [(0, aP 12)] [] (wr σ 12 9 12) Q) : WP E m_Reader_init (d + 1) 72 [(0, aP 12)] [] σ Q := by
  refine s_aload_n 0 d_Reader_init_72 rfl rfl ?_
  refine s_bipush d_Reader_init_73 (by decide) ?_
  refine s_putf 9 rfl d_Reader_init_75 fl_Reader_54 (fun C T h => by cases h; exact Or.inl rfl) rfl (Or.inl rfl) (fun h => nomatch h) (sf_12 hF) ?_
  exact h
theorem b_Reader_init_78 {E : EV} {d : Nat} {Q : Option AV → St → Prop} {σ : St} (hF : Fix σ) (h : WP E m_Reader_init (d + 1) 83 [(0, aP 12)] [] (wr σ 12 10 1) Q) : WP E m_Reader_init (d + 1) 78 [(0, aP 12)] [] σ Q := by
  refine s_aload_n 0 d_Reader_init_78 rfl rfl ?_
  refine s_iconst d_Reader_init_79 ?_
  refine s_putf 10 rfl d_Reader_init_80 fl_Reader_57 (fun C T h => by cases h; exact Or.inl rfl) rfl (Or.inl rfl) (fun h => nomatch h) (sf_12 hF) ?_
  exact h
theorem b_Reader_init_83 {E : EV} {d : Nat} {Q : Option AV → St → Prop} {σ : St} (hF : Fix σ) (h : WP E m_Reader_init (d + 1) 88 [] [] (wr σ 12 11 0) Q) : WP E m_Reader_init (d + 1) 83 [(0, aP 12)] [] σ Q := by
  refine s_aload_n 0 d_Reader_init_83 rfl rfl ?_
  refine s_iconst d_Reader_init_84 ?_
  refine s_putf 11 rfl d_Reader_init_85 fl_Reader_60 (fun C T h => by cases h; exact Or.inl rfl) rfl (Or.inl rfl) (fun h => nomatch h) (sf_12 hF) ?_
  refine wp_drop [] rfl ?_
  exact h
theorem b_Reader_init_88 {E : EV} {d : Nat} {Q : Option AV → St → Prop} {σ : St} (h : Q none σ) : WP E m_Reader_init (d + 1) 88 [] [] σ Q := by
  exact s_return d_Reader_init_88 rfl h
theorem d_Reader_takeFour_0 : decode m_Reader_takeFour.2.1 0 = .ok (.bipush 24, 2) := by decide +kernel
theorem d_Reader_takeFour_2 : decode m_Reader_takeFour.2.1 2 = .ok (.istore_n 2, 1) := by decide +kernel
theorem d_Reader_takeFour_3 : decode m_Reader_takeFour.2.1 3 = .ok (.iload_n 2, 1) := by decide +kernel
theorem d_Reader_takeFour_4 : decode m_Reader_takeFour.2.1 4 = .ok (.ifCond .lt 51, 3) := by decide +kernel
theorem d_Reader_takeFour_7 : decode m_Reader_takeFour.2.1 7 = .ok (.aload_n 0, 1) := by decide +kernel
theorem d_Reader_takeFour_8 : decode m_Reader_takeFour.2.1 8 = .ok (.getfield 15, 3) := by decide +kernel
theorem d_Reader_takeFour_11 : decode m_Reader_takeFour.2.1 11 = .ok (.ifCond .lt 44, 3) := by decide +kernel
theorem d_Reader_takeFour_14 : decode m_Reader_takeFour.2.1 14 = .ok (.aload_n 0, 1) := by decide +kernel
theorem d_Reader_takeFour_15 : decode m_Reader_takeFour.2.1 15 = .ok (.getfield 15, 3) := by decide +kernel
theorem d_Reader_takeFour_18 : decode m_Reader_takeFour.2.1 18 = .ok (.aload_n 0, 1) := by decide +kernel
theorem d_Reader_takeFour_19 : decode m_Reader_takeFour.2.1 19 = .ok (.getfield 9, 3) := by decide +kernel
theorem d_Reader_takeFour_22 : decode m_Reader_takeFour.2.1 22 = .ok (.arraylength, 1) := by decide +kernel
theorem d_Reader_takeFour_23 : decode m_Reader_takeFour.2.1 23 = .ok (.if_icmp .ge 32, 3) := by decide +kernel
theorem d_Reader_takeFour_26 : decode m_Reader_takeFour.2.1 26 = .ok (.aload_n 0, 1) := by decide +kernel
theorem d_Reader_takeFour_27 : decode m_Reader_takeFour.2.1 27 = .ok (.getfield 9, 3) := by decide +kernel
theorem d_Reader_takeFour_30 : decode m_Reader_takeFour.2.1 30 = .ok (.aload_n 0, 1) := by decide +kernel
theorem d_Reader_takeFour_31 : decode m_Reader_takeFour.2.1 31 = .ok (.getfield 15, 3) := by decide +kernel
theorem d_Reader_takeFour_34 : decode m_Reader_takeFour.2.1 34 = .ok (.iload_n 1, 1) := by decide +kernel
theorem d_Reader_takeFour_35 : decode m_Reader_takeFour.2.1 35 = .ok (.iload_n 2, 1) := by decide +kernel
theorem d_Reader_takeFour_36 : decode m_Reader_takeFour.2.1 36 = .ok (.ishr, 1) := by decide +kernel
theorem d_Reader_takeFour_37 : decode m_Reader_takeFour.2.1 37 = .ok (.i2b, 1) := by decide +kernel
theorem d_Reader_takeFour_38 : decode m_Reader_takeFour.2.1 38 = .ok (.bastore, 1) := by decide +kernel
theorem d_Reader_takeFour_39 : decode m_Reader_takeFour.2.1 39 = .ok (.aload_n 0, 1) := by decide +kernel
theorem d_Reader_takeFour_40 : decode m_Reader_takeFour.2.1 40 = .ok (.dup, 1) := by decide +kernel
theorem d_Reader_takeFour_41 : decode m_Reader_takeFour.2.1 41 = .ok (.getfield 15, 3) := by decide +kernel
theorem d_Reader_takeFour_44 : decode m_Reader_takeFour.2.1 44 = .ok (.iconst 1, 1) := by decide +kernel
theorem d_Reader_takeFour_45 : decode m_Reader_takeFour.2.1 45 = .ok (.iadd, 1) := by decide +kernel
theorem d_Reader_takeFour_46 : decode m_Reader_takeFour.2.1 46 = .ok (.putfield 15, 3) := by decide +kernel
theorem d_Reader_takeFour_49 : decode m_Reader_takeFour.2.1 49 = .ok (.iinc 2 (-8), 3) := by decide +kernel
theorem d_Reader_takeFour_52 : decode m_Reader_takeFour.2.1 52 = .ok (.goto (-49), 3) := by decide +kernel
theorem d_Reader_takeFour_55 : decode m_Reader_takeFour.2.1 55 = .ok (.return_, 1) := by decide +kernel
theorem b_Reader_takeFour_0 {E : EV} {d : Nat} {Q : Option AV → St → Prop} {σ : St} (x1 : Int) (h : WP E m_Reader_takeFour d 3 [(0, aP 12), (1, aI x1), (2, aI 24)] [] σ Q) : WP E m_Reader_takeFour d 0 [(0, aP 12), (1, aI x1)] [] σ Q := by
  refine s_bipush d_Reader_takeFour_0 (by decide) ?_
  refine s_istore_n d_Reader_takeFour_2 rfl (by decide) rfl ?_
  refine wp_drop [1, 2, 0] rfl ?_
  exact h
theorem e_Reader_takeFour {E : EV} {d : Nat} {Q : Option AV → St → Prop} {σ : St} (x1 : Int) (h : WP E m_Reader_takeFour d 3 [(0, aP 12), (1, aI x1), (2, aI 24)] [] σ Q) : WM E m_Reader_takeFour d [aP 12, aI x1] σ Q := s_meth (by decide) (Nat.le_of_ble_eq_true rfl) rfl (b_Reader_takeFour_0 x1 h)
theorem b_Reader_takeFour_3 {E : EV} {d : Nat} {Q : Option AV → St → Prop} {σ : St} (x1 x2 : Int) (hF : Fix σ) (h : (rI x2) ∧ ((x2 < 0 → Q none σ) ∧ (¬ x2 < 0 → (rI (σ.1 12 1)) ∧ (((σ.1 12 1) < 0 → Q none σ) ∧ (¬ (σ.1 12 1) < 0 → (rI (σ.1 12 1)) ∧ ((400 ≤ (σ.1 12 1) → Q none σ) ∧ (¬ 400 ≤ (σ.1 12 1) → (0 ≤ (σ.1 12 1) ∧ (σ.1 12 1) < 400) ∧ (-128 ≤ (Int.bmod (ishr x1 x2) 256) ∧ (Int.bmod (ishr x1 x2) 256) ≤ 127) ∧ WP E m_Reader_takeFour d 3 [(0, aP 12), (1, aI x1), (2, aI (x2 + (-8)))] [] (wr (wr σ 13 (σ.1 12 1) (Int.bmod (ishr x1 x2) 256)) 12 1 ((σ.1 12 1) + 1)) Q))))))) : WP E m_Reader_takeFour d 3 [(0, aP 12), (1, aI x1), (2, aI x2)] [] σ Q := by
  refine s_iload_n 2 d_Reader_takeFour_3 rfl rfl ?_
  obtain ⟨g1, h⟩ := h
  refine s_if_lt d_Reader_takeFour_4 rfl g1 (fun c => ?_) (fun c => ?_)
  · have h := h.1 c
    exact s_return d_Reader_takeFour_55 rfl h
  · have h := h.2 c
    refine s_aload_n 0 d_Reader_takeFour_7 rfl rfl ?_
    refine s_getF (v := σ.1 12 1) d_Reader_takeFour_8 fl_Reader_15 rfl (sf_12 hF) rfl ?_
    obtain ⟨g2, h⟩ := h
    refine s_if_lt d_Reader_takeFour_11 rfl g2 (fun c => ?_) (fun c => ?_)
    · have h := h.1 c
      exact s_return d_Reader_takeFour_55 rfl h
    · have h := h.2 c
      refine s_aload_n 0 d_Reader_takeFour_14 rfl rfl ?_
      refine s_getF (v := σ.1 12 1) d_Reader_takeFour_15 fl_Reader_15 rfl (sf_12 hF) rfl ?_
      refine s_aload_n 0 d_Reader_takeFour_18 rfl rfl ?_
      refine s_getF (v := 13) d_Reader_takeFour_19 fl_Reader_9 rfl (sf_12 hF) (ff_7 hF) ?_
      refine s_alenv (v := 400) (by decide) d_Reader_takeFour_22 (sf_13 hF) (by decide) ?_
      obtain ⟨g3, h⟩ := h
      refine s_icmp_ge d_Reader_takeFour_23 rfl g3 (by decide) (fun c => ?_) (fun c => ?_)
      · have h := h.1 c
        exact s_return d_Reader_takeFour_55 rfl h
      · have h := h.2 c
        refine s_aload_n 0 d_Reader_takeFour_26 rfl rfl ?_
        refine s_getF (v := 13) d_Reader_takeFour_27 fl_Reader_9 rfl (sf_12 hF) (ff_7 hF) ?_
        refine s_aload_n 0 d_Reader_takeFour_30 rfl rfl ?_
        refine s_getF (v := σ.1 12 1) d_Reader_takeFour_31 fl_Reader_15 rfl (sf_12 hF) rfl ?_
        refine s_iload_n 1 d_Reader_takeFour_34 rfl rfl ?_
        refine s_iload_n 2 d_Reader_takeFour_35 rfl rfl ?_
        refine s_ishr d_Reader_takeFour_36 ?_
        refine s_i2b d_Reader_takeFour_37 ?_
        obtain ⟨g4, h⟩ := h
        obtain ⟨g5, h⟩ := h
        refine s_bastore (Or.inl ⟨rfl, g5⟩) d_Reader_takeFour_38 ⟨_, sf_13 hF, g4.1, g4.2, by have := g4.2; omega⟩ ?_
        refine s_aload_n 0 d_Reader_takeFour_39 rfl rfl ?_
        refine s_dup d_Reader_takeFour_40 (Nat.ne_of_beq_eq_false rfl) ?_
        refine s_getF (v := σ.1 12 1) d_Reader_takeFour_41 fl_Reader_15 rfl (sf_12 (hF.wa (a := 13) (by decide))) rfl ?_
        refine s_iconst d_Reader_takeFour_44 ?_
        refine s_iadd d_Reader_takeFour_45 ?_
        refine s_putf 1 rfl d_Reader_takeFour_46 fl_Reader_15 (fun C T h => by cases h; exact Or.inl rfl) rfl (Or.inl rfl) (fun h => nomatch h) (sf_12 (hF.wa (a := 13) (by decide))) ?_
        refine s_iinc 2 d_Reader_takeFour_49 rfl (by decide) rfl ?_
        refine s_goto d_Reader_takeFour_52 rfl ?_
        refine wp_drop [1, 2, 0] rfl ?_
        exact h
theorem d_Reader_begin_0 : decode m_Reader_begin.2.1 0 = .ok (.aload_n 0, 1) := by decide +kernel
theorem d_Reader_begin_1 : decode m_Reader_begin.2.1 1 = .ok (.aload_n 0, 1) := by decide +kernel
theorem d_Reader_begin_2 : decode m_Reader_begin.2.1 2 = .ok (.getfield 15, 3) := by decide +kernel
theorem d_Reader_begin_5 : decode m_Reader_begin.2.1 5 = .ok (.putfield 38, 3) := by decide +kernel
theorem d_Reader_begin_8 : decode m_Reader_begin.2.1 8 = .ok (.aload_n 0, 1) := by decide +kernel
theorem d_Reader_begin_9 : decode m_Reader_begin.2.1 9 = .ok (.iconst 0, 1) := by decide +kernel
theorem d_Reader_begin_10 : decode m_Reader_begin.2.1 10 = .ok (.putfield 15, 3) := by decide +kernel
theorem d_Reader_begin_13 : decode m_Reader_begin.2.1 13 = .ok (.aload_n 0, 1) := by decide +kernel
theorem d_Reader_begin_14 : decode m_Reader_begin.2.1 14 = .ok (.iconst 0, 1) := by decide +kernel
theorem d_Reader_begin_15 : decode m_Reader_begin.2.1 15 = .ok (.putfield 41, 3) := by decide +kernel
theorem d_Reader_begin_18 : decode m_Reader_begin.2.1 18 = .ok (.aload_n 0, 1) := by decide +kernel
theorem d_Reader_begin_19 : decode m_Reader_begin.2.1 19 = .ok (.new 44, 3) := by decide +kernel
theorem d_Reader_begin_22 : decode m_Reader_begin.2.1 22 = .ok (.dup, 1) := by decide +kernel
theorem d_Reader_begin_23 : decode m_Reader_begin.2.1 23 = .ok (.invokespecial 46, 3) := by decide +kernel
theorem d_Reader_begin_26 : decode m_Reader_begin.2.1 26 = .ok (.putfield 47, 3) := by decide +kernel
theorem d_Reader_begin_29 : decode m_Reader_begin.2.1 29 = .ok (.aload_n 0, 1) := by decide +kernel
theorem d_Reader_begin_30 : decode m_Reader_begin.2.1 30 = .ok (.iconst 0, 1) := by decide +kernel
theorem d_Reader_begin_31 : decode m_Reader_begin.2.1 31 = .ok (.putfield 51, 3) := by decide +kernel
theorem d_Reader_begin_34 : decode m_Reader_begin.2.1 34 = .ok (.aload_n 0, 1) := by decide +kernel
theorem d_Reader_begin_35 : decode m_Reader_begin.2.1 35 = .ok (.bipush 12, 2) := by decide +kernel
theorem d_Reader_begin_37 : decode m_Reader_begin.2.1 37 = .ok (.putfield 54, 3) := by decide +kernel
theorem d_Reader_begin_40 : decode m_Reader_begin.2.1 40 = .ok (.aload_n 0, 1) := by decide +kernel
theorem d_Reader_begin_41 : decode m_Reader_begin.2.1 41 = .ok (.iconst 1, 1) := by decide +kernel
theorem d_Reader_begin_42 : decode m_Reader_begin.2.1 42 = .ok (.putfield 57, 3) := by decide +kernel
theorem d_Reader_begin_45 : decode m_Reader_begin.2.1 45 = .ok (.return_, 1) := by decide +kernel
theorem b_Reader_begin_0 {E : EV} {d : Nat} {Q : Option AV → St → Prop} {σ : St} (hF : Fix σ) (h : (0 < (nx (wr (wr (wr σ 12 5 (σ.1 12 1)) 12 1 0) 12 6 0))) ∧ (WMv E m_Table_init d [aP (nx (wr (wr (wr σ 12 5 (σ.1 12 1)) 12 1 0) 12 6 0))] (al (wr (wr (wr σ 12 5 (σ.1 12 1)) 12 1 0) 12 6 0) 8 4) (fun σ1 => Fix σ1 ∧ Q none (wr (wr (wr (wr σ1 12 7 (nx (wr (wr (wr σ 12 5 (σ.1 12 1)) 12 1 0) 12 6 0))) 12 8 0) 12 9 12) 12 10 1)))) : WP E m_Reader_begin (d + 1) 0 [(0, aP 12)] [] σ Q := by
  refine s_aload_n 0 d_Reader_begin_0 rfl rfl ?_
  refine s_aload_n 0 d_Reader_begin_1 rfl rfl ?_
  refine s_getF (v := σ.1 12 1) d_Reader_begin_2 fl_Reader_15 rfl (sf_12 hF) rfl ?_
  refine s_putf 5 rfl d_Reader_begin_5 fl_Reader_38 (fun C T h => by cases h; exact Or.inl rfl) rfl (Or.inl rfl) (fun h => nomatch h) (sf_12 hF) ?_
  refine s_aload_n 0 d_Reader_begin_8 rfl rfl ?_
  refine s_iconst d_Reader_begin_9 ?_
  refine s_putf 1 rfl d_Reader_begin_10 fl_Reader_15 (fun C T h => by cases h; exact Or.inl rfl) rfl (Or.inl rfl) (fun h => nomatch h) (sf_12 (hF.wf (a := 12) (k := 5) (by decide))) ?_
  refine s_aload_n 0 d_Reader_begin_13 rfl rfl ?_
  refine s_iconst d_Reader_begin_14 ?_
  refine s_putf 6 rfl d_Reader_begin_15 fl_Reader_41 (fun C T h => by cases h; exact Or.inl rfl) rfl (Or.inl rfl) (fun h => nomatch h) (sf_12 ((hF.wf (a := 12) (k := 5) (by decide)).wf (a := 12) (k := 1) (by decide))) ?_
  refine s_aload_n 0 d_Reader_begin_18 rfl rfl ?_
  refine s_new (ci := 8) d_Reader_begin_19 (by decide) rfl inG8 tyX8_ok (df_8 E) nw_Reader_44 in_8 ii_8 ?_
  refine s_dup d_Reader_begin_22 (Nat.ne_of_beq_eq_false rfl) ?_
  obtain ⟨g2, h⟩ := h
  refine s_callI (as := []) d_Reader_begin_23 ok_Table_init lk_Reader_46 io_Table_init rfl rfl rfl (Nat.le_of_ble_eq_true rfl) rfl g2 (WM.mono h ?_)
  rintro _ σ1 ⟨rfl, hp, h⟩
  obtain ⟨hF2, h⟩ := h
  show WP E m_Reader_begin (d + 1) 26 [(0, aP 12)] [aP (nx (wr (wr (wr σ 12 5 (σ.1 12 1)) 12 1 0) 12 6 0)), aP 12] σ1 Q
  refine s_putf 7 rfl d_Reader_begin_26 fl_Reader_47 (fun C T h => by cases h; exact Or.inl rfl) rfl (Or.inr (Or.inr (Or.inr (Or.inl ⟨_, rfl⟩)))) (fun h => nomatch h) (sf_12 hF2) ?_
  refine s_aload_n 0 d_Reader_begin_29 rfl rfl ?_
  refine s_iconst d_Reader_begin_30 ?_
  refine s_putf 8 rfl d_Reader_begin_31 fl_Reader_51 (fun C T h => by cases h; exact Or.inl rfl) rfl (Or.inl rfl) (fun h => nomatch h) (sf_12 (hF2.wf (a := 12) (k := 7) (by decide))) ?_
  refine s_aload_n 0 d_Reader_begin_34 rfl rfl ?_
  refine s_bipush d_Reader_begin_35 (by decide) ?_
  refine s_putf 9 rfl d_Reader_begin_37 fl_Reader_54 (fun C T h => by cases h; exact Or.inl rfl) rfl (Or.inl rfl) (fun h => nomatch h) (sf_12 ((hF2.wf (a := 12) (k := 7) (by decide)).wf (a := 12) (k := 8) (by decide))) ?_
  refine s_aload_n 0 d_Reader_begin_40 rfl rfl ?_
  refine s_iconst d_Reader_begin_41 ?_
  refine s_putf 10 rfl d_Reader_begin_42 fl_Reader_57 (fun C T h => by cases h; exact Or.inl rfl) rfl (Or.inl rfl) (fun h => nomatch h) (sf_12 (((hF2.wf (a := 12) (k := 7) (by decide)).wf (a := 12) (k := 8) (by decide)).wf (a := 12) (k := 9) (by decide))) ?_
  exact s_return d_Reader_begin_45 rfl h
theorem e_Reader_begin {E : EV} {d : Nat} {Q : Option AV → St → Prop} {σ : St} (hF : Fix σ) (h : (0 < (nx (wr (wr (wr σ 12 5 (σ.1 12 1)) 12 1 0) 12 6 0))) ∧ (WMv E m_Table_init d [aP (nx (wr (wr (wr σ 12 5 (σ.1 12 1)) 12 1 0) 12 6 0))] (al (wr (wr (wr σ 12 5 (σ.1 12 1)) 12 1 0) 12 6 0) 8 4) (fun σ1 => Fix σ1 ∧ Q none (wr (wr (wr (wr σ1 12 7 (nx (wr (wr (wr σ 12 5 (σ.1 12 1)) 12 1 0) 12 6 0))) 12 8 0) 12 9 12) 12 10 1)))) : WM E m_Reader_begin (d + 1) [aP 12] σ Q := s_meth (by decide) (Nat.le_of_ble_eq_true rfl) rfl (b_Reader_begin_0 hF h)
theorem d_Reader_readAll_0 : decode m_Reader_readAll.2.1 0 = .ok (.iconst 0, 1) := by decide +kernel
theorem d_Reader_readAll_1 : decode m_Reader_readAll.2.1 1 = .ok (.istore_n 1, 1) := by decide +kernel
theorem d_Reader_readAll_2 : decode m_Reader_readAll.2.1 2 = .ok (.iload_n 1, 1) := by decide +kernel
theorem d_Reader_readAll_3 : decode m_Reader_readAll.2.1 3 = .ok (.aload_n 0, 1) := by decide +kernel
theorem d_Reader_readAll_4 : decode m_Reader_readAll.2.1 4 = .ok (.getfield 38, 3) := by decide +kernel
theorem d_Reader_readAll_7 : decode m_Reader_readAll.2.1 7 = .ok (.if_icmp .gt 154, 3) := by decide +kernel
theorem d_Reader_readAll_10 : decode m_Reader_readAll.2.1 10 = .ok (.aload_n 0, 1) := by decide +kernel
theorem d_Reader_readAll_11 : decode m_Reader_readAll.2.1 11 = .ok (.invokevirtual 77, 3) := by decide +kernel
theorem d_Reader_readAll_14 : decode m_Reader_readAll.2.1 14 = .ok (.iconst (-1), 1) := by decide +kernel
theorem d_Reader_readAll_15 : decode m_Reader_readAll.2.1 15 = .ok (.if_icmp .ne 5, 3) := by decide +kernel
theorem d_Reader_readAll_18 : decode m_Reader_readAll.2.1 18 = .ok (.iconst 1, 1) := by decide +kernel
theorem d_Reader_readAll_19 : decode m_Reader_readAll.2.1 19 = .ok (.ireturn, 1) := by decide +kernel
theorem d_Reader_readAll_20 : decode m_Reader_readAll.2.1 20 = .ok (.aload_n 0, 1) := by decide +kernel
theorem d_Reader_readAll_21 : decode m_Reader_readAll.2.1 21 = .ok (.ldc 81, 2) := by decide +kernel
theorem d_Reader_readAll_23 : decode m_Reader_readAll.2.1 23 = .ok (.invokevirtual 82, 3) := by decide +kernel
theorem d_Reader_readAll_26 : decode m_Reader_readAll.2.1 26 = .ok (.ifCond .eq 31, 3) := by decide +kernel
theorem d_Reader_readAll_29 : decode m_Reader_readAll.2.1 29 = .ok (.aload_n 0, 1) := by decide +kernel
theorem d_Reader_readAll_30 : decode m_Reader_readAll.2.1 30 = .ok (.aload_n 0, 1) := by decide +kernel
theorem d_Reader_readAll_31 : decode m_Reader_readAll.2.1 31 = .ok (.iconst 1, 1) := by decide +kernel
theorem d_Reader_readAll_32 : decode m_Reader_readAll.2.1 32 = .ok (.bipush 24, 2) := by decide +kernel
theorem d_Reader_readAll_34 : decode m_Reader_readAll.2.1 34 = .ok (.invokevirtual 86, 3) := by decide +kernel
theorem d_Reader_readAll_37 : decode m_Reader_readAll.2.1 37 = .ok (.putfield 54, 3) := by decide +kernel
theorem d_Reader_readAll_40 : decode m_Reader_readAll.2.1 40 = .ok (.aload_n 0, 1) := by decide +kernel
theorem d_Reader_readAll_41 : decode m_Reader_readAll.2.1 41 = .ok (.getfield 54, 3) := by decide +kernel
theorem d_Reader_readAll_44 : decode m_Reader_readAll.2.1 44 = .ok (.iconst (-1), 1) := by decide +kernel
theorem d_Reader_readAll_45 : decode m_Reader_readAll.2.1 45 = .ok (.if_icmp .eq 7, 3) := by decide +kernel
theorem d_Reader_readAll_48 : decode m_Reader_readAll.2.1 48 = .ok (.iconst 1, 1) := by decide +kernel
theorem d_Reader_readAll_49 : decode m_Reader_readAll.2.1 49 = .ok (.goto 4, 3) := by decide +kernel
theorem d_Reader_readAll_52 : decode m_Reader_readAll.2.1 52 = .ok (.iconst 0, 1) := by decide +kernel
theorem d_Reader_readAll_53 : decode m_Reader_readAll.2.1 53 = .ok (.istore_n 2, 1) := by decide +kernel
theorem d_Reader_readAll_54 : decode m_Reader_readAll.2.1 54 = .ok (.goto 86, 3) := by decide +kernel
theorem d_Reader_readAll_57 : decode m_Reader_readAll.2.1 57 = .ok (.aload_n 0, 1) := by decide +kernel
theorem d_Reader_readAll_58 : decode m_Reader_readAll.2.1 58 = .ok (.ldc 89, 2) := by decide +kernel
theorem d_Reader_readAll_60 : decode m_Reader_readAll.2.1 60 = .ok (.invokevirtual 82, 3) := by decide +kernel
theorem d_Reader_readAll_63 : decode m_Reader_readAll.2.1 63 = .ok (.ifCond .eq 30, 3) := by decide +kernel
theorem d_Reader_readAll_66 : decode m_Reader_readAll.2.1 66 = .ok (.aload_n 0, 1) := by decide +kernel
theorem d_Reader_readAll_67 : decode m_Reader_readAll.2.1 67 = .ok (.aload_n 0, 1) := by decide +kernel
theorem d_Reader_readAll_68 : decode m_Reader_readAll.2.1 68 = .ok (.iconst 0, 1) := by decide +kernel
theorem d_Reader_readAll_69 : decode m_Reader_readAll.2.1 69 = .ok (.iconst 3, 1) := by decide +kernel
theorem d_Reader_readAll_70 : decode m_Reader_readAll.2.1 70 = .ok (.invokevirtual 86, 3) := by decide +kernel
theorem d_Reader_readAll_73 : decode m_Reader_readAll.2.1 73 = .ok (.putfield 57, 3) := by decide +kernel
theorem d_Reader_readAll_76 : decode m_Reader_readAll.2.1 76 = .ok (.aload_n 0, 1) := by decide +kernel
theorem d_Reader_readAll_77 : decode m_Reader_readAll.2.1 77 = .ok (.getfield 57, 3) := by decide +kernel
theorem d_Reader_readAll_80 : decode m_Reader_readAll.2.1 80 = .ok (.iconst (-1), 1) := by decide +kernel
theorem d_Reader_readAll_81 : decode m_Reader_readAll.2.1 81 = .ok (.if_icmp .eq 7, 3) := by decide +kernel
theorem d_Reader_readAll_84 : decode m_Reader_readAll.2.1 84 = .ok (.iconst 1, 1) := by decide +kernel
theorem d_Reader_readAll_85 : decode m_Reader_readAll.2.1 85 = .ok (.goto 4, 3) := by decide +kernel
theorem d_Reader_readAll_88 : decode m_Reader_readAll.2.1 88 = .ok (.iconst 0, 1) := by decide +kernel
theorem d_Reader_readAll_89 : decode m_Reader_readAll.2.1 89 = .ok (.istore_n 2, 1) := by decide +kernel
theorem d_Reader_readAll_90 : decode m_Reader_readAll.2.1 90 = .ok (.goto 50, 3) := by decide +kernel
theorem d_Reader_readAll_93 : decode m_Reader_readAll.2.1 93 = .ok (.aload_n 0, 1) := by decide +kernel
theorem d_Reader_readAll_94 : decode m_Reader_readAll.2.1 94 = .ok (.ldc 90, 2) := by decide +kernel
theorem d_Reader_readAll_96 : decode m_Reader_readAll.2.1 96 = .ok (.invokevirtual 82, 3) := by decide +kernel
theorem d_Reader_readAll_99 : decode m_Reader_readAll.2.1 99 = .ok (.ifCond .eq 11, 3) := by decide +kernel
theorem d_Reader_readAll_102 : decode m_Reader_readAll.2.1 102 = .ok (.aload_n 0, 1) := by decide +kernel
theorem d_Reader_readAll_103 : decode m_Reader_readAll.2.1 103 = .ok (.invokevirtual 92, 3) := by decide +kernel
theorem d_Reader_readAll_106 : decode m_Reader_readAll.2.1 106 = .ok (.istore_n 2, 1) := by decide +kernel
theorem d_Reader_readAll_107 : decode m_Reader_readAll.2.1 107 = .ok (.goto 33, 3) := by decide +kernel
theorem d_Reader_readAll_110 : decode m_Reader_readAll.2.1 110 = .ok (.aload_n 0, 1) := by decide +kernel
theorem d_Reader_readAll_111 : decode m_Reader_readAll.2.1 111 = .ok (.getfield 51, 3) := by decide +kernel
theorem d_Reader_readAll_114 : decode m_Reader_readAll.2.1 114 = .ok (.iconst 4, 1) := by decide +kernel
theorem d_Reader_readAll_115 : decode m_Reader_readAll.2.1 115 = .ok (.if_icmp .ge 23, 3) := by decide +kernel
theorem d_Reader_readAll_118 : decode m_Reader_readAll.2.1 118 = .ok (.aload_n 0, 1) := by decide +kernel
theorem d_Reader_readAll_119 : decode m_Reader_readAll.2.1 119 = .ok (.ldc 96, 2) := by decide +kernel
theorem d_Reader_readAll_121 : decode m_Reader_readAll.2.1 121 = .ok (.invokevirtual 82, 3) := by decide +kernel
theorem d_Reader_readAll_124 : decode m_Reader_readAll.2.1 124 = .ok (.ifCond .eq 14, 3) := by decide +kernel
theorem d_Reader_readAll_127 : decode m_Reader_readAll.2.1 127 = .ok (.aload_n 0, 1) := by decide +kernel
theorem d_Reader_readAll_128 : decode m_Reader_readAll.2.1 128 = .ok (.invokevirtual 98, 3) := by decide +kernel
theorem d_Reader_readAll_131 : decode m_Reader_readAll.2.1 131 = .ok (.ifCond .eq 7, 3) := by decide +kernel
theorem d_Reader_readAll_134 : decode m_Reader_readAll.2.1 134 = .ok (.iconst 1, 1) := by decide +kernel
theorem d_Reader_readAll_135 : decode m_Reader_readAll.2.1 135 = .ok (.goto 4, 3) := by decide +kernel
theorem d_Reader_readAll_138 : decode m_Reader_readAll.2.1 138 = .ok (.iconst 0, 1) := by decide +kernel
theorem d_Reader_readAll_139 : decode m_Reader_readAll.2.1 139 = .ok (.istore_n 2, 1) := by decide +kernel
theorem d_Reader_readAll_140 : decode m_Reader_readAll.2.1 140 = .ok (.iload_n 2, 1) := by decide +kernel
theorem d_Reader_readAll_141 : decode m_Reader_readAll.2.1 141 = .ok (.ifCond .eq 12, 3) := by decide +kernel
theorem d_Reader_readAll_144 : decode m_Reader_readAll.2.1 144 = .ok (.aload_n 0, 1) := by decide +kernel
theorem d_Reader_readAll_145 : decode m_Reader_readAll.2.1 145 = .ok (.bipush 59, 2) := by decide +kernel
theorem d_Reader_readAll_147 : decode m_Reader_readAll.2.1 147 = .ok (.invokevirtual 101, 3) := by decide +kernel
theorem d_Reader_readAll_150 : decode m_Reader_readAll.2.1 150 = .ok (.ifCond .ne 5, 3) := by decide +kernel
theorem d_Reader_readAll_153 : decode m_Reader_readAll.2.1 153 = .ok (.iconst 0, 1) := by decide +kernel
theorem d_Reader_readAll_154 : decode m_Reader_readAll.2.1 154 = .ok (.ireturn, 1) := by decide +kernel
theorem d_Reader_readAll_155 : decode m_Reader_readAll.2.1 155 = .ok (.iinc 1 1, 3) := by decide +kernel
theorem d_Reader_readAll_158 : decode m_Reader_readAll.2.1 158 = .ok (.goto (-156), 3) := by decide +kernel
theorem d_Reader_readAll_161 : decode m_Reader_readAll.2.1 161 = .ok (.iconst 0, 1) := by decide +kernel
theorem d_Reader_readAll_162 : decode m_Reader_readAll.2.1 162 = .ok (.ireturn, 1) := by decide +kernel
theorem b_Reader_readAll_0 {E : EV} {d : Nat} {Q : Option AV → St → Prop} {σ : St} (h : WP E m_Reader_readAll (d + 1) 2 [(0, aP 12), (1, aI 0)] [] σ Q) : WP E m_Reader_readAll (d + 1) 0 [(0, aP 12)] [] σ Q := by
  refine s_iconst d_Reader_readAll_0 ?_
  refine s_istore_n d_Reader_readAll_1 rfl (by decide) rfl ?_
  refine wp_drop [1, 0] rfl ?_
  exact h
theorem e_Reader_readAll {E : EV} {d : Nat} {Q : Option AV → St → Prop} {σ : St} (h : WP E m_Reader_readAll (d + 1) 2 [(0, aP 12), (1, aI 0)] [] σ Q) : WM E m_Reader_readAll (d + 1) [aP 12] σ Q := s_meth (by decide) (Nat.le_of_ble_eq_true rfl) rfl (b_Reader_readAll_0 h)
theorem b_Reader_readAll_2 {E : EV} {d : Nat} {Q : Option AV → St → Prop} {σ : St} (x1 : Int) (hF : Fix σ) (h : (rI x1) ∧ (rI (σ.1 12 5)) ∧ (((σ.1 12 5) < x1 → Q (some (aI 0)) σ) ∧ (¬ (σ.1 12 5) < x1 → (WMi E m_Reader_next d [aP 12] σ (fun v3 σ3 => Fix σ3 ∧ (rI v3) ∧ ((¬ v3 = (-1) → (XS E "SignSquares$Reader" 81 1) ∧ (WMi E m_Reader_takeWord d [aP 12, aP (-1)] σ3 (fun v6 σ6 => Fix σ6 ∧ (rI v6) ∧ ((v6 = 0 → (XS E "SignSquares$Reader" 89 2) ∧ (WMi E m_Reader_takeWord d [aP 12, aP (-2)] σ6 (fun v9 σ9 => Fix σ9 ∧ (rI v9) ∧ ((v9 = 0 → (XS E "SignSquares$Reader" 90 3) ∧ (WMi E m_Reader_takeWord d [aP 12, aP (-3)] σ9 (fun v12 σ12 => Fix σ12 ∧ (rI v12) ∧ ((v12 = 0 → (rI (σ12.1 12 8)) ∧ ((4 ≤ (σ12.1 12 8) → WP E m_Reader_readAll (d + 1) 138 [(0, aP 12), (1, aI x1)] [] σ12 Q) ∧ (¬ 4 ≤ (σ12.1 12 8) → (XS E "SignSquares$Reader" 96 5) ∧ (WMi E m_Reader_takeWord d [aP 12, aP (-5)] σ12 (fun v16 σ16 => Fix σ16 ∧ (rI v16) ∧ ((v16 = 0 → WP E m_Reader_readAll (d + 1) 138 [(0, aP 12), (1, aI x1)] [] σ16 Q) ∧ (¬ v16 = 0 → (WMi E m_Reader_readLine d [aP 12] σ16 (fun v18 σ18 => (rI v18) ∧ ((v18 = 0 → WP E m_Reader_readAll (d + 1) 138 [(0, aP 12), (1, aI x1)] [] σ18 Q) ∧ (¬ v18 = 0 → WP E m_Reader_readAll (d + 1) 139 [(0, aP 12), (1, aI x1)] [aI 1] σ18 Q))))))))))) ∧ (¬ v12 = 0 → (WMi E m_Reader_readTold d [aP 12] σ12 (fun v20 σ20 => WP E m_Reader_readAll (d + 1) 140 [(0, aP 12), (1, aI x1), (2, aI v20)] [] σ20 Q))))))) ∧ (¬ v9 = 0 → (WMi E m_Reader_readNumber d [aP 12, aI 0, aI 3] σ9 (fun v21 σ21 => Fix σ21 ∧ (rI v21) ∧ ((v21 = (-1) → WP E m_Reader_readAll (d + 1) 89 [(0, aP 12), (1, aI x1)] [aI 0] (wr σ21 12 10 v21) Q) ∧ (¬ v21 = (-1) → WP E m_Reader_readAll (d + 1) 89 [(0, aP 12), (1, aI x1)] [aI 1] (wr σ21 12 10 v21) Q))))))))) ∧ (¬ v6 = 0 → (WMi E m_Reader_readNumber d [aP 12, aI 1, aI 24] σ6 (fun v23 σ23 => Fix σ23 ∧ (rI v23) ∧ ((v23 = (-1) → WP E m_Reader_readAll (d + 1) 53 [(0, aP 12), (1, aI x1)] [aI 0] (wr σ23 12 9 v23) Q) ∧ (¬ v23 = (-1) → WP E m_Reader_readAll (d + 1) 53 [(0, aP 12), (1, aI x1)] [aI 1] (wr σ23 12 9 v23) Q))))))))) ∧ (v3 = (-1) → Q (some (aI 1)) σ3))))))) : WP E m_Reader_readAll (d + 1) 2 [(0, aP 12), (1, aI x1)] [] σ Q := by
  refine s_iload_n 1 d_Reader_readAll_2 rfl rfl ?_
  refine s_aload_n 0 d_Reader_readAll_3 rfl rfl ?_
  refine s_getF (v := σ.1 12 5) d_Reader_readAll_4 fl_Reader_38 rfl (sf_12 hF) rfl ?_
  obtain ⟨g1, h⟩ := h
  obtain ⟨g2, h⟩ := h
  refine s_icmp_gt d_Reader_readAll_7 rfl g1 g2 (fun c => ?_) (fun c => ?_)
  · have h := h.1 c
    refine s_iconst d_Reader_readAll_161 ?_
    exact s_zreturn d_Reader_readAll_162 rfl (by decide) h
  · have h := h.2 c
    refine s_aload_n 0 d_Reader_readAll_10 rfl rfl ?_
    refine s_callV (as := []) (ci := 5) d_Reader_readAll_11 ok_Reader_next lk_Reader_77 io_Reader_next so_Reader_next (by decide) rfl rfl rfl (Nat.le_of_ble_eq_true rfl) rfl (sf_12 hF) (WM.mono h ?_)
    rintro _ σ3 ⟨v3, rfl, hp, h⟩
    obtain ⟨hF3, h⟩ := h
    show WP E m_Reader_readAll (d + 1) 14 [(0, aP 12), (1, aI x1)] [aI v3] σ3 Q
    refine s_iconst d_Reader_readAll_14 ?_
    obtain ⟨g4, h⟩ := h
    refine s_icmp_ne d_Reader_readAll_15 rfl g4 (by decide) (fun c => ?_) (fun c => ?_)
    · have h := h.1 c
      refine s_aload_n 0 d_Reader_readAll_20 rfl rfl ?_
      obtain ⟨g5, h⟩ := h
      refine s_ldcS (v := -1) d_Reader_readAll_21 g5 (by decide) ?_
      refine s_callV (as := [aP (-1)]) (ci := 5) d_Reader_readAll_23 ok_Reader_takeWord lk_Reader_82 io_Reader_takeWord so_Reader_takeWord (by decide) rfl rfl rfl (Nat.le_of_ble_eq_true rfl) rfl (sf_12 hF3) (WM.mono h ?_)
      rintro _ σ6 ⟨v6, rfl, hp, h⟩
      obtain ⟨hF6, h⟩ := h
      show WP E m_Reader_readAll (d + 1) 26 [(0, aP 12), (1, aI x1)] [aI v6] σ6 Q
      obtain ⟨g7, h⟩ := h
      refine s_if_eq d_Reader_readAll_26 rfl g7 (fun c => ?_) (fun c => ?_)
      · have h := h.1 c
        refine s_aload_n 0 d_Reader_readAll_57 rfl rfl ?_
        obtain ⟨g8, h⟩ := h
        refine s_ldcS (v := -2) d_Reader_readAll_58 g8 (by decide) ?_
        refine s_callV (as := [aP (-2)]) (ci := 5) d_Reader_readAll_60 ok_Reader_takeWord lk_Reader_82 io_Reader_takeWord so_Reader_takeWord (by decide) rfl rfl rfl (Nat.le_of_ble_eq_true rfl) rfl (sf_12 hF6) (WM.mono h ?_)
        rintro _ σ9 ⟨v9, rfl, hp, h⟩
        obtain ⟨hF9, h⟩ := h
        show WP E m_Reader_readAll (d + 1) 63 [(0, aP 12), (1, aI x1)] [aI v9] σ9 Q
        obtain ⟨g10, h⟩ := h
        refine s_if_eq d_Reader_readAll_63 rfl g10 (fun c => ?_) (fun c => ?_)
        · have h := h.1 c
          refine s_aload_n 0 d_Reader_readAll_93 rfl rfl ?_
          obtain ⟨g11, h⟩ := h
          refine s_ldcS (v := -3) d_Reader_readAll_94 g11 (by decide) ?_
          refine s_callV (as := [aP (-3)]) (ci := 5) d_Reader_readAll_96 ok_Reader_takeWord lk_Reader_82 io_Reader_takeWord so_Reader_takeWord (by decide) rfl rfl rfl (Nat.le_of_ble_eq_true rfl) rfl (sf_12 hF9) (WM.mono h ?_)
          rintro _ σ12 ⟨v12, rfl, hp, h⟩
          obtain ⟨hF12, h⟩ := h
          show WP E m_Reader_readAll (d + 1) 99 [(0, aP 12), (1, aI x1)] [aI v12] σ12 Q
          obtain ⟨g13, h⟩ := h
          refine s_if_eq d_Reader_readAll_99 rfl g13 (fun c => ?_) (fun c => ?_)
          · have h := h.1 c
            refine s_aload_n 0 d_Reader_readAll_110 rfl rfl ?_
            refine s_getF (v := σ12.1 12 8) d_Reader_readAll_111 fl_Reader_51 rfl (sf_12 hF12) rfl ?_
            refine s_iconst d_Reader_readAll_114 ?_
            obtain ⟨g14, h⟩ := h
            refine s_icmp_ge d_Reader_readAll_115 rfl g14 (by decide) (fun c => ?_) (fun c => ?_)
            · have h := h.1 c
              exact h
            · have h := h.2 c
              refine s_aload_n 0 d_Reader_readAll_118 rfl rfl ?_
              obtain ⟨g15, h⟩ := h
              refine s_ldcS (v := -5) d_Reader_readAll_119 g15 (by decide) ?_
              refine s_callV (as := [aP (-5)]) (ci := 5) d_Reader_readAll_121 ok_Reader_takeWord lk_Reader_82 io_Reader_takeWord so_Reader_takeWord (by decide) rfl rfl rfl (Nat.le_of_ble_eq_true rfl) rfl (sf_12 hF12) (WM.mono h ?_)
              rintro _ σ16 ⟨v16, rfl, hp, h⟩
              obtain ⟨hF16, h⟩ := h
              show WP E m_Reader_readAll (d + 1) 124 [(0, aP 12), (1, aI x1)] [aI v16] σ16 Q
              obtain ⟨g17, h⟩ := h
              refine s_if_eq d_Reader_readAll_124 rfl g17 (fun c => ?_) (fun c => ?_)
              · have h := h.1 c
                exact h
              · have h := h.2 c
                refine s_aload_n 0 d_Reader_readAll_127 rfl rfl ?_
                refine s_callV (as := []) (ci := 5) d_Reader_readAll_128 ok_Reader_readLine lk_Reader_98 io_Reader_readLine so_Reader_readLine (by decide) rfl rfl rfl (Nat.le_of_ble_eq_true rfl) rfl (sf_12 hF16) (WM.mono h ?_)
                rintro _ σ18 ⟨v18, rfl, hp, h⟩
                show WP E m_Reader_readAll (d + 1) 131 [(0, aP 12), (1, aI x1)] [aI v18] σ18 Q
                obtain ⟨g19, h⟩ := h
                refine s_if_eq d_Reader_readAll_131 rfl g19 (fun c => ?_) (fun c => ?_)
                · have h := h.1 c
                  exact h
                · have h := h.2 c
                  refine s_iconst d_Reader_readAll_134 ?_
                  refine s_goto d_Reader_readAll_135 rfl ?_
                  exact h
          · have h := h.2 c
            refine s_aload_n 0 d_Reader_readAll_102 rfl rfl ?_
            refine s_callV (as := []) (ci := 5) d_Reader_readAll_103 ok_Reader_readTold lk_Reader_92 io_Reader_readTold so_Reader_readTold (by decide) rfl rfl rfl (Nat.le_of_ble_eq_true rfl) rfl (sf_12 hF12) (WM.mono h ?_)
            rintro _ σ20 ⟨v20, rfl, hp, h⟩
            show WP E m_Reader_readAll (d + 1) 106 [(0, aP 12), (1, aI x1)] [aI v20] σ20 Q
            refine s_istore_n d_Reader_readAll_106 rfl (by decide) rfl ?_
            refine s_goto d_Reader_readAll_107 rfl ?_
            refine wp_drop [1, 2, 0] rfl ?_
            exact h
        · have h := h.2 c
          refine s_aload_n 0 d_Reader_readAll_66 rfl rfl ?_
          refine s_aload_n 0 d_Reader_readAll_67 rfl rfl ?_
          refine s_iconst d_Reader_readAll_68 ?_
          refine s_iconst d_Reader_readAll_69 ?_
          refine s_callV (as := [aI 0, aI 3]) (ci := 5) d_Reader_readAll_70 ok_Reader_readNumber lk_Reader_86 io_Reader_readNumber so_Reader_readNumber (by decide) rfl rfl rfl (Nat.le_of_ble_eq_true rfl) rfl (sf_12 hF9) (WM.mono h ?_)
          rintro _ σ21 ⟨v21, rfl, hp, h⟩
          obtain ⟨hF21, h⟩ := h
          show WP E m_Reader_readAll (d + 1) 73 [(0, aP 12), (1, aI x1)] [aI v21, aP 12] σ21 Q
          refine s_putf 10 rfl d_Reader_readAll_73 fl_Reader_57 (fun C T h => by cases h; exact Or.inl rfl) rfl (Or.inl rfl) (fun h => nomatch h) (sf_12 hF21) ?_
          refine s_aload_n 0 d_Reader_readAll_76 rfl rfl ?_
          refine s_getF (v := v21) d_Reader_readAll_77 fl_Reader_57 rfl (sf_12 (hF21.wf (a := 12) (k := 10) (by decide))) rfl ?_
          refine s_iconst d_Reader_readAll_80 ?_
          obtain ⟨g22, h⟩ := h
          refine s_icmp_eq d_Reader_readAll_81 rfl g22 (by decide) (fun c => ?_) (fun c => ?_)
          · have h := h.1 c
            refine s_iconst d_Reader_readAll_88 ?_
            exact h
          · have h := h.2 c
            refine s_iconst d_Reader_readAll_84 ?_
            refine s_goto d_Reader_readAll_85 rfl ?_
            exact h
      · have h := h.2 c
        refine s_aload_n 0 d_Reader_readAll_29 rfl rfl ?_
        refine s_aload_n 0 d_Reader_readAll_30 rfl rfl ?_
        refine s_iconst d_Reader_readAll_31 ?_
        refine s_bipush d_Reader_readAll_32 (by decide) ?_
        refine s_callV (as := [aI 1, aI 24]) (ci := 5) d_Reader_readAll_34 ok_Reader_readNumber lk_Reader_86 io_Reader_readNumber so_Reader_readNumber (by decide) rfl rfl rfl (Nat.le_of_ble_eq_true rfl) rfl (sf_12 hF6) (WM.mono h ?_)
        rintro _ σ23 ⟨v23, rfl, hp, h⟩
        obtain ⟨hF23, h⟩ := h
        show WP E m_Reader_readAll (d + 1) 37 [(0, aP 12), (1, aI x1)] [aI v23, aP 12] σ23 Q
        refine s_putf 9 rfl d_Reader_readAll_37 fl_Reader_54 (fun C T h => by cases h; exact Or.inl rfl) rfl (Or.inl rfl) (fun h => nomatch h) (sf_12 hF23) ?_
        refine s_aload_n 0 d_Reader_readAll_40 rfl rfl ?_
        refine s_getF (v := v23) d_Reader_readAll_41 fl_Reader_54 rfl (sf_12 (hF23.wf (a := 12) (k := 9) (by decide))) rfl ?_
        refine s_iconst d_Reader_readAll_44 ?_
        obtain ⟨g24, h⟩ := h
        refine s_icmp_eq d_Reader_readAll_45 rfl g24 (by decide) (fun c => ?_) (fun c => ?_)
        · have h := h.1 c
          refine s_iconst d_Reader_readAll_52 ?_
          exact h
        · have h := h.2 c
          refine s_iconst d_Reader_readAll_48 ?_
          refine s_goto d_Reader_readAll_49 rfl ?_
          exact h
    · have h := h.2 c
      refine s_iconst d_Reader_readAll_18 ?_
      exact s_zreturn d_Reader_readAll_19 rfl (by decide) h
theorem b_Reader_readAll_53 {E : EV} {d : Nat} {Q : Option AV → St → Prop} {σ : St} (x1 s0 : Int) (h : WP E m_Reader_readAll (d + 1) 140 [(0, aP 12), (1, aI x1), (2, aI s0)] [] σ Q) : WP E m_Reader_readAll (d + 1) 53 [(0, aP 12), (1, aI x1)] [aI s0] σ Q := by
  refine s_istore_n d_Reader_readAll_53 rfl (by decide) rfl ?_
  refine s_goto d_Reader_readAll_54 rfl ?_
  refine wp_drop [1, 2, 0] rfl ?_
  exact h
theorem b_Reader_readAll_89 {E : EV} {d : Nat} {Q : Option AV → St → Prop} {σ : St} (x1 s0 : Int) (h : WP E m_Reader_readAll (d + 1) 140 [(0, aP 12), (1, aI x1), (2, aI s0)] [] σ Q) : WP E m_Reader_readAll (d + 1) 89 [(0, aP 12), (1, aI x1)] [aI s0] σ Q := by
  refine s_istore_n d_Reader_readAll_89 rfl (by decide) rfl ?_
  refine s_goto d_Reader_readAll_90 rfl ?_
  refine wp_drop [1, 2, 0] rfl ?_
  exact h
theorem b_Reader_readAll_138 {E : EV} {d : Nat} {Q : Option AV → St → Prop} {σ : St} (x1 : Int) (h : WP E m_Reader_readAll (d + 1) 139 [(0, aP 12), (1, aI x1)] [aI 0] σ Q) : WP E m_Reader_readAll (d + 1) 138 [(0, aP 12), (1, aI x1)] [] σ Q := by
  refine s_iconst d_Reader_readAll_138 ?_
  exact h
theorem b_Reader_readAll_139 {E : EV} {d : Nat} {Q : Option AV → St → Prop} {σ : St} (x1 s0 : Int) (h : WP E m_Reader_readAll (d + 1) 140 [(0, aP 12), (1, aI x1), (2, aI s0)] [] σ Q) : WP E m_Reader_readAll (d + 1) 139 [(0, aP 12), (1, aI x1)] [aI s0] σ Q := by
  refine s_istore_n d_Reader_readAll_139 rfl (by decide) rfl ?_
  refine wp_drop [1, 2, 0] rfl ?_
  exact h
theorem b_Reader_readAll_140 {E : EV} {d : Nat} {Q : Option AV → St → Prop} {σ : St} (x1 x2 : Int) (hF : Fix σ) (h : (rI x2) ∧ ((x2 = 0 → Q (some (aI 0)) σ) ∧ (¬ x2 = 0 → (WMi E m_Reader_takeMark d [aP 12, aI 59] σ (fun v2 σ2 => (rI v2) ∧ ((¬ v2 = 0 → WP E m_Reader_readAll (d + 1) 2 [(0, aP 12), (1, aI (x1 + 1))] [] σ2 Q) ∧ (v2 = 0 → Q (some (aI 0)) σ2))))))) : WP E m_Reader_readAll (d + 1) 140 [(0, aP 12), (1, aI x1), (2, aI x2)] [] σ Q := by
  refine s_iload_n 2 d_Reader_readAll_140 rfl rfl ?_
  obtain ⟨g1, h⟩ := h
  refine s_if_eq d_Reader_readAll_141 rfl g1 (fun c => ?_) (fun c => ?_)
  · have h := h.1 c
    refine s_iconst d_Reader_readAll_153 ?_
    exact s_zreturn d_Reader_readAll_154 rfl (by decide) h
  · have h := h.2 c
    refine s_aload_n 0 d_Reader_readAll_144 rfl rfl ?_
    refine s_bipush d_Reader_readAll_145 (by decide) ?_
    refine s_callV (as := [aI 59]) (ci := 5) d_Reader_readAll_147 ok_Reader_takeMark lk_Reader_101 io_Reader_takeMark so_Reader_takeMark (by decide) rfl rfl rfl (Nat.le_of_ble_eq_true rfl) rfl (sf_12 hF) (WM.mono h ?_)
    rintro _ σ2 ⟨v2, rfl, hp, h⟩
    show WP E m_Reader_readAll (d + 1) 150 [(0, aP 12), (1, aI x1), (2, aI x2)] [aI v2] σ2 Q
    obtain ⟨g3, h⟩ := h
    refine s_if_ne d_Reader_readAll_150 rfl g3 (fun c => ?_) (fun c => ?_)
    · have h := h.1 c
      refine s_iinc 1 d_Reader_readAll_155 rfl (by decide) rfl ?_
      refine s_goto d_Reader_readAll_158 rfl ?_
      refine wp_drop [1, 0] rfl ?_
      exact h
    · have h := h.2 c
      refine s_iconst d_Reader_readAll_153 ?_
      exact s_zreturn d_Reader_readAll_154 rfl (by decide) h
theorem d_Reader_next_0 : decode m_Reader_next.2.1 0 = .ok (.aload_n 0, 1) := by decide +kernel
theorem d_Reader_next_1 : decode m_Reader_next.2.1 1 = .ok (.getfield 41, 3) := by decide +kernel
theorem d_Reader_next_4 : decode m_Reader_next.2.1 4 = .ok (.aload_n 0, 1) := by decide +kernel
theorem d_Reader_next_5 : decode m_Reader_next.2.1 5 = .ok (.getfield 38, 3) := by decide +kernel
theorem d_Reader_next_8 : decode m_Reader_next.2.1 8 = .ok (.if_icmp .ge 29, 3) := by decide +kernel
theorem d_Reader_next_11 : decode m_Reader_next.2.1 11 = .ok (.aload_n 0, 1) := by decide +kernel
theorem d_Reader_next_12 : decode m_Reader_next.2.1 12 = .ok (.aload_n 0, 1) := by decide +kernel
theorem d_Reader_next_13 : decode m_Reader_next.2.1 13 = .ok (.getfield 41, 3) := by decide +kernel
theorem d_Reader_next_16 : decode m_Reader_next.2.1 16 = .ok (.invokevirtual 172, 3) := by decide +kernel
theorem d_Reader_next_19 : decode m_Reader_next.2.1 19 = .ok (.bipush 32, 2) := by decide +kernel
theorem d_Reader_next_21 : decode m_Reader_next.2.1 21 = .ok (.if_icmp .ne 16, 3) := by decide +kernel
theorem d_Reader_next_24 : decode m_Reader_next.2.1 24 = .ok (.aload_n 0, 1) := by decide +kernel
theorem d_Reader_next_25 : decode m_Reader_next.2.1 25 = .ok (.dup, 1) := by decide +kernel
theorem d_Reader_next_26 : decode m_Reader_next.2.1 26 = .ok (.getfield 41, 3) := by decide +kernel
theorem d_Reader_next_29 : decode m_Reader_next.2.1 29 = .ok (.iconst 1, 1) := by decide +kernel
theorem d_Reader_next_30 : decode m_Reader_next.2.1 30 = .ok (.iadd, 1) := by decide +kernel
theorem d_Reader_next_31 : decode m_Reader_next.2.1 31 = .ok (.putfield 41, 3) := by decide +kernel
theorem d_Reader_next_34 : decode m_Reader_next.2.1 34 = .ok (.goto (-34), 3) := by decide +kernel
theorem d_Reader_next_37 : decode m_Reader_next.2.1 37 = .ok (.aload_n 0, 1) := by decide +kernel
theorem d_Reader_next_38 : decode m_Reader_next.2.1 38 = .ok (.aload_n 0, 1) := by decide +kernel
theorem d_Reader_next_39 : decode m_Reader_next.2.1 39 = .ok (.getfield 41, 3) := by decide +kernel
theorem d_Reader_next_42 : decode m_Reader_next.2.1 42 = .ok (.invokevirtual 172, 3) := by decide +kernel
theorem d_Reader_next_45 : decode m_Reader_next.2.1 45 = .ok (.ireturn, 1) := by decide +kernel
theorem b_Reader_next_0 {E : EV} {d : Nat} {Q : Option AV → St → Prop} {σ : St} (hF : Fix σ) (h : (rI (σ.1 12 6)) ∧ (rI (σ.1 12 5)) ∧ (((σ.1 12 5) ≤ (σ.1 12 6) → WP E m_Reader_next (d + 1) 37 [(0, aP 12)] [] σ Q) ∧ (¬ (σ.1 12 5) ≤ (σ.1 12 6) → (WMi E m_Reader_byteAt d [aP 12, aI (σ.1 12 6)] σ (fun v3 σ3 => Fix σ3 ∧ (rI v3) ∧ ((¬ v3 = 32 → WP E m_Reader_next (d + 1) 37 [(0, aP 12)] [] σ3 Q) ∧ (v3 = 32 → WP E m_Reader_next (d + 1) 0 [(0, aP 12)] [] (wr σ3 12 6 ((σ3.1 12 6) + 1)) Q))))))) : WP E m_Reader_next (d + 1) 0 [(0, aP 12)] [] σ Q := by
  refine s_aload_n 0 d_Reader_next_0 rfl rfl ?_
  refine s_getF (v := σ.1 12 6) d_Reader_next_1 fl_Reader_41 rfl (sf_12 hF) rfl ?_
  refine s_aload_n 0 d_Reader_next_4 rfl rfl ?_
  refine s_getF (v := σ.1 12 5) d_Reader_next_5 fl_Reader_38 rfl (sf_12 hF) rfl ?_
  obtain ⟨g1, h⟩ := h
  obtain ⟨g2, h⟩ := h
  refine s_icmp_ge d_Reader_next_8 rfl g1 g2 (fun c => ?_) (fun c => ?_)
  · have h := h.1 c
    exact h
  · have h := h.2 c
    refine s_aload_n 0 d_Reader_next_11 rfl rfl ?_
    refine s_aload_n 0 d_Reader_next_12 rfl rfl ?_
    refine s_getF (v := σ.1 12 6) d_Reader_next_13 fl_Reader_41 rfl (sf_12 hF) rfl ?_
    refine s_callV (as := [aI (σ.1 12 6)]) (ci := 5) d_Reader_next_16 ok_Reader_byteAt lk_Reader_172 io_Reader_byteAt so_Reader_byteAt (by decide) rfl rfl rfl (Nat.le_of_ble_eq_true rfl) rfl (sf_12 hF) (WM.mono h ?_)
    rintro _ σ3 ⟨v3, rfl, hp, h⟩
    obtain ⟨hF3, h⟩ := h
    show WP E m_Reader_next (d + 1) 19 [(0, aP 12)] [aI v3] σ3 Q
    refine s_bipush d_Reader_next_19 (by decide) ?_
    obtain ⟨g4, h⟩ := h
    refine s_icmp_ne d_Reader_next_21 rfl g4 (by decide) (fun c => ?_) (fun c => ?_)
    · have h := h.1 c
      exact h
    · have h := h.2 c
      refine s_aload_n 0 d_Reader_next_24 rfl rfl ?_
      refine s_dup d_Reader_next_25 (Nat.ne_of_beq_eq_false rfl) ?_
      refine s_getF (v := σ3.1 12 6) d_Reader_next_26 fl_Reader_41 rfl (sf_12 hF3) rfl ?_
      refine s_iconst d_Reader_next_29 ?_
      refine s_iadd d_Reader_next_30 ?_
      refine s_putf 6 rfl d_Reader_next_31 fl_Reader_41 (fun C T h => by cases h; exact Or.inl rfl) rfl (Or.inl rfl) (fun h => nomatch h) (sf_12 hF3) ?_
      refine s_goto d_Reader_next_34 rfl ?_
      exact h
theorem e_Reader_next {E : EV} {d : Nat} {Q : Option AV → St → Prop} {σ : St} (hF : Fix σ) (h : (rI (σ.1 12 6)) ∧ (rI (σ.1 12 5)) ∧ (((σ.1 12 5) ≤ (σ.1 12 6) → WP E m_Reader_next (d + 1) 37 [(0, aP 12)] [] σ Q) ∧ (¬ (σ.1 12 5) ≤ (σ.1 12 6) → (WMi E m_Reader_byteAt d [aP 12, aI (σ.1 12 6)] σ (fun v3 σ3 => Fix σ3 ∧ (rI v3) ∧ ((¬ v3 = 32 → WP E m_Reader_next (d + 1) 37 [(0, aP 12)] [] σ3 Q) ∧ (v3 = 32 → WP E m_Reader_next (d + 1) 0 [(0, aP 12)] [] (wr σ3 12 6 ((σ3.1 12 6) + 1)) Q))))))) : WM E m_Reader_next (d + 1) [aP 12] σ Q := s_meth (by decide) (Nat.le_of_ble_eq_true rfl) rfl (b_Reader_next_0 hF h)
theorem b_Reader_next_37 {E : EV} {d : Nat} {Q : Option AV → St → Prop} {σ : St} (hF : Fix σ) (h : (WMi E m_Reader_byteAt d [aP 12, aI (σ.1 12 6)] σ (fun v1 σ1 => Q (some (aI v1)) σ1))) : WP E m_Reader_next (d + 1) 37 [(0, aP 12)] [] σ Q := by
  refine s_aload_n 0 d_Reader_next_37 rfl rfl ?_
  refine s_aload_n 0 d_Reader_next_38 rfl rfl ?_
  refine s_getF (v := σ.1 12 6) d_Reader_next_39 fl_Reader_41 rfl (sf_12 hF) rfl ?_
  refine s_callV (as := [aI (σ.1 12 6)]) (ci := 5) d_Reader_next_42 ok_Reader_byteAt lk_Reader_172 io_Reader_byteAt so_Reader_byteAt (by decide) rfl rfl rfl (Nat.le_of_ble_eq_true rfl) rfl (sf_12 hF) (WM.mono h ?_)
  rintro _ σ1 ⟨v1, rfl, hp, h⟩
  show WP E m_Reader_next (d + 1) 45 [(0, aP 12)] [aI v1] σ1 Q
  exact s_ireturn d_Reader_next_45 rfl h
theorem d_Reader_byteAt_0 : decode m_Reader_byteAt.2.1 0 = .ok (.iload_n 1, 1) := by decide +kernel
theorem d_Reader_byteAt_1 : decode m_Reader_byteAt.2.1 1 = .ok (.ifCond .lt 33, 3) := by decide +kernel
theorem d_Reader_byteAt_4 : decode m_Reader_byteAt.2.1 4 = .ok (.iload_n 1, 1) := by decide +kernel
theorem d_Reader_byteAt_5 : decode m_Reader_byteAt.2.1 5 = .ok (.aload_n 0, 1) := by decide +kernel
theorem d_Reader_byteAt_6 : decode m_Reader_byteAt.2.1 6 = .ok (.getfield 38, 3) := by decide +kernel
theorem d_Reader_byteAt_9 : decode m_Reader_byteAt.2.1 9 = .ok (.if_icmp .ge 25, 3) := by decide +kernel
theorem d_Reader_byteAt_12 : decode m_Reader_byteAt.2.1 12 = .ok (.iload_n 1, 1) := by decide +kernel
theorem d_Reader_byteAt_13 : decode m_Reader_byteAt.2.1 13 = .ok (.aload_n 0, 1) := by decide +kernel
theorem d_Reader_byteAt_14 : decode m_Reader_byteAt.2.1 14 = .ok (.getfield 9, 3) := by decide +kernel
theorem d_Reader_byteAt_17 : decode m_Reader_byteAt.2.1 17 = .ok (.arraylength, 1) := by decide +kernel
theorem d_Reader_byteAt_18 : decode m_Reader_byteAt.2.1 18 = .ok (.if_icmp .ge 16, 3) := by decide +kernel
theorem d_Reader_byteAt_21 : decode m_Reader_byteAt.2.1 21 = .ok (.aload_n 0, 1) := by decide +kernel
theorem d_Reader_byteAt_22 : decode m_Reader_byteAt.2.1 22 = .ok (.getfield 9, 3) := by decide +kernel
theorem d_Reader_byteAt_25 : decode m_Reader_byteAt.2.1 25 = .ok (.iload_n 1, 1) := by decide +kernel
theorem d_Reader_byteAt_26 : decode m_Reader_byteAt.2.1 26 = .ok (.baload, 1) := by decide +kernel
theorem d_Reader_byteAt_27 : decode m_Reader_byteAt.2.1 27 = .ok (.sipush 255, 3) := by decide +kernel
theorem d_Reader_byteAt_30 : decode m_Reader_byteAt.2.1 30 = .ok (.iand, 1) := by decide +kernel
theorem d_Reader_byteAt_31 : decode m_Reader_byteAt.2.1 31 = .ok (.goto 4, 3) := by decide +kernel
theorem d_Reader_byteAt_34 : decode m_Reader_byteAt.2.1 34 = .ok (.iconst (-1), 1) := by decide +kernel
theorem d_Reader_byteAt_35 : decode m_Reader_byteAt.2.1 35 = .ok (.ireturn, 1) := by decide +kernel
theorem b_Reader_byteAt_0 {E : EV} {d : Nat} {Q : Option AV → St → Prop} {σ : St} (x1 : Int) (hF : Fix σ) (h : (rI x1) ∧ ((x1 < 0 → Q (some (aI (-1))) σ) ∧ (¬ x1 < 0 → (rI x1) ∧ (rI (σ.1 12 5)) ∧ (((σ.1 12 5) ≤ x1 → Q (some (aI (-1))) σ) ∧ (¬ (σ.1 12 5) ≤ x1 → (rI x1) ∧ ((400 ≤ x1 → Q (some (aI (-1))) σ) ∧ (¬ 400 ≤ x1 → (0 ≤ x1 ∧ x1 < 400) ∧ Q (some (aI (iand (σ.1 13 x1) 255))) σ))))))) : WP E m_Reader_byteAt d 0 [(0, aP 12), (1, aI x1)] [] σ Q := by
  refine s_iload_n 1 d_Reader_byteAt_0 rfl rfl ?_
  obtain ⟨g1, h⟩ := h
  refine s_if_lt d_Reader_byteAt_1 rfl g1 (fun c => ?_) (fun c => ?_)
  · have h := h.1 c
    refine s_iconst d_Reader_byteAt_34 ?_
    exact s_ireturn d_Reader_byteAt_35 rfl h
  · have h := h.2 c
    refine s_iload_n 1 d_Reader_byteAt_4 rfl rfl ?_
    refine s_aload_n 0 d_Reader_byteAt_5 rfl rfl ?_
    refine s_getF (v := σ.1 12 5) d_Reader_byteAt_6 fl_Reader_38 rfl (sf_12 hF) rfl ?_
    obtain ⟨g2, h⟩ := h
    obtain ⟨g3, h⟩ := h
    refine s_icmp_ge d_Reader_byteAt_9 rfl g2 g3 (fun c => ?_) (fun c => ?_)
    · have h := h.1 c
      refine s_iconst d_Reader_byteAt_34 ?_
      exact s_ireturn d_Reader_byteAt_35 rfl h
    · have h := h.2 c
      refine s_iload_n 1 d_Reader_byteAt_12 rfl rfl ?_
      refine s_aload_n 0 d_Reader_byteAt_13 rfl rfl ?_
      refine s_getF (v := 13) d_Reader_byteAt_14 fl_Reader_9 rfl (sf_12 hF) (ff_7 hF) ?_
      refine s_alenv (v := 400) (by decide) d_Reader_byteAt_17 (sf_13 hF) (by decide) ?_
      obtain ⟨g4, h⟩ := h
      refine s_icmp_ge d_Reader_byteAt_18 rfl g4 (by decide) (fun c => ?_) (fun c => ?_)
      · have h := h.1 c
        refine s_iconst d_Reader_byteAt_34 ?_
        exact s_ireturn d_Reader_byteAt_35 rfl h
      · have h := h.2 c
        refine s_aload_n 0 d_Reader_byteAt_21 rfl rfl ?_
        refine s_getF (v := 13) d_Reader_byteAt_22 fl_Reader_9 rfl (sf_12 hF) (ff_7 hF) ?_
        refine s_iload_n 1 d_Reader_byteAt_25 rfl rfl ?_
        obtain ⟨g5, h⟩ := h
        refine s_baloadv (v := σ.1 13 x1) (by decide) d_Reader_byteAt_26 ⟨_, sf_13 hF, g5.1, g5.2, by have := g5.2; omega⟩ rfl ?_
        refine s_sipush d_Reader_byteAt_27 (by decide) ?_
        refine s_iand d_Reader_byteAt_30 ?_
        refine s_goto d_Reader_byteAt_31 rfl ?_
        exact s_ireturn d_Reader_byteAt_35 rfl h
theorem e_Reader_byteAt {E : EV} {d : Nat} {Q : Option AV → St → Prop} {σ : St} (x1 : Int) (hF : Fix σ) (h : (rI x1) ∧ ((x1 < 0 → Q (some (aI (-1))) σ) ∧ (¬ x1 < 0 → (rI x1) ∧ (rI (σ.1 12 5)) ∧ (((σ.1 12 5) ≤ x1 → Q (some (aI (-1))) σ) ∧ (¬ (σ.1 12 5) ≤ x1 → (rI x1) ∧ ((400 ≤ x1 → Q (some (aI (-1))) σ) ∧ (¬ 400 ≤ x1 → (0 ≤ x1 ∧ x1 < 400) ∧ Q (some (aI (iand (σ.1 13 x1) 255))) σ))))))) : WM E m_Reader_byteAt d [aP 12, aI x1] σ Q := s_meth (by decide) (Nat.le_of_ble_eq_true rfl) rfl (b_Reader_byteAt_0 x1 hF h)
theorem d_Reader_takeWord_0 : decode m_Reader_takeWord.2.1 0 = .ok (.aload_n 0, 1) := by decide +kernel
theorem d_Reader_takeWord_1 : decode m_Reader_takeWord.2.1 1 = .ok (.invokevirtual 77, 3) := by decide +kernel
theorem d_Reader_takeWord_4 : decode m_Reader_takeWord.2.1 4 = .ok (.pop, 1) := by decide +kernel
theorem d_Reader_takeWord_5 : decode m_Reader_takeWord.2.1 5 = .ok (.aload_n 0, 1) := by decide +kernel
theorem d_Reader_takeWord_6 : decode m_Reader_takeWord.2.1 6 = .ok (.invokevirtual 176, 3) := by decide +kernel
theorem d_Reader_takeWord_9 : decode m_Reader_takeWord.2.1 9 = .ok (.ifCond .ne 19, 3) := by decide +kernel
theorem d_Reader_takeWord_12 : decode m_Reader_takeWord.2.1 12 = .ok (.aload_n 0, 1) := by decide +kernel
theorem d_Reader_takeWord_13 : decode m_Reader_takeWord.2.1 13 = .ok (.invokevirtual 179, 3) := by decide +kernel
theorem d_Reader_takeWord_16 : decode m_Reader_takeWord.2.1 16 = .ok (.aload_n 0, 1) := by decide +kernel
theorem d_Reader_takeWord_17 : decode m_Reader_takeWord.2.1 17 = .ok (.getfield 41, 3) := by decide +kernel
theorem d_Reader_takeWord_20 : decode m_Reader_takeWord.2.1 20 = .ok (.isub, 1) := by decide +kernel
theorem d_Reader_takeWord_21 : decode m_Reader_takeWord.2.1 21 = .ok (.aload_n 1, 1) := by decide +kernel
theorem d_Reader_takeWord_22 : decode m_Reader_takeWord.2.1 22 = .ok (.invokevirtual 182, 3) := by decide +kernel
theorem d_Reader_takeWord_25 : decode m_Reader_takeWord.2.1 25 = .ok (.if_icmp .eq 5, 3) := by decide +kernel
theorem d_Reader_takeWord_28 : decode m_Reader_takeWord.2.1 28 = .ok (.iconst 0, 1) := by decide +kernel
theorem d_Reader_takeWord_29 : decode m_Reader_takeWord.2.1 29 = .ok (.ireturn, 1) := by decide +kernel
theorem d_Reader_takeWord_30 : decode m_Reader_takeWord.2.1 30 = .ok (.iconst 0, 1) := by decide +kernel
theorem d_Reader_takeWord_31 : decode m_Reader_takeWord.2.1 31 = .ok (.istore_n 2, 1) := by decide +kernel
theorem d_Reader_takeWord_32 : decode m_Reader_takeWord.2.1 32 = .ok (.iload_n 2, 1) := by decide +kernel
theorem d_Reader_takeWord_33 : decode m_Reader_takeWord.2.1 33 = .ok (.aload_n 1, 1) := by decide +kernel
theorem d_Reader_takeWord_34 : decode m_Reader_takeWord.2.1 34 = .ok (.invokevirtual 182, 3) := by decide +kernel
theorem d_Reader_takeWord_37 : decode m_Reader_takeWord.2.1 37 = .ok (.if_icmp .ge 29, 3) := by decide +kernel
theorem d_Reader_takeWord_40 : decode m_Reader_takeWord.2.1 40 = .ok (.aload_n 0, 1) := by decide +kernel
theorem d_Reader_takeWord_41 : decode m_Reader_takeWord.2.1 41 = .ok (.aload_n 0, 1) := by decide +kernel
theorem d_Reader_takeWord_42 : decode m_Reader_takeWord.2.1 42 = .ok (.getfield 41, 3) := by decide +kernel
theorem d_Reader_takeWord_45 : decode m_Reader_takeWord.2.1 45 = .ok (.iload_n 2, 1) := by decide +kernel
theorem d_Reader_takeWord_46 : decode m_Reader_takeWord.2.1 46 = .ok (.iadd, 1) := by decide +kernel
theorem d_Reader_takeWord_47 : decode m_Reader_takeWord.2.1 47 = .ok (.invokevirtual 172, 3) := by decide +kernel
theorem d_Reader_takeWord_50 : decode m_Reader_takeWord.2.1 50 = .ok (.aload_n 1, 1) := by decide +kernel
theorem d_Reader_takeWord_51 : decode m_Reader_takeWord.2.1 51 = .ok (.iload_n 2, 1) := by decide +kernel
theorem d_Reader_takeWord_52 : decode m_Reader_takeWord.2.1 52 = .ok (.invokevirtual 186, 3) := by decide +kernel
theorem d_Reader_takeWord_55 : decode m_Reader_takeWord.2.1 55 = .ok (.if_icmp .eq 5, 3) := by decide +kernel
theorem d_Reader_takeWord_58 : decode m_Reader_takeWord.2.1 58 = .ok (.iconst 0, 1) := by decide +kernel
theorem d_Reader_takeWord_59 : decode m_Reader_takeWord.2.1 59 = .ok (.ireturn, 1) := by decide +kernel
theorem d_Reader_takeWord_60 : decode m_Reader_takeWord.2.1 60 = .ok (.iinc 2 1, 3) := by decide +kernel
theorem d_Reader_takeWord_63 : decode m_Reader_takeWord.2.1 63 = .ok (.goto (-31), 3) := by decide +kernel
theorem d_Reader_takeWord_66 : decode m_Reader_takeWord.2.1 66 = .ok (.aload_n 0, 1) := by decide +kernel
theorem d_Reader_takeWord_67 : decode m_Reader_takeWord.2.1 67 = .ok (.dup, 1) := by decide +kernel
theorem d_Reader_takeWord_68 : decode m_Reader_takeWord.2.1 68 = .ok (.getfield 41, 3) := by decide +kernel
theorem d_Reader_takeWord_71 : decode m_Reader_takeWord.2.1 71 = .ok (.aload_n 1, 1) := by decide +kernel
theorem d_Reader_takeWord_72 : decode m_Reader_takeWord.2.1 72 = .ok (.invokevirtual 182, 3) := by decide +kernel
theorem d_Reader_takeWord_75 : decode m_Reader_takeWord.2.1 75 = .ok (.iadd, 1) := by decide +kernel
theorem d_Reader_takeWord_76 : decode m_Reader_takeWord.2.1 76 = .ok (.putfield 41, 3) := by decide +kernel
theorem d_Reader_takeWord_79 : decode m_Reader_takeWord.2.1 79 = .ok (.iconst 1, 1) := by decide +kernel
theorem d_Reader_takeWord_80 : decode m_Reader_takeWord.2.1 80 = .ok (.ireturn, 1) := by decide +kernel
theorem b_Reader_takeWord_0 {E : EV} {d : Nat} {Q : Option AV → St → Prop} {σ : St} (x1 : Int) (hF : Fix σ) (h : (WMi E m_Reader_next d [aP 12] σ (fun v1 σ1 => Fix σ1 ∧ (WMi E m_Reader_isGlued d [aP 12] σ1 (fun v2 σ2 => Fix σ2 ∧ (rI v2) ∧ ((¬ v2 = 0 → Q (some (aI 0)) σ2) ∧ (v2 = 0 → (WMi E m_Reader_wordEnd d [aP 12] σ2 (fun v4 σ4 => Fix σ4 ∧ (XR E x1 "java/lang/String") ∧ (WMi E m_String_length d [aP x1] σ4 (fun v5 σ5 => (rI (v4 - (σ4.1 12 6))) ∧ (rI v5) ∧ (((v4 - (σ4.1 12 6)) = v5 → WP E m_Reader_takeWord (d + 1) 32 [(0, aP 12), (1, aP x1), (2, aI 0)] [] σ5 Q) ∧ (¬ (v4 - (σ4.1 12 6)) = v5 → Q (some (aI 0)) σ5))))))))))))) : WP E m_Reader_takeWord (d + 1) 0 [(0, aP 12), (1, aP x1)] [] σ Q := by
  refine s_aload_n 0 d_Reader_takeWord_0 rfl rfl ?_
  refine s_callV (as := []) (ci := 5) d_Reader_takeWord_1 ok_Reader_next lk_Reader_77 io_Reader_next so_Reader_next (by decide) rfl rfl rfl (Nat.le_of_ble_eq_true rfl) rfl (sf_12 hF) (WM.mono h ?_)
  rintro _ σ1 ⟨v1, rfl, hp, h⟩
  obtain ⟨hF1, h⟩ := h
  show WP E m_Reader_takeWord (d + 1) 4 [(0, aP 12), (1, aP x1)] [aI v1] σ1 Q
  refine s_pop d_Reader_takeWord_4 (Nat.ne_of_beq_eq_false rfl) ?_
  refine s_aload_n 0 d_Reader_takeWord_5 rfl rfl ?_
  refine s_callV (as := []) (ci := 5) d_Reader_takeWord_6 ok_Reader_isGlued lk_Reader_176 io_Reader_isGlued so_Reader_isGlued (by decide) rfl rfl rfl (Nat.le_of_ble_eq_true rfl) rfl (sf_12 hF1) (WM.mono h ?_)
  rintro _ σ2 ⟨v2, rfl, hp, h⟩
  obtain ⟨hF2, h⟩ := h
  show WP E m_Reader_takeWord (d + 1) 9 [(0, aP 12), (1, aP x1)] [aI v2] σ2 Q
  obtain ⟨g3, h⟩ := h
  refine s_if_ne d_Reader_takeWord_9 rfl g3 (fun c => ?_) (fun c => ?_)
  · have h := h.1 c
    refine s_iconst d_Reader_takeWord_28 ?_
    exact s_zreturn d_Reader_takeWord_29 rfl (by decide) h
  · have h := h.2 c
    refine s_aload_n 0 d_Reader_takeWord_12 rfl rfl ?_
    refine s_callV (as := []) (ci := 5) d_Reader_takeWord_13 ok_Reader_wordEnd lk_Reader_179 io_Reader_wordEnd so_Reader_wordEnd (by decide) rfl rfl rfl (Nat.le_of_ble_eq_true rfl) rfl (sf_12 hF2) (WM.mono h ?_)
    rintro _ σ4 ⟨v4, rfl, hp, h⟩
    obtain ⟨hF4, h⟩ := h
    show WP E m_Reader_takeWord (d + 1) 16 [(0, aP 12), (1, aP x1)] [aI v4] σ4 Q
    refine s_aload_n 0 d_Reader_takeWord_16 rfl rfl ?_
    refine s_getF (v := σ4.1 12 6) d_Reader_takeWord_17 fl_Reader_41 rfl (sf_12 hF4) rfl ?_
    refine s_isub d_Reader_takeWord_20 ?_
    refine s_aload_n 1 d_Reader_takeWord_21 rfl rfl ?_
    obtain ⟨g6, h⟩ := h
    refine s_callX (as := []) d_Reader_takeWord_22 ok_String_length lk_Reader_182 io_String_length so_String_length rfl (Nat.le_of_ble_eq_true rfl) rfl g6 (WM.mono h ?_)
    rintro _ σ5 ⟨v5, rfl, hp, h⟩
    show WP E m_Reader_takeWord (d + 1) 25 [(0, aP 12), (1, aP x1)] [aI v5, aI (v4 - (σ4.1 12 6))] σ5 Q
    obtain ⟨g7, h⟩ := h
    obtain ⟨g8, h⟩ := h
    refine s_icmp_eq d_Reader_takeWord_25 rfl g7 g8 (fun c => ?_) (fun c => ?_)
    · have h := h.1 c
      refine s_iconst d_Reader_takeWord_30 ?_
      refine s_istore_n d_Reader_takeWord_31 rfl (by decide) rfl ?_
      refine wp_drop [1, 2, 0] rfl ?_
      exact h
    · have h := h.2 c
      refine s_iconst d_Reader_takeWord_28 ?_
      exact s_zreturn d_Reader_takeWord_29 rfl (by decide) h
theorem e_Reader_takeWord {E : EV} {d : Nat} {Q : Option AV → St → Prop} {σ : St} (x1 : Int) (hF : Fix σ) (h : (WMi E m_Reader_next d [aP 12] σ (fun v1 σ1 => Fix σ1 ∧ (WMi E m_Reader_isGlued d [aP 12] σ1 (fun v2 σ2 => Fix σ2 ∧ (rI v2) ∧ ((¬ v2 = 0 → Q (some (aI 0)) σ2) ∧ (v2 = 0 → (WMi E m_Reader_wordEnd d [aP 12] σ2 (fun v4 σ4 => Fix σ4 ∧ (XR E x1 "java/lang/String") ∧ (WMi E m_String_length d [aP x1] σ4 (fun v5 σ5 => (rI (v4 - (σ4.1 12 6))) ∧ (rI v5) ∧ (((v4 - (σ4.1 12 6)) = v5 → WP E m_Reader_takeWord (d + 1) 32 [(0, aP 12), (1, aP x1), (2, aI 0)] [] σ5 Q) ∧ (¬ (v4 - (σ4.1 12 6)) = v5 → Q (some (aI 0)) σ5))))))))))))) : WM E m_Reader_takeWord (d + 1) [aP 12, aP x1] σ Q := s_meth (by decide) (Nat.le_of_ble_eq_true rfl) rfl (b_Reader_takeWord_0 x1 hF h)
theorem b_Reader_takeWord_32 {E : EV} {d : Nat} {Q : Option AV → St → Prop} {σ : St} (x1 x2 : Int) (hF : Fix σ) (h : (XR E x1 "java/lang/String") ∧ (WMi E m_String_length d [aP x1] σ (fun v1 σ1 => Fix σ1 ∧ (rI x2) ∧ (rI v1) ∧ ((v1 ≤ x2 → (XR E x1 "java/lang/String") ∧ (WMi E m_String_length d [aP x1] σ1 (fun v5 σ5 => Fix σ5 ∧ Q (some (aI 1)) (wr σ5 12 6 ((σ1.1 12 6) + v5))))) ∧ (¬ v1 ≤ x2 → (WMi E m_Reader_byteAt d [aP 12, aI ((σ1.1 12 6) + x2)] σ1 (fun v7 σ7 => (XR E x1 "java/lang/String") ∧ (WMi E m_String_charAt d [aP x1, aI x2] σ7 (fun v8 σ8 => (rI v7) ∧ (rI v8) ∧ ((v7 = v8 → WP E m_Reader_takeWord (d + 1) 32 [(0, aP 12), (1, aP x1), (2, aI (x2 + 1))] [] σ8 Q) ∧ (¬ v7 = v8 → Q (some (aI 0)) σ8))))))))))) : WP E m_Reader_takeWord (d + 1) 32 [(0, aP 12), (1, aP x1), (2, aI x2)] [] σ Q := by
  refine s_iload_n 2 d_Reader_takeWord_32 rfl rfl ?_
  refine s_aload_n 1 d_Reader_takeWord_33 rfl rfl ?_
  obtain ⟨g2, h⟩ := h
  refine s_callX (as := []) d_Reader_takeWord_34 ok_String_length lk_Reader_182 io_String_length so_String_length rfl (Nat.le_of_ble_eq_true rfl) rfl g2 (WM.mono h ?_)
  rintro _ σ1 ⟨v1, rfl, hp, h⟩
  obtain ⟨hF2, h⟩ := h
  show WP E m_Reader_takeWord (d + 1) 37 [(0, aP 12), (1, aP x1), (2, aI x2)] [aI v1, aI x2] σ1 Q
  obtain ⟨g3, h⟩ := h
  obtain ⟨g4, h⟩ := h
  refine s_icmp_ge d_Reader_takeWord_37 rfl g3 g4 (fun c => ?_) (fun c => ?_)
  · have h := h.1 c
    refine s_aload_n 0 d_Reader_takeWord_66 rfl rfl ?_
    refine s_dup d_Reader_takeWord_67 (Nat.ne_of_beq_eq_false rfl) ?_
    refine s_getF (v := σ1.1 12 6) d_Reader_takeWord_68 fl_Reader_41 rfl (sf_12 hF2) rfl ?_
    refine s_aload_n 1 d_Reader_takeWord_71 rfl rfl ?_
    obtain ⟨g6, h⟩ := h
    refine s_callX (as := []) d_Reader_takeWord_72 ok_String_length lk_Reader_182 io_String_length so_String_length rfl (Nat.le_of_ble_eq_true rfl) rfl g6 (WM.mono h ?_)
    rintro _ σ5 ⟨v5, rfl, hp, h⟩
    obtain ⟨hF6, h⟩ := h
    show WP E m_Reader_takeWord (d + 1) 75 [(0, aP 12), (1, aP x1), (2, aI x2)] [aI v5, aI (σ1.1 12 6), aP 12] σ5 Q
    refine s_iadd d_Reader_takeWord_75 ?_
    refine s_putf 6 rfl d_Reader_takeWord_76 fl_Reader_41 (fun C T h => by cases h; exact Or.inl rfl) rfl (Or.inl rfl) (fun h => nomatch h) (sf_12 hF6) ?_
    refine s_iconst d_Reader_takeWord_79 ?_
    exact s_zreturn d_Reader_takeWord_80 rfl (by decide) h
  · have h := h.2 c
    refine s_aload_n 0 d_Reader_takeWord_40 rfl rfl ?_
    refine s_aload_n 0 d_Reader_takeWord_41 rfl rfl ?_
    refine s_getF (v := σ1.1 12 6) d_Reader_takeWord_42 fl_Reader_41 rfl (sf_12 hF2) rfl ?_
    refine s_iload_n 2 d_Reader_takeWord_45 rfl rfl ?_
    refine s_iadd d_Reader_takeWord_46 ?_
    refine s_callV (as := [aI ((σ1.1 12 6) + x2)]) (ci := 5) d_Reader_takeWord_47 ok_Reader_byteAt lk_Reader_172 io_Reader_byteAt so_Reader_byteAt (by decide) rfl rfl rfl (Nat.le_of_ble_eq_true rfl) rfl (sf_12 hF2) (WM.mono h ?_)
    rintro _ σ7 ⟨v7, rfl, hp, h⟩
    show WP E m_Reader_takeWord (d + 1) 50 [(0, aP 12), (1, aP x1), (2, aI x2)] [aI v7] σ7 Q
    refine s_aload_n 1 d_Reader_takeWord_50 rfl rfl ?_
    refine s_iload_n 2 d_Reader_takeWord_51 rfl rfl ?_
    obtain ⟨g9, h⟩ := h
    refine s_callX (as := [aI x2]) d_Reader_takeWord_52 ok_String_charAt lk_Reader_186 io_String_charAt so_String_charAt rfl (Nat.le_of_ble_eq_true rfl) rfl g9 (WM.mono h ?_)
    rintro _ σ8 ⟨v8, rfl, hp, h⟩
    show WP E m_Reader_takeWord (d + 1) 55 [(0, aP 12), (1, aP x1), (2, aI x2)] [aI v8, aI v7] σ8 Q
    obtain ⟨g10, h⟩ := h
    obtain ⟨g11, h⟩ := h
    refine s_icmp_eq d_Reader_takeWord_55 rfl g10 g11 (fun c => ?_) (fun c => ?_)
    · have h := h.1 c
      refine s_iinc 2 d_Reader_takeWord_60 rfl (by decide) rfl ?_
      refine s_goto d_Reader_takeWord_63 rfl ?_
      refine wp_drop [1, 2, 0] rfl ?_
      exact h
    · have h := h.2 c
      refine s_iconst d_Reader_takeWord_58 ?_
      exact s_zreturn d_Reader_takeWord_59 rfl (by decide) h
theorem d_Reader_isGlued_0 : decode m_Reader_isGlued.2.1 0 = .ok (.aload_n 0, 1) := by decide +kernel
theorem d_Reader_isGlued_1 : decode m_Reader_isGlued.2.1 1 = .ok (.aload_n 0, 1) := by decide +kernel
theorem d_Reader_isGlued_2 : decode m_Reader_isGlued.2.1 2 = .ok (.getfield 41, 3) := by decide +kernel
theorem d_Reader_isGlued_5 : decode m_Reader_isGlued.2.1 5 = .ok (.iconst 1, 1) := by decide +kernel
theorem d_Reader_isGlued_6 : decode m_Reader_isGlued.2.1 6 = .ok (.isub, 1) := by decide +kernel
theorem d_Reader_isGlued_7 : decode m_Reader_isGlued.2.1 7 = .ok (.invokevirtual 172, 3) := by decide +kernel
theorem d_Reader_isGlued_10 : decode m_Reader_isGlued.2.1 10 = .ok (.invokestatic 193, 3) := by decide +kernel
theorem d_Reader_isGlued_13 : decode m_Reader_isGlued.2.1 13 = .ok (.ifCond .ne 19, 3) := by decide +kernel
theorem d_Reader_isGlued_16 : decode m_Reader_isGlued.2.1 16 = .ok (.aload_n 0, 1) := by decide +kernel
theorem d_Reader_isGlued_17 : decode m_Reader_isGlued.2.1 17 = .ok (.aload_n 0, 1) := by decide +kernel
theorem d_Reader_isGlued_18 : decode m_Reader_isGlued.2.1 18 = .ok (.getfield 41, 3) := by decide +kernel
theorem d_Reader_isGlued_21 : decode m_Reader_isGlued.2.1 21 = .ok (.iconst 1, 1) := by decide +kernel
theorem d_Reader_isGlued_22 : decode m_Reader_isGlued.2.1 22 = .ok (.isub, 1) := by decide +kernel
theorem d_Reader_isGlued_23 : decode m_Reader_isGlued.2.1 23 = .ok (.invokevirtual 172, 3) := by decide +kernel
theorem d_Reader_isGlued_26 : decode m_Reader_isGlued.2.1 26 = .ok (.invokestatic 190, 3) := by decide +kernel
theorem d_Reader_isGlued_29 : decode m_Reader_isGlued.2.1 29 = .ok (.ifCond .eq 7, 3) := by decide +kernel
theorem d_Reader_isGlued_32 : decode m_Reader_isGlued.2.1 32 = .ok (.iconst 1, 1) := by decide +kernel
theorem d_Reader_isGlued_33 : decode m_Reader_isGlued.2.1 33 = .ok (.goto 4, 3) := by decide +kernel
theorem d_Reader_isGlued_36 : decode m_Reader_isGlued.2.1 36 = .ok (.iconst 0, 1) := by decide +kernel
theorem d_Reader_isGlued_37 : decode m_Reader_isGlued.2.1 37 = .ok (.ireturn, 1) := by decide +kernel
theorem b_Reader_isGlued_0 {E : EV} {d : Nat} {Q : Option AV → St → Prop} {σ : St} (hF : Fix σ) (h : (WMi E m_Reader_byteAt d [aP 12, aI ((σ.1 12 6) - 1)] σ (fun v1 σ1 => Fix σ1 ∧ (WMi E m_Reader_isSmallLetter d [aI v1] σ1 (fun v2 σ2 => Fix σ2 ∧ (rI v2) ∧ ((¬ v2 = 0 → Q (some (aI 1)) σ2) ∧ (v2 = 0 → (WMi E m_Reader_byteAt d [aP 12, aI ((σ2.1 12 6) - 1)] σ2 (fun v4 σ4 => (WMi E m_Reader_isDigit d [aI v4] σ4 (fun v5 σ5 => (rI v5) ∧ ((v5 = 0 → Q (some (aI 0)) σ5) ∧ (¬ v5 = 0 → Q (some (aI 1)) σ5))))))))))))) : WP E m_Reader_isGlued (d + 1) 0 [(0, aP 12)] [] σ Q := by
  refine s_aload_n 0 d_Reader_isGlued_0 rfl rfl ?_
  refine s_aload_n 0 d_Reader_isGlued_1 rfl rfl ?_
  refine s_getF (v := σ.1 12 6) d_Reader_isGlued_2 fl_Reader_41 rfl (sf_12 hF) rfl ?_
  refine s_iconst d_Reader_isGlued_5 ?_
  refine s_isub d_Reader_isGlued_6 ?_
  refine s_callV (as := [aI ((σ.1 12 6) - 1)]) (ci := 5) d_Reader_isGlued_7 ok_Reader_byteAt lk_Reader_172 io_Reader_byteAt so_Reader_byteAt (by decide) rfl rfl rfl (Nat.le_of_ble_eq_true rfl) rfl (sf_12 hF) (WM.mono h ?_)
  rintro _ σ1 ⟨v1, rfl, hp, h⟩
  obtain ⟨hF1, h⟩ := h
  show WP E m_Reader_isGlued (d + 1) 10 [(0, aP 12)] [aI v1] σ1 Q
  refine s_callS (as := [aI v1]) d_Reader_isGlued_10 ok_Reader_isSmallLetter lk_Reader_193 to_Reader_isSmallLetter rfl (Nat.le_of_ble_eq_true rfl) rfl (WM.mono h ?_)
  rintro _ σ2 ⟨v2, rfl, hp, h⟩
  obtain ⟨hF2, h⟩ := h
  show WP E m_Reader_isGlued (d + 1) 13 [(0, aP 12)] [aI v2] σ2 Q
  obtain ⟨g3, h⟩ := h
  refine s_if_ne d_Reader_isGlued_13 rfl g3 (fun c => ?_) (fun c => ?_)
  · have h := h.1 c
    refine s_iconst d_Reader_isGlued_32 ?_
    refine s_goto d_Reader_isGlued_33 rfl ?_
    exact s_zreturn d_Reader_isGlued_37 rfl (by decide) h
  · have h := h.2 c
    refine s_aload_n 0 d_Reader_isGlued_16 rfl rfl ?_
    refine s_aload_n 0 d_Reader_isGlued_17 rfl rfl ?_
    refine s_getF (v := σ2.1 12 6) d_Reader_isGlued_18 fl_Reader_41 rfl (sf_12 hF2) rfl ?_
    refine s_iconst d_Reader_isGlued_21 ?_
    refine s_isub d_Reader_isGlued_22 ?_
    refine s_callV (as := [aI ((σ2.1 12 6) - 1)]) (ci := 5) d_Reader_isGlued_23 ok_Reader_byteAt lk_Reader_172 io_Reader_byteAt so_Reader_byteAt (by decide) rfl rfl rfl (Nat.le_of_ble_eq_true rfl) rfl (sf_12 hF2) (WM.mono h ?_)
    rintro _ σ4 ⟨v4, rfl, hp, h⟩
    show WP E m_Reader_isGlued (d + 1) 26 [(0, aP 12)] [aI v4] σ4 Q
    refine s_callS (as := [aI v4]) d_Reader_isGlued_26 ok_Reader_isDigit lk_Reader_190 to_Reader_isDigit rfl (Nat.le_of_ble_eq_true rfl) rfl (WM.mono h ?_)
    rintro _ σ5 ⟨v5, rfl, hp, h⟩
    show WP E m_Reader_isGlued (d + 1) 29 [(0, aP 12)] [aI v5] σ5 Q
    obtain ⟨g6, h⟩ := h
    refine s_if_eq d_Reader_isGlued_29 rfl g6 (fun c => ?_) (fun c => ?_)
    · have h := h.1 c
      refine s_iconst d_Reader_isGlued_36 ?_
      exact s_zreturn d_Reader_isGlued_37 rfl (by decide) h
    · have h := h.2 c
      refine s_iconst d_Reader_isGlued_32 ?_
      refine s_goto d_Reader_isGlued_33 rfl ?_
      exact s_zreturn d_Reader_isGlued_37 rfl (by decide) h
theorem e_Reader_isGlued {E : EV} {d : Nat} {Q : Option AV → St → Prop} {σ : St} (hF : Fix σ) (h : (WMi E m_Reader_byteAt d [aP 12, aI ((σ.1 12 6) - 1)] σ (fun v1 σ1 => Fix σ1 ∧ (WMi E m_Reader_isSmallLetter d [aI v1] σ1 (fun v2 σ2 => Fix σ2 ∧ (rI v2) ∧ ((¬ v2 = 0 → Q (some (aI 1)) σ2) ∧ (v2 = 0 → (WMi E m_Reader_byteAt d [aP 12, aI ((σ2.1 12 6) - 1)] σ2 (fun v4 σ4 => (WMi E m_Reader_isDigit d [aI v4] σ4 (fun v5 σ5 => (rI v5) ∧ ((v5 = 0 → Q (some (aI 0)) σ5) ∧ (¬ v5 = 0 → Q (some (aI 1)) σ5))))))))))))) : WM E m_Reader_isGlued (d + 1) [aP 12] σ Q := s_meth (by decide) (Nat.le_of_ble_eq_true rfl) rfl (b_Reader_isGlued_0 hF h)
theorem d_Reader_isSmallLetter_0 : decode m_Reader_isSmallLetter.2.1 0 = .ok (.iload_n 0, 1) := by decide +kernel
theorem d_Reader_isSmallLetter_1 : decode m_Reader_isSmallLetter.2.1 1 = .ok (.bipush 97, 2) := by decide +kernel
theorem d_Reader_isSmallLetter_3 : decode m_Reader_isSmallLetter.2.1 3 = .ok (.if_icmp .lt 13, 3) := by decide +kernel
theorem d_Reader_isSmallLetter_6 : decode m_Reader_isSmallLetter.2.1 6 = .ok (.iload_n 0, 1) := by decide +kernel
theorem d_Reader_isSmallLetter_7 : decode m_Reader_isSmallLetter.2.1 7 = .ok (.bipush 122, 2) := by decide +kernel
theorem d_Reader_isSmallLetter_9 : decode m_Reader_isSmallLetter.2.1 9 = .ok (.if_icmp .gt 7, 3) := by decide +kernel
theorem d_Reader_isSmallLetter_12 : decode m_Reader_isSmallLetter.2.1 12 = .ok (.iconst 1, 1) := by decide +kernel
theorem d_Reader_isSmallLetter_13 : decode m_Reader_isSmallLetter.2.1 13 = .ok (.goto 4, 3) := by decide +kernel
theorem d_Reader_isSmallLetter_16 : decode m_Reader_isSmallLetter.2.1 16 = .ok (.iconst 0, 1) := by decide +kernel
theorem d_Reader_isSmallLetter_17 : decode m_Reader_isSmallLetter.2.1 17 = .ok (.ireturn, 1) := by decide +kernel
theorem b_Reader_isSmallLetter_0 {E : EV} {d : Nat} {Q : Option AV → St → Prop} {σ : St} (x0 : Int) (h : (rI x0) ∧ ((x0 < 97 → Q (some (aI 0)) σ) ∧ (¬ x0 < 97 → (rI x0) ∧ ((122 < x0 → Q (some (aI 0)) σ) ∧ (¬ 122 < x0 → Q (some (aI 1)) σ))))) : WP E m_Reader_isSmallLetter d 0 [(0, aI x0)] [] σ Q := by
  refine s_iload_n 0 d_Reader_isSmallLetter_0 rfl rfl ?_
  refine s_bipush d_Reader_isSmallLetter_1 (by decide) ?_
  obtain ⟨g1, h⟩ := h
  refine s_icmp_lt d_Reader_isSmallLetter_3 rfl g1 (by decide) (fun c => ?_) (fun c => ?_)
  · have h := h.1 c
    refine s_iconst d_Reader_isSmallLetter_16 ?_
    exact s_zreturn d_Reader_isSmallLetter_17 rfl (by decide) h
  · have h := h.2 c
    refine s_iload_n 0 d_Reader_isSmallLetter_6 rfl rfl ?_
    refine s_bipush d_Reader_isSmallLetter_7 (by decide) ?_
    obtain ⟨g2, h⟩ := h
    refine s_icmp_gt d_Reader_isSmallLetter_9 rfl g2 (by decide) (fun c => ?_) (fun c => ?_)
    · have h := h.1 c
      refine s_iconst d_Reader_isSmallLetter_16 ?_
      exact s_zreturn d_Reader_isSmallLetter_17 rfl (by decide) h
    · have h := h.2 c
      refine s_iconst d_Reader_isSmallLetter_12 ?_
      refine s_goto d_Reader_isSmallLetter_13 rfl ?_
      exact s_zreturn d_Reader_isSmallLetter_17 rfl (by decide) h
theorem e_Reader_isSmallLetter {E : EV} {d : Nat} {Q : Option AV → St → Prop} {σ : St} (x0 : Int) (h : (rI x0) ∧ ((x0 < 97 → Q (some (aI 0)) σ) ∧ (¬ x0 < 97 → (rI x0) ∧ ((122 < x0 → Q (some (aI 0)) σ) ∧ (¬ 122 < x0 → Q (some (aI 1)) σ))))) : WM E m_Reader_isSmallLetter d [aI x0] σ Q := s_meth (by decide) (Nat.le_of_ble_eq_true rfl) rfl (b_Reader_isSmallLetter_0 x0 h)
theorem d_Reader_isDigit_0 : decode m_Reader_isDigit.2.1 0 = .ok (.iload_n 0, 1) := by decide +kernel
theorem d_Reader_isDigit_1 : decode m_Reader_isDigit.2.1 1 = .ok (.bipush 48, 2) := by decide +kernel
theorem d_Reader_isDigit_3 : decode m_Reader_isDigit.2.1 3 = .ok (.if_icmp .lt 13, 3) := by decide +kernel
theorem d_Reader_isDigit_6 : decode m_Reader_isDigit.2.1 6 = .ok (.iload_n 0, 1) := by decide +kernel
theorem d_Reader_isDigit_7 : decode m_Reader_isDigit.2.1 7 = .ok (.bipush 57, 2) := by decide +kernel
theorem d_Reader_isDigit_9 : decode m_Reader_isDigit.2.1 9 = .ok (.if_icmp .gt 7, 3) := by decide +kernel
theorem d_Reader_isDigit_12 : decode m_Reader_isDigit.2.1 12 = .ok (.iconst 1, 1) := by decide +kernel
theorem d_Reader_isDigit_13 : decode m_Reader_isDigit.2.1 13 = .ok (.goto 4, 3) := by decide +kernel
theorem d_Reader_isDigit_16 : decode m_Reader_isDigit.2.1 16 = .ok (.iconst 0, 1) := by decide +kernel
theorem d_Reader_isDigit_17 : decode m_Reader_isDigit.2.1 17 = .ok (.ireturn, 1) := by decide +kernel
theorem b_Reader_isDigit_0 {E : EV} {d : Nat} {Q : Option AV → St → Prop} {σ : St} (x0 : Int) (h : (rI x0) ∧ ((x0 < 48 → Q (some (aI 0)) σ) ∧ (¬ x0 < 48 → (rI x0) ∧ ((57 < x0 → Q (some (aI 0)) σ) ∧ (¬ 57 < x0 → Q (some (aI 1)) σ))))) : WP E m_Reader_isDigit d 0 [(0, aI x0)] [] σ Q := by
  refine s_iload_n 0 d_Reader_isDigit_0 rfl rfl ?_
  refine s_bipush d_Reader_isDigit_1 (by decide) ?_
  obtain ⟨g1, h⟩ := h
  refine s_icmp_lt d_Reader_isDigit_3 rfl g1 (by decide) (fun c => ?_) (fun c => ?_)
  · have h := h.1 c
    refine s_iconst d_Reader_isDigit_16 ?_
    exact s_zreturn d_Reader_isDigit_17 rfl (by decide) h
  · have h := h.2 c
    refine s_iload_n 0 d_Reader_isDigit_6 rfl rfl ?_
    refine s_bipush d_Reader_isDigit_7 (by decide) ?_
    obtain ⟨g2, h⟩ := h
    refine s_icmp_gt d_Reader_isDigit_9 rfl g2 (by decide) (fun c => ?_) (fun c => ?_)
    · have h := h.1 c
      refine s_iconst d_Reader_isDigit_16 ?_
      exact s_zreturn d_Reader_isDigit_17 rfl (by decide) h
    · have h := h.2 c
      refine s_iconst d_Reader_isDigit_12 ?_
      refine s_goto d_Reader_isDigit_13 rfl ?_
      exact s_zreturn d_Reader_isDigit_17 rfl (by decide) h
theorem e_Reader_isDigit {E : EV} {d : Nat} {Q : Option AV → St → Prop} {σ : St} (x0 : Int) (h : (rI x0) ∧ ((x0 < 48 → Q (some (aI 0)) σ) ∧ (¬ x0 < 48 → (rI x0) ∧ ((57 < x0 → Q (some (aI 0)) σ) ∧ (¬ 57 < x0 → Q (some (aI 1)) σ))))) : WM E m_Reader_isDigit d [aI x0] σ Q := s_meth (by decide) (Nat.le_of_ble_eq_true rfl) rfl (b_Reader_isDigit_0 x0 h)
theorem d_Reader_wordEnd_0 : decode m_Reader_wordEnd.2.1 0 = .ok (.aload_n 0, 1) := by decide +kernel
theorem d_Reader_wordEnd_1 : decode m_Reader_wordEnd.2.1 1 = .ok (.getfield 41, 3) := by decide +kernel
theorem d_Reader_wordEnd_4 : decode m_Reader_wordEnd.2.1 4 = .ok (.istore_n 1, 1) := by decide +kernel
theorem d_Reader_wordEnd_5 : decode m_Reader_wordEnd.2.1 5 = .ok (.iload_n 1, 1) := by decide +kernel
theorem d_Reader_wordEnd_6 : decode m_Reader_wordEnd.2.1 6 = .ok (.aload_n 0, 1) := by decide +kernel
theorem d_Reader_wordEnd_7 : decode m_Reader_wordEnd.2.1 7 = .ok (.getfield 38, 3) := by decide +kernel
theorem d_Reader_wordEnd_10 : decode m_Reader_wordEnd.2.1 10 = .ok (.if_icmp .ge 20, 3) := by decide +kernel
theorem d_Reader_wordEnd_13 : decode m_Reader_wordEnd.2.1 13 = .ok (.aload_n 0, 1) := by decide +kernel
theorem d_Reader_wordEnd_14 : decode m_Reader_wordEnd.2.1 14 = .ok (.iload_n 1, 1) := by decide +kernel
theorem d_Reader_wordEnd_15 : decode m_Reader_wordEnd.2.1 15 = .ok (.invokevirtual 172, 3) := by decide +kernel
theorem d_Reader_wordEnd_18 : decode m_Reader_wordEnd.2.1 18 = .ok (.invokestatic 193, 3) := by decide +kernel
theorem d_Reader_wordEnd_21 : decode m_Reader_wordEnd.2.1 21 = .ok (.ifCond .eq 9, 3) := by decide +kernel
theorem d_Reader_wordEnd_24 : decode m_Reader_wordEnd.2.1 24 = .ok (.iinc 1 1, 3) := by decide +kernel
theorem d_Reader_wordEnd_27 : decode m_Reader_wordEnd.2.1 27 = .ok (.goto (-22), 3) := by decide +kernel
theorem d_Reader_wordEnd_30 : decode m_Reader_wordEnd.2.1 30 = .ok (.iload_n 1, 1) := by decide +kernel
theorem d_Reader_wordEnd_31 : decode m_Reader_wordEnd.2.1 31 = .ok (.ireturn, 1) := by decide +kernel
theorem b_Reader_wordEnd_0 {E : EV} {d : Nat} {Q : Option AV → St → Prop} {σ : St} (hF : Fix σ) (h : WP E m_Reader_wordEnd (d + 1) 5 [(0, aP 12), (1, aI (σ.1 12 6))] [] σ Q) : WP E m_Reader_wordEnd (d + 1) 0 [(0, aP 12)] [] σ Q := by
  refine s_aload_n 0 d_Reader_wordEnd_0 rfl rfl ?_
  refine s_getF (v := σ.1 12 6) d_Reader_wordEnd_1 fl_Reader_41 rfl (sf_12 hF) rfl ?_
  refine s_istore_n d_Reader_wordEnd_4 rfl (by decide) rfl ?_
  refine wp_drop [1, 0] rfl ?_
  exact h
theorem e_Reader_wordEnd {E : EV} {d : Nat} {Q : Option AV → St → Prop} {σ : St} (hF : Fix σ) (h : WP E m_Reader_wordEnd (d + 1) 5 [(0, aP 12), (1, aI (σ.1 12 6))] [] σ Q) : WM E m_Reader_wordEnd (d + 1) [aP 12] σ Q := s_meth (by decide) (Nat.le_of_ble_eq_true rfl) rfl (b_Reader_wordEnd_0 hF h)
theorem b_Reader_wordEnd_5 {E : EV} {d : Nat} {Q : Option AV → St → Prop} {σ : St} (x1 : Int) (hF : Fix σ) (h : (rI x1) ∧ (rI (σ.1 12 5)) ∧ (((σ.1 12 5) ≤ x1 → Q (some (aI x1)) σ) ∧ (¬ (σ.1 12 5) ≤ x1 → (WMi E m_Reader_byteAt d [aP 12, aI x1] σ (fun v3 σ3 => (WMi E m_Reader_isSmallLetter d [aI v3] σ3 (fun v4 σ4 => (rI v4) ∧ ((v4 = 0 → Q (some (aI x1)) σ4) ∧ (¬ v4 = 0 → WP E m_Reader_wordEnd (d + 1) 5 [(0, aP 12), (1, aI (x1 + 1))] [] σ4 Q))))))))) : WP E m_Reader_wordEnd (d + 1) 5 [(0, aP 12), (1, aI x1)] [] σ Q := by
  refine s_iload_n 1 d_Reader_wordEnd_5 rfl rfl ?_
  refine s_aload_n 0 d_Reader_wordEnd_6 rfl rfl ?_
  refine s_getF (v := σ.1 12 5) d_Reader_wordEnd_7 fl_Reader_38 rfl (sf_12 hF) rfl ?_
  obtain ⟨g1, h⟩ := h
  obtain ⟨g2, h⟩ := h
  refine s_icmp_ge d_Reader_wordEnd_10 rfl g1 g2 (fun c => ?_) (fun c => ?_)
  · have h := h.1 c
    refine s_iload_n 1 d_Reader_wordEnd_30 rfl rfl ?_
    exact s_ireturn d_Reader_wordEnd_31 rfl h
  · have h := h.2 c
    refine s_aload_n 0 d_Reader_wordEnd_13 rfl rfl ?_
    refine s_iload_n 1 d_Reader_wordEnd_14 rfl rfl ?_
    refine s_callV (as := [aI x1]) (ci := 5) d_Reader_wordEnd_15 ok_Reader_byteAt lk_Reader_172 io_Reader_byteAt so_Reader_byteAt (by decide) rfl rfl rfl (Nat.le_of_ble_eq_true rfl) rfl (sf_12 hF) (WM.mono h ?_)
    rintro _ σ3 ⟨v3, rfl, hp, h⟩
    show WP E m_Reader_wordEnd (d + 1) 18 [(0, aP 12), (1, aI x1)] [aI v3] σ3 Q
    refine s_callS (as := [aI v3]) d_Reader_wordEnd_18 ok_Reader_isSmallLetter lk_Reader_193 to_Reader_isSmallLetter rfl (Nat.le_of_ble_eq_true rfl) rfl (WM.mono h ?_)
    rintro _ σ4 ⟨v4, rfl, hp, h⟩
    show WP E m_Reader_wordEnd (d + 1) 21 [(0, aP 12), (1, aI x1)] [aI v4] σ4 Q
    obtain ⟨g5, h⟩ := h
    refine s_if_eq d_Reader_wordEnd_21 rfl g5 (fun c => ?_) (fun c => ?_)
    · have h := h.1 c
      refine s_iload_n 1 d_Reader_wordEnd_30 rfl rfl ?_
      exact s_ireturn d_Reader_wordEnd_31 rfl h
    · have h := h.2 c
      refine s_iinc 1 d_Reader_wordEnd_24 rfl (by decide) rfl ?_
      refine s_goto d_Reader_wordEnd_27 rfl ?_
      refine wp_drop [1, 0] rfl ?_
      exact h
theorem d_Reader_readNumber_0 : decode m_Reader_readNumber.2.1 0 = .ok (.aload_n 0, 1) := by decide +kernel
theorem d_Reader_readNumber_1 : decode m_Reader_readNumber.2.1 1 = .ok (.invokevirtual 77, 3) := by decide +kernel
theorem d_Reader_readNumber_4 : decode m_Reader_readNumber.2.1 4 = .ok (.pop, 1) := by decide +kernel
theorem d_Reader_readNumber_5 : decode m_Reader_readNumber.2.1 5 = .ok (.aload_n 0, 1) := by decide +kernel
theorem d_Reader_readNumber_6 : decode m_Reader_readNumber.2.1 6 = .ok (.getfield 41, 3) := by decide +kernel
theorem d_Reader_readNumber_9 : decode m_Reader_readNumber.2.1 9 = .ok (.istore_n 3, 1) := by decide +kernel
theorem d_Reader_readNumber_10 : decode m_Reader_readNumber.2.1 10 = .ok (.iconst 0, 1) := by decide +kernel
theorem d_Reader_readNumber_11 : decode m_Reader_readNumber.2.1 11 = .ok (.istore 4, 2) := by decide +kernel
theorem d_Reader_readNumber_13 : decode m_Reader_readNumber.2.1 13 = .ok (.iload_n 3, 1) := by decide +kernel
theorem d_Reader_readNumber_14 : decode m_Reader_readNumber.2.1 14 = .ok (.aload_n 0, 1) := by decide +kernel
theorem d_Reader_readNumber_15 : decode m_Reader_readNumber.2.1 15 = .ok (.getfield 38, 3) := by decide +kernel
theorem d_Reader_readNumber_18 : decode m_Reader_readNumber.2.1 18 = .ok (.if_icmp .ge 42, 3) := by decide +kernel
theorem d_Reader_readNumber_21 : decode m_Reader_readNumber.2.1 21 = .ok (.aload_n 0, 1) := by decide +kernel
theorem d_Reader_readNumber_22 : decode m_Reader_readNumber.2.1 22 = .ok (.iload_n 3, 1) := by decide +kernel
theorem d_Reader_readNumber_23 : decode m_Reader_readNumber.2.1 23 = .ok (.invokevirtual 172, 3) := by decide +kernel
theorem d_Reader_readNumber_26 : decode m_Reader_readNumber.2.1 26 = .ok (.invokestatic 190, 3) := by decide +kernel
theorem d_Reader_readNumber_29 : decode m_Reader_readNumber.2.1 29 = .ok (.ifCond .eq 31, 3) := by decide +kernel
theorem d_Reader_readNumber_32 : decode m_Reader_readNumber.2.1 32 = .ok (.sipush 1000, 3) := by decide +kernel
theorem d_Reader_readNumber_35 : decode m_Reader_readNumber.2.1 35 = .ok (.iload 4, 2) := by decide +kernel
theorem d_Reader_readNumber_37 : decode m_Reader_readNumber.2.1 37 = .ok (.bipush 10, 2) := by decide +kernel
theorem d_Reader_readNumber_39 : decode m_Reader_readNumber.2.1 39 = .ok (.imul, 1) := by decide +kernel
theorem d_Reader_readNumber_40 : decode m_Reader_readNumber.2.1 40 = .ok (.aload_n 0, 1) := by decide +kernel
theorem d_Reader_readNumber_41 : decode m_Reader_readNumber.2.1 41 = .ok (.iload_n 3, 1) := by decide +kernel
theorem d_Reader_readNumber_42 : decode m_Reader_readNumber.2.1 42 = .ok (.invokevirtual 172, 3) := by decide +kernel
theorem d_Reader_readNumber_45 : decode m_Reader_readNumber.2.1 45 = .ok (.iadd, 1) := by decide +kernel
theorem d_Reader_readNumber_46 : decode m_Reader_readNumber.2.1 46 = .ok (.bipush 48, 2) := by decide +kernel
theorem d_Reader_readNumber_48 : decode m_Reader_readNumber.2.1 48 = .ok (.isub, 1) := by decide +kernel
theorem d_Reader_readNumber_49 : decode m_Reader_readNumber.2.1 49 = .ok (.invokestatic 63, 3) := by decide +kernel
theorem d_Reader_readNumber_52 : decode m_Reader_readNumber.2.1 52 = .ok (.istore 4, 2) := by decide +kernel
theorem d_Reader_readNumber_54 : decode m_Reader_readNumber.2.1 54 = .ok (.iinc 3 1, 3) := by decide +kernel
theorem d_Reader_readNumber_57 : decode m_Reader_readNumber.2.1 57 = .ok (.goto (-44), 3) := by decide +kernel
theorem d_Reader_readNumber_60 : decode m_Reader_readNumber.2.1 60 = .ok (.aload_n 0, 1) := by decide +kernel
theorem d_Reader_readNumber_61 : decode m_Reader_readNumber.2.1 61 = .ok (.invokevirtual 176, 3) := by decide +kernel
theorem d_Reader_readNumber_64 : decode m_Reader_readNumber.2.1 64 = .ok (.ifCond .ne 33, 3) := by decide +kernel
theorem d_Reader_readNumber_67 : decode m_Reader_readNumber.2.1 67 = .ok (.iload_n 3, 1) := by decide +kernel
theorem d_Reader_readNumber_68 : decode m_Reader_readNumber.2.1 68 = .ok (.aload_n 0, 1) := by decide +kernel
theorem d_Reader_readNumber_69 : decode m_Reader_readNumber.2.1 69 = .ok (.getfield 41, 3) := by decide +kernel
theorem d_Reader_readNumber_72 : decode m_Reader_readNumber.2.1 72 = .ok (.if_icmp .eq 25, 3) := by decide +kernel
theorem d_Reader_readNumber_75 : decode m_Reader_readNumber.2.1 75 = .ok (.iload_n 3, 1) := by decide +kernel
theorem d_Reader_readNumber_76 : decode m_Reader_readNumber.2.1 76 = .ok (.aload_n 0, 1) := by decide +kernel
theorem d_Reader_readNumber_77 : decode m_Reader_readNumber.2.1 77 = .ok (.getfield 41, 3) := by decide +kernel
theorem d_Reader_readNumber_80 : decode m_Reader_readNumber.2.1 80 = .ok (.isub, 1) := by decide +kernel
theorem d_Reader_readNumber_81 : decode m_Reader_readNumber.2.1 81 = .ok (.iconst 2, 1) := by decide +kernel
theorem d_Reader_readNumber_82 : decode m_Reader_readNumber.2.1 82 = .ok (.if_icmp .gt 15, 3) := by decide +kernel
theorem d_Reader_readNumber_85 : decode m_Reader_readNumber.2.1 85 = .ok (.iload 4, 2) := by decide +kernel
theorem d_Reader_readNumber_87 : decode m_Reader_readNumber.2.1 87 = .ok (.iload_n 1, 1) := by decide +kernel
theorem d_Reader_readNumber_88 : decode m_Reader_readNumber.2.1 88 = .ok (.if_icmp .lt 9, 3) := by decide +kernel
theorem d_Reader_readNumber_91 : decode m_Reader_readNumber.2.1 91 = .ok (.iload 4, 2) := by decide +kernel
theorem d_Reader_readNumber_93 : decode m_Reader_readNumber.2.1 93 = .ok (.iload_n 2, 1) := by decide +kernel
theorem d_Reader_readNumber_94 : decode m_Reader_readNumber.2.1 94 = .ok (.if_icmp .le 5, 3) := by decide +kernel
theorem d_Reader_readNumber_97 : decode m_Reader_readNumber.2.1 97 = .ok (.iconst (-1), 1) := by decide +kernel
theorem d_Reader_readNumber_98 : decode m_Reader_readNumber.2.1 98 = .ok (.ireturn, 1) := by decide +kernel
theorem d_Reader_readNumber_99 : decode m_Reader_readNumber.2.1 99 = .ok (.aload_n 0, 1) := by decide +kernel
theorem d_Reader_readNumber_100 : decode m_Reader_readNumber.2.1 100 = .ok (.iload_n 3, 1) := by decide +kernel
theorem d_Reader_readNumber_101 : decode m_Reader_readNumber.2.1 101 = .ok (.putfield 41, 3) := by decide +kernel
theorem d_Reader_readNumber_104 : decode m_Reader_readNumber.2.1 104 = .ok (.iload 4, 2) := by decide +kernel
theorem d_Reader_readNumber_106 : decode m_Reader_readNumber.2.1 106 = .ok (.ireturn, 1) := by decide +kernel
theorem b_Reader_readNumber_0 {E : EV} {d : Nat} {Q : Option AV → St → Prop} {σ : St} (x1 x2 : Int) (hF : Fix σ) (h : (WMi E m_Reader_next d [aP 12] σ (fun v1 σ1 => Fix σ1 ∧ WP E m_Reader_readNumber (d + 1) 13 [(0, aP 12), (1, aI x1), (2, aI x2), (3, aI (σ1.1 12 6)), (4, aI 0)] [] σ1 Q))) : WP E m_Reader_readNumber (d + 1) 0 [(0, aP 12), (1, aI x1), (2, aI x2)] [] σ Q := by
  refine s_aload_n 0 d_Reader_readNumber_0 rfl rfl ?_
  refine s_callV (as := []) (ci := 5) d_Reader_readNumber_1 ok_Reader_next lk_Reader_77 io_Reader_next so_Reader_next (by decide) rfl rfl rfl (Nat.le_of_ble_eq_true rfl) rfl (sf_12 hF) (WM.mono h ?_)
  rintro _ σ1 ⟨v1, rfl, hp, h⟩
  obtain ⟨hF1, h⟩ := h
  show WP E m_Reader_readNumber (d + 1) 4 [(0, aP 12), (1, aI x1), (2, aI x2)] [aI v1] σ1 Q
  refine s_pop d_Reader_readNumber_4 (Nat.ne_of_beq_eq_false rfl) ?_
  refine s_aload_n 0 d_Reader_readNumber_5 rfl rfl ?_
  refine s_getF (v := σ1.1 12 6) d_Reader_readNumber_6 fl_Reader_41 rfl (sf_12 hF1) rfl ?_
  refine s_istore_n d_Reader_readNumber_9 rfl (by decide) rfl ?_
  refine s_iconst d_Reader_readNumber_10 ?_
  refine s_istore d_Reader_readNumber_11 (by decide) rfl ?_
  refine wp_drop [2, 3, 4, 1, 0] rfl ?_
  exact h
theorem e_Reader_readNumber {E : EV} {d : Nat} {Q : Option AV → St → Prop} {σ : St} (x1 x2 : Int) (hF : Fix σ) (h : (WMi E m_Reader_next d [aP 12] σ (fun v1 σ1 => Fix σ1 ∧ WP E m_Reader_readNumber (d + 1) 13 [(0, aP 12), (1, aI x1), (2, aI x2), (3, aI (σ1.1 12 6)), (4, aI 0)] [] σ1 Q))) : WM E m_Reader_readNumber (d + 1) [aP 12, aI x1, aI x2] σ Q := s_meth (by decide) (Nat.le_of_ble_eq_true rfl) rfl (b_Reader_readNumber_0 x1 x2 hF h)
theorem b_Reader_readNumber_13 {E : EV} {d : Nat} {Q : Option AV → St → Prop} {σ : St} (x1 x2 x3 x4 : Int) (hF : Fix σ) (h : (rI x3) ∧ (rI (σ.1 12 5)) ∧ (((σ.1 12 5) ≤ x3 → WP E m_Reader_readNumber (d + 1) 60 [(0, aP 12), (1, aI x1), (2, aI x2), (3, aI x3), (4, aI x4)] [] σ Q) ∧ (¬ (σ.1 12 5) ≤ x3 → (WMi E m_Reader_byteAt d [aP 12, aI x3] σ (fun v3 σ3 => Fix σ3 ∧ (WMi E m_Reader_isDigit d [aI v3] σ3 (fun v4 σ4 => Fix σ4 ∧ (rI v4) ∧ ((v4 = 0 → WP E m_Reader_readNumber (d + 1) 60 [(0, aP 12), (1, aI x1), (2, aI x2), (3, aI x3), (4, aI x4)] [] σ4 Q) ∧ (¬ v4 = 0 → (WMi E m_Reader_byteAt d [aP 12, aI x3] σ4 (fun v6 σ6 => (rI (((x4 * 10) + v6) - 48)) ∧ WP E m_Reader_readNumber (d + 1) 13 [(0, aP 12), (1, aI x1), (2, aI x2), (3, aI (x3 + 1)), (4, aI (min 1000 (((x4 * 10) + v6) - 48)))] [] σ6 Q))))))))))) : WP E m_Reader_readNumber (d + 1) 13 [(0, aP 12), (1, aI x1), (2, aI x2), (3, aI x3), (4, aI x4)] [] σ Q := by
  refine s_iload_n 3 d_Reader_readNumber_13 rfl rfl ?_
  refine s_aload_n 0 d_Reader_readNumber_14 rfl rfl ?_
  refine s_getF (v := σ.1 12 5) d_Reader_readNumber_15 fl_Reader_38 rfl (sf_12 hF) rfl ?_
  obtain ⟨g1, h⟩ := h
  obtain ⟨g2, h⟩ := h
  refine s_icmp_ge d_Reader_readNumber_18 rfl g1 g2 (fun c => ?_) (fun c => ?_)
  · have h := h.1 c
    exact h
  · have h := h.2 c
    refine s_aload_n 0 d_Reader_readNumber_21 rfl rfl ?_
    refine s_iload_n 3 d_Reader_readNumber_22 rfl rfl ?_
    refine s_callV (as := [aI x3]) (ci := 5) d_Reader_readNumber_23 ok_Reader_byteAt lk_Reader_172 io_Reader_byteAt so_Reader_byteAt (by decide) rfl rfl rfl (Nat.le_of_ble_eq_true rfl) rfl (sf_12 hF) (WM.mono h ?_)
    rintro _ σ3 ⟨v3, rfl, hp, h⟩
    obtain ⟨hF3, h⟩ := h
    show WP E m_Reader_readNumber (d + 1) 26 [(0, aP 12), (1, aI x1), (2, aI x2), (3, aI x3), (4, aI x4)] [aI v3] σ3 Q
    refine s_callS (as := [aI v3]) d_Reader_readNumber_26 ok_Reader_isDigit lk_Reader_190 to_Reader_isDigit rfl (Nat.le_of_ble_eq_true rfl) rfl (WM.mono h ?_)
    rintro _ σ4 ⟨v4, rfl, hp, h⟩
    obtain ⟨hF4, h⟩ := h
    show WP E m_Reader_readNumber (d + 1) 29 [(0, aP 12), (1, aI x1), (2, aI x2), (3, aI x3), (4, aI x4)] [aI v4] σ4 Q
    obtain ⟨g5, h⟩ := h
    refine s_if_eq d_Reader_readNumber_29 rfl g5 (fun c => ?_) (fun c => ?_)
    · have h := h.1 c
      exact h
    · have h := h.2 c
      refine s_sipush d_Reader_readNumber_32 (by decide) ?_
      refine s_iload 4 d_Reader_readNumber_35 rfl ?_
      refine s_bipush d_Reader_readNumber_37 (by decide) ?_
      refine s_imul d_Reader_readNumber_39 ?_
      refine s_aload_n 0 d_Reader_readNumber_40 rfl rfl ?_
      refine s_iload_n 3 d_Reader_readNumber_41 rfl rfl ?_
      refine s_callV (as := [aI x3]) (ci := 5) d_Reader_readNumber_42 ok_Reader_byteAt lk_Reader_172 io_Reader_byteAt so_Reader_byteAt (by decide) rfl rfl rfl (Nat.le_of_ble_eq_true rfl) rfl (sf_12 hF4) (WM.mono h ?_)
      rintro _ σ6 ⟨v6, rfl, hp, h⟩
      show WP E m_Reader_readNumber (d + 1) 45 [(0, aP 12), (1, aI x1), (2, aI x2), (3, aI x3), (4, aI x4)] [aI v6, aI (x4 * 10), aI 1000] σ6 Q
      refine s_iadd d_Reader_readNumber_45 ?_
      refine s_bipush d_Reader_readNumber_46 (by decide) ?_
      refine s_isub d_Reader_readNumber_48 ?_
      obtain ⟨g7, h⟩ := h
      refine s_mmin d_Reader_readNumber_49 lm_Reader_63 lm_min_s lm_i lm_min_c (Nat.le_of_ble_eq_true rfl) (by decide) g7 ?_
      refine s_istore d_Reader_readNumber_52 (by decide) rfl ?_
      refine s_iinc 4 d_Reader_readNumber_54 rfl (by decide) rfl ?_
      refine s_goto d_Reader_readNumber_57 rfl ?_
      refine wp_drop [2, 3, 4, 0, 1] rfl ?_
      exact h
theorem b_Reader_readNumber_60 {E : EV} {d : Nat} {Q : Option AV → St → Prop} {σ : St} (x1 x2 x3 x4 : Int) (hF : Fix σ) (h : (WMi E m_Reader_isGlued d [aP 12] σ (fun v1 σ1 => Fix σ1 ∧ (rI v1) ∧ ((¬ v1 = 0 → Q (some (aI (-1))) σ1) ∧ (v1 = 0 → (rI x3) ∧ (rI (σ1.1 12 6)) ∧ ((x3 = (σ1.1 12 6) → Q (some (aI (-1))) σ1) ∧ (¬ x3 = (σ1.1 12 6) → (rI (x3 - (σ1.1 12 6))) ∧ ((2 < (x3 - (σ1.1 12 6)) → Q (some (aI (-1))) σ1) ∧ (¬ 2 < (x3 - (σ1.1 12 6)) → (rI x4) ∧ (rI x1) ∧ ((x4 < x1 → Q (some (aI (-1))) σ1) ∧ (¬ x4 < x1 → (rI x4) ∧ (rI x2) ∧ ((x4 ≤ x2 → Q (some (aI x4)) (wr σ1 12 6 x3)) ∧ (¬ x4 ≤ x2 → Q (some (aI (-1))) σ1))))))))))))) : WP E m_Reader_readNumber (d + 1) 60 [(0, aP 12), (1, aI x1), (2, aI x2), (3, aI x3), (4, aI x4)] [] σ Q := by
  refine s_aload_n 0 d_Reader_readNumber_60 rfl rfl ?_
  refine s_callV (as := []) (ci := 5) d_Reader_readNumber_61 ok_Reader_isGlued lk_Reader_176 io_Reader_isGlued so_Reader_isGlued (by decide) rfl rfl rfl (Nat.le_of_ble_eq_true rfl) rfl (sf_12 hF) (WM.mono h ?_)
  rintro _ σ1 ⟨v1, rfl, hp, h⟩
  obtain ⟨hF1, h⟩ := h
  show WP E m_Reader_readNumber (d + 1) 64 [(0, aP 12), (1, aI x1), (2, aI x2), (3, aI x3), (4, aI x4)] [aI v1] σ1 Q
  obtain ⟨g2, h⟩ := h
  refine s_if_ne d_Reader_readNumber_64 rfl g2 (fun c => ?_) (fun c => ?_)
  · have h := h.1 c
    refine s_iconst d_Reader_readNumber_97 ?_
    exact s_ireturn d_Reader_readNumber_98 rfl h
  · have h := h.2 c
    refine s_iload_n 3 d_Reader_readNumber_67 rfl rfl ?_
    refine s_aload_n 0 d_Reader_readNumber_68 rfl rfl ?_
    refine s_getF (v := σ1.1 12 6) d_Reader_readNumber_69 fl_Reader_41 rfl (sf_12 hF1) rfl ?_
    obtain ⟨g3, h⟩ := h
    obtain ⟨g4, h⟩ := h
    refine s_icmp_eq d_Reader_readNumber_72 rfl g3 g4 (fun c => ?_) (fun c => ?_)
    · have h := h.1 c
      refine s_iconst d_Reader_readNumber_97 ?_
      exact s_ireturn d_Reader_readNumber_98 rfl h
    · have h := h.2 c
      refine s_iload_n 3 d_Reader_readNumber_75 rfl rfl ?_
      refine s_aload_n 0 d_Reader_readNumber_76 rfl rfl ?_
      refine s_getF (v := σ1.1 12 6) d_Reader_readNumber_77 fl_Reader_41 rfl (sf_12 hF1) rfl ?_
      refine s_isub d_Reader_readNumber_80 ?_
      refine s_iconst d_Reader_readNumber_81 ?_
      obtain ⟨g5, h⟩ := h
      refine s_icmp_gt d_Reader_readNumber_82 rfl g5 (by decide) (fun c => ?_) (fun c => ?_)
      · have h := h.1 c
        refine s_iconst d_Reader_readNumber_97 ?_
        exact s_ireturn d_Reader_readNumber_98 rfl h
      · have h := h.2 c
        refine s_iload 4 d_Reader_readNumber_85 rfl ?_
        refine s_iload_n 1 d_Reader_readNumber_87 rfl rfl ?_
        obtain ⟨g6, h⟩ := h
        obtain ⟨g7, h⟩ := h
        refine s_icmp_lt d_Reader_readNumber_88 rfl g6 g7 (fun c => ?_) (fun c => ?_)
        · have h := h.1 c
          refine s_iconst d_Reader_readNumber_97 ?_
          exact s_ireturn d_Reader_readNumber_98 rfl h
        · have h := h.2 c
          refine s_iload 4 d_Reader_readNumber_91 rfl ?_
          refine s_iload_n 2 d_Reader_readNumber_93 rfl rfl ?_
          obtain ⟨g8, h⟩ := h
          obtain ⟨g9, h⟩ := h
          refine s_icmp_le d_Reader_readNumber_94 rfl g8 g9 (fun c => ?_) (fun c => ?_)
          · have h := h.1 c
            refine s_aload_n 0 d_Reader_readNumber_99 rfl rfl ?_
            refine s_iload_n 3 d_Reader_readNumber_100 rfl rfl ?_
            refine s_putf 6 rfl d_Reader_readNumber_101 fl_Reader_41 (fun C T h => by cases h; exact Or.inl rfl) rfl (Or.inl rfl) (fun h => nomatch h) (sf_12 hF1) ?_
            refine s_iload 4 d_Reader_readNumber_104 rfl ?_
            exact s_ireturn d_Reader_readNumber_106 rfl h
          · have h := h.2 c
            refine s_iconst d_Reader_readNumber_97 ?_
            exact s_ireturn d_Reader_readNumber_98 rfl h
theorem d_Reader_readTold_0 : decode m_Reader_readTold.2.1 0 = .ok (.aload_n 0, 1) := by decide +kernel
theorem d_Reader_readTold_1 : decode m_Reader_readTold.2.1 1 = .ok (.invokevirtual 105, 3) := by decide +kernel
theorem d_Reader_readTold_4 : decode m_Reader_readTold.2.1 4 = .ok (.istore_n 1, 1) := by decide +kernel
theorem d_Reader_readTold_5 : decode m_Reader_readTold.2.1 5 = .ok (.iload_n 1, 1) := by decide +kernel
theorem d_Reader_readTold_6 : decode m_Reader_readTold.2.1 6 = .ok (.iconst (-1), 1) := by decide +kernel
theorem d_Reader_readTold_7 : decode m_Reader_readTold.2.1 7 = .ok (.if_icmp .eq 26, 3) := by decide +kernel
theorem d_Reader_readTold_10 : decode m_Reader_readTold.2.1 10 = .ok (.aload_n 0, 1) := by decide +kernel
theorem d_Reader_readTold_11 : decode m_Reader_readTold.2.1 11 = .ok (.getfield 47, 3) := by decide +kernel
theorem d_Reader_readTold_14 : decode m_Reader_readTold.2.1 14 = .ok (.iload_n 1, 1) := by decide +kernel
theorem d_Reader_readTold_15 : decode m_Reader_readTold.2.1 15 = .ok (.invokevirtual 108, 3) := by decide +kernel
theorem d_Reader_readTold_18 : decode m_Reader_readTold.2.1 18 = .ok (.ifCond .ne 15, 3) := by decide +kernel
theorem d_Reader_readTold_21 : decode m_Reader_readTold.2.1 21 = .ok (.aload_n 0, 1) := by decide +kernel
theorem d_Reader_readTold_22 : decode m_Reader_readTold.2.1 22 = .ok (.getfield 47, 3) := by decide +kernel
theorem d_Reader_readTold_25 : decode m_Reader_readTold.2.1 25 = .ok (.invokevirtual 111, 3) := by decide +kernel
theorem d_Reader_readTold_28 : decode m_Reader_readTold.2.1 28 = .ok (.bipush 12, 2) := by decide +kernel
theorem d_Reader_readTold_30 : decode m_Reader_readTold.2.1 30 = .ok (.if_icmp .lt 5, 3) := by decide +kernel
theorem d_Reader_readTold_33 : decode m_Reader_readTold.2.1 33 = .ok (.iconst 0, 1) := by decide +kernel
theorem d_Reader_readTold_34 : decode m_Reader_readTold.2.1 34 = .ok (.ireturn, 1) := by decide +kernel
theorem d_Reader_readTold_35 : decode m_Reader_readTold.2.1 35 = .ok (.aload_n 0, 1) := by decide +kernel
theorem d_Reader_readTold_36 : decode m_Reader_readTold.2.1 36 = .ok (.dup, 1) := by decide +kernel
theorem d_Reader_readTold_37 : decode m_Reader_readTold.2.1 37 = .ok (.getfield 41, 3) := by decide +kernel
theorem d_Reader_readTold_40 : decode m_Reader_readTold.2.1 40 = .ok (.iconst 1, 1) := by decide +kernel
theorem d_Reader_readTold_41 : decode m_Reader_readTold.2.1 41 = .ok (.iadd, 1) := by decide +kernel
theorem d_Reader_readTold_42 : decode m_Reader_readTold.2.1 42 = .ok (.putfield 41, 3) := by decide +kernel
theorem d_Reader_readTold_45 : decode m_Reader_readTold.2.1 45 = .ok (.aload_n 0, 1) := by decide +kernel
theorem d_Reader_readTold_46 : decode m_Reader_readTold.2.1 46 = .ok (.iconst 1, 1) := by decide +kernel
theorem d_Reader_readTold_47 : decode m_Reader_readTold.2.1 47 = .ok (.bipush 12, 2) := by decide +kernel
theorem d_Reader_readTold_49 : decode m_Reader_readTold.2.1 49 = .ok (.invokevirtual 86, 3) := by decide +kernel
theorem d_Reader_readTold_52 : decode m_Reader_readTold.2.1 52 = .ok (.istore_n 2, 1) := by decide +kernel
theorem d_Reader_readTold_53 : decode m_Reader_readTold.2.1 53 = .ok (.iload_n 2, 1) := by decide +kernel
theorem d_Reader_readTold_54 : decode m_Reader_readTold.2.1 54 = .ok (.iconst (-1), 1) := by decide +kernel
theorem d_Reader_readTold_55 : decode m_Reader_readTold.2.1 55 = .ok (.if_icmp .ne 7, 3) := by decide +kernel
theorem d_Reader_readTold_58 : decode m_Reader_readTold.2.1 58 = .ok (.iconst (-1), 1) := by decide +kernel
theorem d_Reader_readTold_59 : decode m_Reader_readTold.2.1 59 = .ok (.goto 10, 3) := by decide +kernel
theorem d_Reader_readTold_62 : decode m_Reader_readTold.2.1 62 = .ok (.aload_n 0, 1) := by decide +kernel
theorem d_Reader_readTold_63 : decode m_Reader_readTold.2.1 63 = .ok (.iconst 1, 1) := by decide +kernel
theorem d_Reader_readTold_64 : decode m_Reader_readTold.2.1 64 = .ok (.bipush 12, 2) := by decide +kernel
theorem d_Reader_readTold_66 : decode m_Reader_readTold.2.1 66 = .ok (.invokevirtual 86, 3) := by decide +kernel
theorem d_Reader_readTold_69 : decode m_Reader_readTold.2.1 69 = .ok (.istore_n 3, 1) := by decide +kernel
theorem d_Reader_readTold_70 : decode m_Reader_readTold.2.1 70 = .ok (.iload_n 3, 1) := by decide +kernel
theorem d_Reader_readTold_71 : decode m_Reader_readTold.2.1 71 = .ok (.iconst (-1), 1) := by decide +kernel
theorem d_Reader_readTold_72 : decode m_Reader_readTold.2.1 72 = .ok (.if_icmp .ne 5, 3) := by decide +kernel
theorem d_Reader_readTold_75 : decode m_Reader_readTold.2.1 75 = .ok (.iconst 0, 1) := by decide +kernel
theorem d_Reader_readTold_76 : decode m_Reader_readTold.2.1 76 = .ok (.ireturn, 1) := by decide +kernel
theorem d_Reader_readTold_77 : decode m_Reader_readTold.2.1 77 = .ok (.aload_n 0, 1) := by decide +kernel
theorem d_Reader_readTold_78 : decode m_Reader_readTold.2.1 78 = .ok (.getfield 47, 3) := by decide +kernel
theorem d_Reader_readTold_81 : decode m_Reader_readTold.2.1 81 = .ok (.iload_n 1, 1) := by decide +kernel
theorem d_Reader_readTold_82 : decode m_Reader_readTold.2.1 82 = .ok (.iload_n 2, 1) := by decide +kernel
theorem d_Reader_readTold_83 : decode m_Reader_readTold.2.1 83 = .ok (.iload_n 3, 1) := by decide +kernel
theorem d_Reader_readTold_84 : decode m_Reader_readTold.2.1 84 = .ok (.invokevirtual 114, 3) := by decide +kernel
theorem d_Reader_readTold_87 : decode m_Reader_readTold.2.1 87 = .ok (.aload_n 0, 1) := by decide +kernel
theorem d_Reader_readTold_88 : decode m_Reader_readTold.2.1 88 = .ok (.ldc 118, 2) := by decide +kernel
theorem d_Reader_readTold_90 : decode m_Reader_readTold.2.1 90 = .ok (.invokevirtual 82, 3) := by decide +kernel
theorem d_Reader_readTold_93 : decode m_Reader_readTold.2.1 93 = .ok (.ifCond .eq 13, 3) := by decide +kernel
theorem d_Reader_readTold_96 : decode m_Reader_readTold.2.1 96 = .ok (.aload_n 0, 1) := by decide +kernel
theorem d_Reader_readTold_97 : decode m_Reader_readTold.2.1 97 = .ok (.iload_n 1, 1) := by decide +kernel
theorem d_Reader_readTold_98 : decode m_Reader_readTold.2.1 98 = .ok (.iload_n 2, 1) := by decide +kernel
theorem d_Reader_readTold_99 : decode m_Reader_readTold.2.1 99 = .ok (.iload_n 3, 1) := by decide +kernel
theorem d_Reader_readTold_100 : decode m_Reader_readTold.2.1 100 = .ok (.invokevirtual 120, 3) := by decide +kernel
theorem d_Reader_readTold_103 : decode m_Reader_readTold.2.1 103 = .ok (.ifCond .eq 7, 3) := by decide +kernel
theorem d_Reader_readTold_106 : decode m_Reader_readTold.2.1 106 = .ok (.iconst 1, 1) := by decide +kernel
theorem d_Reader_readTold_107 : decode m_Reader_readTold.2.1 107 = .ok (.goto 4, 3) := by decide +kernel
theorem d_Reader_readTold_110 : decode m_Reader_readTold.2.1 110 = .ok (.iconst 0, 1) := by decide +kernel
theorem d_Reader_readTold_111 : decode m_Reader_readTold.2.1 111 = .ok (.ireturn, 1) := by decide +kernel
theorem b_Reader_readTold_0 {E : EV} {d : Nat} {Q : Option AV → St → Prop} {σ : St} (hF : Fix σ) (h : (WMi E m_Reader_nextLetter d [aP 12] σ (fun v1 σ1 => Fix σ1 ∧ (rI v1) ∧ ((v1 = (-1) → Q (some (aI 0)) σ1) ∧ (¬ v1 = (-1) → (sh σ1 (σ1.1 12 7) = some (8, 4)) ∧ (WMi E m_Table_has d [aP (σ1.1 12 7), aI v1] σ1 (fun v3 σ3 => Fix σ3 ∧ (rI v3) ∧ ((¬ v3 = 0 → Q (some (aI 0)) σ3) ∧ (v3 = 0 → (sh σ3 (σ3.1 12 7) = some (8, 4)) ∧ (WMi E m_Table_told d [aP (σ3.1 12 7)] σ3 (fun v6 σ6 => Fix σ6 ∧ (rI v6) ∧ ((v6 < 12 → (WMi E m_Reader_readNumber d [aP 12, aI 1, aI 12] (wr σ6 12 6 ((σ6.1 12 6) + 1)) (fun v9 σ9 => Fix σ9 ∧ (rI v9) ∧ ((¬ v9 = (-1) → (WMi E m_Reader_readNumber d [aP 12, aI 1, aI 12] σ9 (fun v11 σ11 => WP E m_Reader_readTold (d + 1) 69 [(0, aP 12), (1, aI v1), (2, aI v9)] [aI v11] σ11 Q))) ∧ (v9 = (-1) → WP E m_Reader_readTold (d + 1) 69 [(0, aP 12), (1, aI v1), (2, aI v9)] [aI (-1)] σ9 Q))))) ∧ (¬ v6 < 12 → Q (some (aI 0)) σ6))))))))))))) : WP E m_Reader_readTold (d + 1) 0 [(0, aP 12)] [] σ Q := by
  refine s_aload_n 0 d_Reader_readTold_0 rfl rfl ?_
  refine s_callV (as := []) (ci := 5) d_Reader_readTold_1 ok_Reader_nextLetter lk_Reader_105 io_Reader_nextLetter so_Reader_nextLetter (by decide) rfl rfl rfl (Nat.le_of_ble_eq_true rfl) rfl (sf_12 hF) (WM.mono h ?_)
  rintro _ σ1 ⟨v1, rfl, hp, h⟩
  obtain ⟨hF1, h⟩ := h
  show WP E m_Reader_readTold (d + 1) 4 [(0, aP 12)] [aI v1] σ1 Q
  refine s_istore_n d_Reader_readTold_4 rfl (by decide) rfl ?_
  refine s_iload_n 0 d_Reader_readTold_5 rfl rfl ?_
  refine s_iconst d_Reader_readTold_6 ?_
  obtain ⟨g2, h⟩ := h
  refine s_icmp_eq d_Reader_readTold_7 rfl g2 (by decide) (fun c => ?_) (fun c => ?_)
  · have h := h.1 c
    refine s_iconst d_Reader_readTold_33 ?_
    exact s_zreturn d_Reader_readTold_34 rfl (by decide) h
  · have h := h.2 c
    refine s_aload_n 1 d_Reader_readTold_10 rfl rfl ?_
    refine s_getF (v := σ1.1 12 7) d_Reader_readTold_11 fl_Reader_47 rfl (sf_12 hF1) rfl ?_
    refine s_iload_n 0 d_Reader_readTold_14 rfl rfl ?_
    obtain ⟨g4, h⟩ := h
    refine s_callV (as := [aI v1]) (ci := 8) d_Reader_readTold_15 ok_Table_has lk_Reader_108 io_Table_has so_Table_has (by decide) rfl rfl rfl (Nat.le_of_ble_eq_true rfl) rfl g4 (WM.mono h ?_)
    rintro _ σ3 ⟨v3, rfl, hp, h⟩
    obtain ⟨hF4, h⟩ := h
    show WP E m_Reader_readTold (d + 1) 18 [(1, aI v1), (0, aP 12)] [aI v3] σ3 Q
    obtain ⟨g5, h⟩ := h
    refine s_if_ne d_Reader_readTold_18 rfl g5 (fun c => ?_) (fun c => ?_)
    · have h := h.1 c
      refine s_iconst d_Reader_readTold_33 ?_
      exact s_zreturn d_Reader_readTold_34 rfl (by decide) h
    · have h := h.2 c
      refine s_aload_n 1 d_Reader_readTold_21 rfl rfl ?_
      refine s_getF (v := σ3.1 12 7) d_Reader_readTold_22 fl_Reader_47 rfl (sf_12 hF4) rfl ?_
      obtain ⟨g7, h⟩ := h
      refine s_callV (as := []) (ci := 8) d_Reader_readTold_25 ok_Table_told lk_Reader_111 io_Table_told so_Table_told (by decide) rfl rfl rfl (Nat.le_of_ble_eq_true rfl) rfl g7 (WM.mono h ?_)
      rintro _ σ6 ⟨v6, rfl, hp, h⟩
      obtain ⟨hF7, h⟩ := h
      show WP E m_Reader_readTold (d + 1) 28 [(1, aI v1), (0, aP 12)] [aI v6] σ6 Q
      refine s_bipush d_Reader_readTold_28 (by decide) ?_
      obtain ⟨g8, h⟩ := h
      refine s_icmp_lt d_Reader_readTold_30 rfl g8 (by decide) (fun c => ?_) (fun c => ?_)
      · have h := h.1 c
        refine s_aload_n 1 d_Reader_readTold_35 rfl rfl ?_
        refine s_dup d_Reader_readTold_36 (Nat.ne_of_beq_eq_false rfl) ?_
        refine s_getF (v := σ6.1 12 6) d_Reader_readTold_37 fl_Reader_41 rfl (sf_12 hF7) rfl ?_
        refine s_iconst d_Reader_readTold_40 ?_
        refine s_iadd d_Reader_readTold_41 ?_
        refine s_putf 6 rfl d_Reader_readTold_42 fl_Reader_41 (fun C T h => by cases h; exact Or.inl rfl) rfl (Or.inl rfl) (fun h => nomatch h) (sf_12 hF7) ?_
        refine s_aload_n 1 d_Reader_readTold_45 rfl rfl ?_
        refine s_iconst d_Reader_readTold_46 ?_
        refine s_bipush d_Reader_readTold_47 (by decide) ?_
        refine s_callV (as := [aI 1, aI 12]) (ci := 5) d_Reader_readTold_49 ok_Reader_readNumber lk_Reader_86 io_Reader_readNumber so_Reader_readNumber (by decide) rfl rfl rfl (Nat.le_of_ble_eq_true rfl) rfl (sf_12 (hF7.wf (a := 12) (k := 6) (by decide))) (WM.mono h ?_)
        rintro _ σ9 ⟨v9, rfl, hp, h⟩
        obtain ⟨hF9, h⟩ := h
        show WP E m_Reader_readTold (d + 1) 52 [(1, aI v1), (0, aP 12)] [aI v9] σ9 Q
        refine s_istore_n d_Reader_readTold_52 rfl (by decide) rfl ?_
        refine s_iload_n 0 d_Reader_readTold_53 rfl rfl ?_
        refine s_iconst d_Reader_readTold_54 ?_
        obtain ⟨g10, h⟩ := h
        refine s_icmp_ne d_Reader_readTold_55 rfl g10 (by decide) (fun c => ?_) (fun c => ?_)
        · have h := h.1 c
          refine s_aload_n 2 d_Reader_readTold_62 rfl rfl ?_
          refine s_iconst d_Reader_readTold_63 ?_
          refine s_bipush d_Reader_readTold_64 (by decide) ?_
          refine s_callV (as := [aI 1, aI 12]) (ci := 5) d_Reader_readTold_66 ok_Reader_readNumber lk_Reader_86 io_Reader_readNumber so_Reader_readNumber (by decide) rfl rfl rfl (Nat.le_of_ble_eq_true rfl) rfl (sf_12 hF9) (WM.mono h ?_)
          rintro _ σ11 ⟨v11, rfl, hp, h⟩
          show WP E m_Reader_readTold (d + 1) 69 [(2, aI v9), (1, aI v1), (0, aP 12)] [aI v11] σ11 Q
          refine wp_drop [2, 1, 0] rfl ?_
          exact h
        · have h := h.2 c
          refine s_iconst d_Reader_readTold_58 ?_
          refine s_goto d_Reader_readTold_59 rfl ?_
          refine wp_drop [2, 1, 0] rfl ?_
          exact h
      · have h := h.2 c
        refine s_iconst d_Reader_readTold_33 ?_
        exact s_zreturn d_Reader_readTold_34 rfl (by decide) h
theorem e_Reader_readTold {E : EV} {d : Nat} {Q : Option AV → St → Prop} {σ : St} (hF : Fix σ) (h : (WMi E m_Reader_nextLetter d [aP 12] σ (fun v1 σ1 => Fix σ1 ∧ (rI v1) ∧ ((v1 = (-1) → Q (some (aI 0)) σ1) ∧ (¬ v1 = (-1) → (sh σ1 (σ1.1 12 7) = some (8, 4)) ∧ (WMi E m_Table_has d [aP (σ1.1 12 7), aI v1] σ1 (fun v3 σ3 => Fix σ3 ∧ (rI v3) ∧ ((¬ v3 = 0 → Q (some (aI 0)) σ3) ∧ (v3 = 0 → (sh σ3 (σ3.1 12 7) = some (8, 4)) ∧ (WMi E m_Table_told d [aP (σ3.1 12 7)] σ3 (fun v6 σ6 => Fix σ6 ∧ (rI v6) ∧ ((v6 < 12 → (WMi E m_Reader_readNumber d [aP 12, aI 1, aI 12] (wr σ6 12 6 ((σ6.1 12 6) + 1)) (fun v9 σ9 => Fix σ9 ∧ (rI v9) ∧ ((¬ v9 = (-1) → (WMi E m_Reader_readNumber d [aP 12, aI 1, aI 12] σ9 (fun v11 σ11 => WP E m_Reader_readTold (d + 1) 69 [(0, aP 12), (1, aI v1), (2, aI v9)] [aI v11] σ11 Q))) ∧ (v9 = (-1) → WP E m_Reader_readTold (d + 1) 69 [(0, aP 12), (1, aI v1), (2, aI v9)] [aI (-1)] σ9 Q))))) ∧ (¬ v6 < 12 → Q (some (aI 0)) σ6))))))))))))) : WM E m_Reader_readTold (d + 1) [aP 12] σ Q := s_meth (by decide) (Nat.le_of_ble_eq_true rfl) rfl (b_Reader_readTold_0 hF h)
theorem b_Reader_readTold_69 {E : EV} {d : Nat} {Q : Option AV → St → Prop} {σ : St} (x1 x2 s0 : Int) (hF : Fix σ) (h : (rI s0) ∧ ((¬ s0 = (-1) → (sh σ (σ.1 12 7) = some (8, 4)) ∧ (WMv E m_Table_tell d [aP (σ.1 12 7), aI x1, aI x2, aI s0] σ (fun σ2 => Fix σ2 ∧ (XS E "SignSquares$Reader" 118 4) ∧ (WMi E m_Reader_takeWord d [aP 12, aP (-4)] σ2 (fun v5 σ5 => Fix σ5 ∧ (rI v5) ∧ ((v5 = 0 → Q (some (aI 1)) σ5) ∧ (¬ v5 = 0 → (WMi E m_Reader_readCore d [aP 12, aI x1, aI x2, aI s0] σ5 (fun v7 σ7 => (rI v7) ∧ ((v7 = 0 → Q (some (aI 0)) σ7) ∧ (¬ v7 = 0 → Q (some (aI 1)) σ7))))))))))) ∧ (s0 = (-1) → Q (some (aI 0)) σ))) : WP E m_Reader_readTold (d + 1) 69 [(0, aP 12), (1, aI x1), (2, aI x2)] [aI s0] σ Q := by
  refine s_istore_n d_Reader_readTold_69 rfl (by decide) rfl ?_
  refine s_iload_n 0 d_Reader_readTold_70 rfl rfl ?_
  refine s_iconst d_Reader_readTold_71 ?_
  obtain ⟨g1, h⟩ := h
  refine s_icmp_ne d_Reader_readTold_72 rfl g1 (by decide) (fun c => ?_) (fun c => ?_)
  · have h := h.1 c
    refine s_aload_n 1 d_Reader_readTold_77 rfl rfl ?_
    refine s_getF (v := σ.1 12 7) d_Reader_readTold_78 fl_Reader_47 rfl (sf_12 hF) rfl ?_
    refine s_iload_n 2 d_Reader_readTold_81 rfl rfl ?_
    refine s_iload_n 3 d_Reader_readTold_82 rfl rfl ?_
    refine s_iload_n 0 d_Reader_readTold_83 rfl rfl ?_
    obtain ⟨g3, h⟩ := h
    refine s_callV (as := [aI x1, aI x2, aI s0]) (ci := 8) d_Reader_readTold_84 ok_Table_tell lk_Reader_114 io_Table_tell so_Table_tell (by decide) rfl rfl rfl (Nat.le_of_ble_eq_true rfl) rfl g3 (WM.mono h ?_)
    rintro _ σ2 ⟨rfl, hp, h⟩
    obtain ⟨hF3, h⟩ := h
    show WP E m_Reader_readTold (d + 1) 87 [(3, aI s0), (0, aP 12), (1, aI x1), (2, aI x2)] [] σ2 Q
    refine s_aload_n 1 d_Reader_readTold_87 rfl rfl ?_
    obtain ⟨g4, h⟩ := h
    refine s_ldcS (v := -4) d_Reader_readTold_88 g4 (by decide) ?_
    refine s_callV (as := [aP (-4)]) (ci := 5) d_Reader_readTold_90 ok_Reader_takeWord lk_Reader_82 io_Reader_takeWord so_Reader_takeWord (by decide) rfl rfl rfl (Nat.le_of_ble_eq_true rfl) rfl (sf_12 hF3) (WM.mono h ?_)
    rintro _ σ5 ⟨v5, rfl, hp, h⟩
    obtain ⟨hF5, h⟩ := h
    show WP E m_Reader_readTold (d + 1) 93 [(3, aI s0), (0, aP 12), (1, aI x1), (2, aI x2)] [aI v5] σ5 Q
    obtain ⟨g6, h⟩ := h
    refine s_if_eq d_Reader_readTold_93 rfl g6 (fun c => ?_) (fun c => ?_)
    · have h := h.1 c
      refine s_iconst d_Reader_readTold_106 ?_
      refine s_goto d_Reader_readTold_107 rfl ?_
      exact s_zreturn d_Reader_readTold_111 rfl (by decide) h
    · have h := h.2 c
      refine s_aload_n 1 d_Reader_readTold_96 rfl rfl ?_
      refine s_iload_n 2 d_Reader_readTold_97 rfl rfl ?_
      refine s_iload_n 3 d_Reader_readTold_98 rfl rfl ?_
      refine s_iload_n 0 d_Reader_readTold_99 rfl rfl ?_
      refine s_callV (as := [aI x1, aI x2, aI s0]) (ci := 5) d_Reader_readTold_100 ok_Reader_readCore lk_Reader_120 io_Reader_readCore so_Reader_readCore (by decide) rfl rfl rfl (Nat.le_of_ble_eq_true rfl) rfl (sf_12 hF5) (WM.mono h ?_)
      rintro _ σ7 ⟨v7, rfl, hp, h⟩
      show WP E m_Reader_readTold (d + 1) 103 [(3, aI s0), (0, aP 12), (1, aI x1), (2, aI x2)] [aI v7] σ7 Q
      obtain ⟨g8, h⟩ := h
      refine s_if_eq d_Reader_readTold_103 rfl g8 (fun c => ?_) (fun c => ?_)
      · have h := h.1 c
        refine s_iconst d_Reader_readTold_110 ?_
        exact s_zreturn d_Reader_readTold_111 rfl (by decide) h
      · have h := h.2 c
        refine s_iconst d_Reader_readTold_106 ?_
        refine s_goto d_Reader_readTold_107 rfl ?_
        exact s_zreturn d_Reader_readTold_111 rfl (by decide) h
  · have h := h.2 c
    refine s_iconst d_Reader_readTold_75 ?_
    exact s_zreturn d_Reader_readTold_76 rfl (by decide) h
theorem d_Reader_nextLetter_0 : decode m_Reader_nextLetter.2.1 0 = .ok (.aload_n 0, 1) := by decide +kernel
theorem d_Reader_nextLetter_1 : decode m_Reader_nextLetter.2.1 1 = .ok (.invokevirtual 77, 3) := by decide +kernel
theorem d_Reader_nextLetter_4 : decode m_Reader_nextLetter.2.1 4 = .ok (.istore_n 1, 1) := by decide +kernel
theorem d_Reader_nextLetter_5 : decode m_Reader_nextLetter.2.1 5 = .ok (.aload_n 0, 1) := by decide +kernel
theorem d_Reader_nextLetter_6 : decode m_Reader_nextLetter.2.1 6 = .ok (.invokevirtual 176, 3) := by decide +kernel
theorem d_Reader_nextLetter_9 : decode m_Reader_nextLetter.2.1 9 = .ok (.ifCond .ne 16, 3) := by decide +kernel
theorem d_Reader_nextLetter_12 : decode m_Reader_nextLetter.2.1 12 = .ok (.aload_n 0, 1) := by decide +kernel
theorem d_Reader_nextLetter_13 : decode m_Reader_nextLetter.2.1 13 = .ok (.invokevirtual 179, 3) := by decide +kernel
theorem d_Reader_nextLetter_16 : decode m_Reader_nextLetter.2.1 16 = .ok (.aload_n 0, 1) := by decide +kernel
theorem d_Reader_nextLetter_17 : decode m_Reader_nextLetter.2.1 17 = .ok (.getfield 41, 3) := by decide +kernel
theorem d_Reader_nextLetter_20 : decode m_Reader_nextLetter.2.1 20 = .ok (.isub, 1) := by decide +kernel
theorem d_Reader_nextLetter_21 : decode m_Reader_nextLetter.2.1 21 = .ok (.iconst 1, 1) := by decide +kernel
theorem d_Reader_nextLetter_22 : decode m_Reader_nextLetter.2.1 22 = .ok (.if_icmp .eq 7, 3) := by decide +kernel
theorem d_Reader_nextLetter_25 : decode m_Reader_nextLetter.2.1 25 = .ok (.iconst (-1), 1) := by decide +kernel
theorem d_Reader_nextLetter_26 : decode m_Reader_nextLetter.2.1 26 = .ok (.goto 7, 3) := by decide +kernel
theorem d_Reader_nextLetter_29 : decode m_Reader_nextLetter.2.1 29 = .ok (.iload_n 1, 1) := by decide +kernel
theorem d_Reader_nextLetter_30 : decode m_Reader_nextLetter.2.1 30 = .ok (.bipush 97, 2) := by decide +kernel
theorem d_Reader_nextLetter_32 : decode m_Reader_nextLetter.2.1 32 = .ok (.isub, 1) := by decide +kernel
theorem d_Reader_nextLetter_33 : decode m_Reader_nextLetter.2.1 33 = .ok (.ireturn, 1) := by decide +kernel
theorem b_Reader_nextLetter_0 {E : EV} {d : Nat} {Q : Option AV → St → Prop} {σ : St} (hF : Fix σ) (h : (WMi E m_Reader_next d [aP 12] σ (fun v1 σ1 => Fix σ1 ∧ (WMi E m_Reader_isGlued d [aP 12] σ1 (fun v2 σ2 => Fix σ2 ∧ (rI v2) ∧ ((¬ v2 = 0 → Q (some (aI (-1))) σ2) ∧ (v2 = 0 → (WMi E m_Reader_wordEnd d [aP 12] σ2 (fun v4 σ4 => Fix σ4 ∧ (rI (v4 - (σ4.1 12 6))) ∧ (((v4 - (σ4.1 12 6)) = 1 → Q (some (aI (v1 - 97))) σ4) ∧ (¬ (v4 - (σ4.1 12 6)) = 1 → Q (some (aI (-1))) σ4))))))))))) : WP E m_Reader_nextLetter (d + 1) 0 [(0, aP 12)] [] σ Q := by
  refine s_aload_n 0 d_Reader_nextLetter_0 rfl rfl ?_
  refine s_callV (as := []) (ci := 5) d_Reader_nextLetter_1 ok_Reader_next lk_Reader_77 io_Reader_next so_Reader_next (by decide) rfl rfl rfl (Nat.le_of_ble_eq_true rfl) rfl (sf_12 hF) (WM.mono h ?_)
  rintro _ σ1 ⟨v1, rfl, hp, h⟩
  obtain ⟨hF1, h⟩ := h
  show WP E m_Reader_nextLetter (d + 1) 4 [(0, aP 12)] [aI v1] σ1 Q
  refine s_istore_n d_Reader_nextLetter_4 rfl (by decide) rfl ?_
  refine s_aload_n 1 d_Reader_nextLetter_5 rfl rfl ?_
  refine s_callV (as := []) (ci := 5) d_Reader_nextLetter_6 ok_Reader_isGlued lk_Reader_176 io_Reader_isGlued so_Reader_isGlued (by decide) rfl rfl rfl (Nat.le_of_ble_eq_true rfl) rfl (sf_12 hF1) (WM.mono h ?_)
  rintro _ σ2 ⟨v2, rfl, hp, h⟩
  obtain ⟨hF2, h⟩ := h
  show WP E m_Reader_nextLetter (d + 1) 9 [(1, aI v1), (0, aP 12)] [aI v2] σ2 Q
  obtain ⟨g3, h⟩ := h
  refine s_if_ne d_Reader_nextLetter_9 rfl g3 (fun c => ?_) (fun c => ?_)
  · have h := h.1 c
    refine s_iconst d_Reader_nextLetter_25 ?_
    refine s_goto d_Reader_nextLetter_26 rfl ?_
    exact s_ireturn d_Reader_nextLetter_33 rfl h
  · have h := h.2 c
    refine s_aload_n 1 d_Reader_nextLetter_12 rfl rfl ?_
    refine s_callV (as := []) (ci := 5) d_Reader_nextLetter_13 ok_Reader_wordEnd lk_Reader_179 io_Reader_wordEnd so_Reader_wordEnd (by decide) rfl rfl rfl (Nat.le_of_ble_eq_true rfl) rfl (sf_12 hF2) (WM.mono h ?_)
    rintro _ σ4 ⟨v4, rfl, hp, h⟩
    obtain ⟨hF4, h⟩ := h
    show WP E m_Reader_nextLetter (d + 1) 16 [(1, aI v1), (0, aP 12)] [aI v4] σ4 Q
    refine s_aload_n 1 d_Reader_nextLetter_16 rfl rfl ?_
    refine s_getF (v := σ4.1 12 6) d_Reader_nextLetter_17 fl_Reader_41 rfl (sf_12 hF4) rfl ?_
    refine s_isub d_Reader_nextLetter_20 ?_
    refine s_iconst d_Reader_nextLetter_21 ?_
    obtain ⟨g5, h⟩ := h
    refine s_icmp_eq d_Reader_nextLetter_22 rfl g5 (by decide) (fun c => ?_) (fun c => ?_)
    · have h := h.1 c
      refine s_iload_n 0 d_Reader_nextLetter_29 rfl rfl ?_
      refine s_bipush d_Reader_nextLetter_30 (by decide) ?_
      refine s_isub d_Reader_nextLetter_32 ?_
      exact s_ireturn d_Reader_nextLetter_33 rfl h
    · have h := h.2 c
      refine s_iconst d_Reader_nextLetter_25 ?_
      refine s_goto d_Reader_nextLetter_26 rfl ?_
      exact s_ireturn d_Reader_nextLetter_33 rfl h
theorem e_Reader_nextLetter {E : EV} {d : Nat} {Q : Option AV → St → Prop} {σ : St} (hF : Fix σ) (h : (WMi E m_Reader_next d [aP 12] σ (fun v1 σ1 => Fix σ1 ∧ (WMi E m_Reader_isGlued d [aP 12] σ1 (fun v2 σ2 => Fix σ2 ∧ (rI v2) ∧ ((¬ v2 = 0 → Q (some (aI (-1))) σ2) ∧ (v2 = 0 → (WMi E m_Reader_wordEnd d [aP 12] σ2 (fun v4 σ4 => Fix σ4 ∧ (rI (v4 - (σ4.1 12 6))) ∧ (((v4 - (σ4.1 12 6)) = 1 → Q (some (aI (v1 - 97))) σ4) ∧ (¬ (v4 - (σ4.1 12 6)) = 1 → Q (some (aI (-1))) σ4))))))))))) : WM E m_Reader_nextLetter (d + 1) [aP 12] σ Q := s_meth (by decide) (Nat.le_of_ble_eq_true rfl) rfl (b_Reader_nextLetter_0 hF h)
theorem d_Reader_readCore_0 : decode m_Reader_readCore.2.1 0 = .ok (.aload_n 0, 1) := by decide +kernel
theorem d_Reader_readCore_1 : decode m_Reader_readCore.2.1 1 = .ok (.iconst 1, 1) := by decide +kernel
theorem d_Reader_readCore_2 : decode m_Reader_readCore.2.1 2 = .ok (.iload_n 2, 1) := by decide +kernel
theorem d_Reader_readCore_3 : decode m_Reader_readCore.2.1 3 = .ok (.invokevirtual 86, 3) := by decide +kernel
theorem d_Reader_readCore_6 : decode m_Reader_readCore.2.1 6 = .ok (.istore 4, 2) := by decide +kernel
theorem d_Reader_readCore_8 : decode m_Reader_readCore.2.1 8 = .ok (.iload 4, 2) := by decide +kernel
theorem d_Reader_readCore_10 : decode m_Reader_readCore.2.1 10 = .ok (.iconst (-1), 1) := by decide +kernel
theorem d_Reader_readCore_11 : decode m_Reader_readCore.2.1 11 = .ok (.if_icmp .ne 7, 3) := by decide +kernel
theorem d_Reader_readCore_14 : decode m_Reader_readCore.2.1 14 = .ok (.iconst (-1), 1) := by decide +kernel
theorem d_Reader_readCore_15 : decode m_Reader_readCore.2.1 15 = .ok (.goto 9, 3) := by decide +kernel
theorem d_Reader_readCore_18 : decode m_Reader_readCore.2.1 18 = .ok (.aload_n 0, 1) := by decide +kernel
theorem d_Reader_readCore_19 : decode m_Reader_readCore.2.1 19 = .ok (.iconst 1, 1) := by decide +kernel
theorem d_Reader_readCore_20 : decode m_Reader_readCore.2.1 20 = .ok (.iload_n 3, 1) := by decide +kernel
theorem d_Reader_readCore_21 : decode m_Reader_readCore.2.1 21 = .ok (.invokevirtual 86, 3) := by decide +kernel
theorem d_Reader_readCore_24 : decode m_Reader_readCore.2.1 24 = .ok (.istore 5, 2) := by decide +kernel
theorem d_Reader_readCore_26 : decode m_Reader_readCore.2.1 26 = .ok (.iload 5, 2) := by decide +kernel
theorem d_Reader_readCore_28 : decode m_Reader_readCore.2.1 28 = .ok (.iconst (-1), 1) := by decide +kernel
theorem d_Reader_readCore_29 : decode m_Reader_readCore.2.1 29 = .ok (.if_icmp .ne 5, 3) := by decide +kernel
theorem d_Reader_readCore_32 : decode m_Reader_readCore.2.1 32 = .ok (.iconst 0, 1) := by decide +kernel
theorem d_Reader_readCore_33 : decode m_Reader_readCore.2.1 33 = .ok (.ireturn, 1) := by decide +kernel
theorem d_Reader_readCore_34 : decode m_Reader_readCore.2.1 34 = .ok (.aload_n 0, 1) := by decide +kernel
theorem d_Reader_readCore_35 : decode m_Reader_readCore.2.1 35 = .ok (.getfield 47, 3) := by decide +kernel
theorem d_Reader_readCore_38 : decode m_Reader_readCore.2.1 38 = .ok (.iload_n 1, 1) := by decide +kernel
theorem d_Reader_readCore_39 : decode m_Reader_readCore.2.1 39 = .ok (.iload 4, 2) := by decide +kernel
theorem d_Reader_readCore_41 : decode m_Reader_readCore.2.1 41 = .ok (.iload 5, 2) := by decide +kernel
theorem d_Reader_readCore_43 : decode m_Reader_readCore.2.1 43 = .ok (.invokevirtual 124, 3) := by decide +kernel
theorem d_Reader_readCore_46 : decode m_Reader_readCore.2.1 46 = .ok (.iconst 1, 1) := by decide +kernel
theorem d_Reader_readCore_47 : decode m_Reader_readCore.2.1 47 = .ok (.ireturn, 1) := by decide +kernel
theorem b_Reader_readCore_0 {E : EV} {d : Nat} {Q : Option AV → St → Prop} {σ : St} (x1 x2 x3 : Int) (hF : Fix σ) (h : (WMi E m_Reader_readNumber d [aP 12, aI 1, aI x2] σ (fun v1 σ1 => Fix σ1 ∧ (rI v1) ∧ ((¬ v1 = (-1) → (WMi E m_Reader_readNumber d [aP 12, aI 1, aI x3] σ1 (fun v3 σ3 => WP E m_Reader_readCore (d + 1) 24 [(0, aP 12), (1, aI x1), (4, aI v1)] [aI v3] σ3 Q))) ∧ (v1 = (-1) → WP E m_Reader_readCore (d + 1) 24 [(0, aP 12), (1, aI x1), (4, aI v1)] [aI (-1)] σ1 Q))))) : WP E m_Reader_readCore (d + 1) 0 [(0, aP 12), (1, aI x1), (2, aI x2), (3, aI x3)] [] σ Q := by
  refine s_aload_n 0 d_Reader_readCore_0 rfl rfl ?_
  refine s_iconst d_Reader_readCore_1 ?_
  refine s_iload_n 2 d_Reader_readCore_2 rfl rfl ?_
  refine s_callV (as := [aI 1, aI x2]) (ci := 5) d_Reader_readCore_3 ok_Reader_readNumber lk_Reader_86 io_Reader_readNumber so_Reader_readNumber (by decide) rfl rfl rfl (Nat.le_of_ble_eq_true rfl) rfl (sf_12 hF) (WM.mono h ?_)
  rintro _ σ1 ⟨v1, rfl, hp, h⟩
  obtain ⟨hF1, h⟩ := h
  show WP E m_Reader_readCore (d + 1) 6 [(0, aP 12), (1, aI x1), (2, aI x2), (3, aI x3)] [aI v1] σ1 Q
  refine s_istore d_Reader_readCore_6 (by decide) rfl ?_
  refine s_iload 0 d_Reader_readCore_8 rfl ?_
  refine s_iconst d_Reader_readCore_10 ?_
  obtain ⟨g2, h⟩ := h
  refine s_icmp_ne d_Reader_readCore_11 rfl g2 (by decide) (fun c => ?_) (fun c => ?_)
  · have h := h.1 c
    refine s_aload_n 1 d_Reader_readCore_18 rfl rfl ?_
    refine s_iconst d_Reader_readCore_19 ?_
    refine s_iload_n 4 d_Reader_readCore_20 rfl rfl ?_
    refine s_callV (as := [aI 1, aI x3]) (ci := 5) d_Reader_readCore_21 ok_Reader_readNumber lk_Reader_86 io_Reader_readNumber so_Reader_readNumber (by decide) rfl rfl rfl (Nat.le_of_ble_eq_true rfl) rfl (sf_12 hF1) (WM.mono h ?_)
    rintro _ σ3 ⟨v3, rfl, hp, h⟩
    show WP E m_Reader_readCore (d + 1) 24 [(4, aI v1), (0, aP 12), (1, aI x1), (2, aI x2), (3, aI x3)] [aI v3] σ3 Q
    refine wp_drop [1, 2, 0] rfl ?_
    exact h
  · have h := h.2 c
    refine s_iconst d_Reader_readCore_14 ?_
    refine s_goto d_Reader_readCore_15 rfl ?_
    refine wp_drop [1, 2, 0] rfl ?_
    exact h
theorem e_Reader_readCore {E : EV} {d : Nat} {Q : Option AV → St → Prop} {σ : St} (x1 x2 x3 : Int) (hF : Fix σ) (h : (WMi E m_Reader_readNumber d [aP 12, aI 1, aI x2] σ (fun v1 σ1 => Fix σ1 ∧ (rI v1) ∧ ((¬ v1 = (-1) → (WMi E m_Reader_readNumber d [aP 12, aI 1, aI x3] σ1 (fun v3 σ3 => WP E m_Reader_readCore (d + 1) 24 [(0, aP 12), (1, aI x1), (4, aI v1)] [aI v3] σ3 Q))) ∧ (v1 = (-1) → WP E m_Reader_readCore (d + 1) 24 [(0, aP 12), (1, aI x1), (4, aI v1)] [aI (-1)] σ1 Q))))) : WM E m_Reader_readCore (d + 1) [aP 12, aI x1, aI x2, aI x3] σ Q := s_meth (by decide) (Nat.le_of_ble_eq_true rfl) rfl (b_Reader_readCore_0 x1 x2 x3 hF h)
theorem b_Reader_readCore_24 {E : EV} {d : Nat} {Q : Option AV → St → Prop} {σ : St} (x1 x4 s0 : Int) (hF : Fix σ) (h : (rI s0) ∧ ((¬ s0 = (-1) → (sh σ (σ.1 12 7) = some (8, 4)) ∧ (WMv E m_Table_tellCore d [aP (σ.1 12 7), aI x1, aI x4, aI s0] σ (fun σ2 => Q (some (aI 1)) σ2))) ∧ (s0 = (-1) → Q (some (aI 0)) σ))) : WP E m_Reader_readCore (d + 1) 24 [(0, aP 12), (1, aI x1), (4, aI x4)] [aI s0] σ Q := by
  refine s_istore d_Reader_readCore_24 (by decide) rfl ?_
  refine s_iload 0 d_Reader_readCore_26 rfl ?_
  refine s_iconst d_Reader_readCore_28 ?_
  obtain ⟨g1, h⟩ := h
  refine s_icmp_ne d_Reader_readCore_29 rfl g1 (by decide) (fun c => ?_) (fun c => ?_)
  · have h := h.1 c
    refine s_aload_n 1 d_Reader_readCore_34 rfl rfl ?_
    refine s_getF (v := σ.1 12 7) d_Reader_readCore_35 fl_Reader_47 rfl (sf_12 hF) rfl ?_
    refine s_iload_n 2 d_Reader_readCore_38 rfl rfl ?_
    refine s_iload 3 d_Reader_readCore_39 rfl ?_
    refine s_iload 0 d_Reader_readCore_41 rfl ?_
    obtain ⟨g3, h⟩ := h
    refine s_callV (as := [aI x1, aI x4, aI s0]) (ci := 8) d_Reader_readCore_43 ok_Table_tellCore lk_Reader_124 io_Table_tellCore so_Table_tellCore (by decide) rfl rfl rfl (Nat.le_of_ble_eq_true rfl) rfl g3 (WM.mono h ?_)
    rintro _ σ2 ⟨rfl, hp, h⟩
    show WP E m_Reader_readCore (d + 1) 46 [(5, aI s0), (0, aP 12), (1, aI x1), (4, aI x4)] [] σ2 Q
    refine s_iconst d_Reader_readCore_46 ?_
    exact s_zreturn d_Reader_readCore_47 rfl (by decide) h
  · have h := h.2 c
    refine s_iconst d_Reader_readCore_32 ?_
    exact s_zreturn d_Reader_readCore_33 rfl (by decide) h
theorem d_Reader_readLine_0 : decode m_Reader_readLine.2.1 0 = .ok (.aload_n 0, 1) := by decide +kernel
theorem d_Reader_readLine_1 : decode m_Reader_readLine.2.1 1 = .ok (.ldc 127, 2) := by decide +kernel
theorem d_Reader_readLine_3 : decode m_Reader_readLine.2.1 3 = .ok (.invokevirtual 82, 3) := by decide +kernel
theorem d_Reader_readLine_6 : decode m_Reader_readLine.2.1 6 = .ok (.istore_n 1, 1) := by decide +kernel
theorem d_Reader_readLine_7 : decode m_Reader_readLine.2.1 7 = .ok (.iconst 0, 1) := by decide +kernel
theorem d_Reader_readLine_8 : decode m_Reader_readLine.2.1 8 = .ok (.istore_n 2, 1) := by decide +kernel
theorem d_Reader_readLine_9 : decode m_Reader_readLine.2.1 9 = .ok (.iload_n 2, 1) := by decide +kernel
theorem d_Reader_readLine_10 : decode m_Reader_readLine.2.1 10 = .ok (.aload_n 0, 1) := by decide +kernel
theorem d_Reader_readLine_11 : decode m_Reader_readLine.2.1 11 = .ok (.getfield 28, 3) := by decide +kernel
theorem d_Reader_readLine_14 : decode m_Reader_readLine.2.1 14 = .ok (.arraylength, 1) := by decide +kernel
theorem d_Reader_readLine_15 : decode m_Reader_readLine.2.1 15 = .ok (.if_icmp .ge 91, 3) := by decide +kernel
theorem d_Reader_readLine_18 : decode m_Reader_readLine.2.1 18 = .ok (.aload_n 0, 1) := by decide +kernel
theorem d_Reader_readLine_19 : decode m_Reader_readLine.2.1 19 = .ok (.getfield 22, 3) := by decide +kernel
theorem d_Reader_readLine_22 : decode m_Reader_readLine.2.1 22 = .ok (.invokevirtual 129, 3) := by decide +kernel
theorem d_Reader_readLine_25 : decode m_Reader_readLine.2.1 25 = .ok (.aload_n 0, 1) := by decide +kernel
theorem d_Reader_readLine_26 : decode m_Reader_readLine.2.1 26 = .ok (.iconst 0, 1) := by decide +kernel
theorem d_Reader_readLine_27 : decode m_Reader_readLine.2.1 27 = .ok (.putfield 60, 3) := by decide +kernel
theorem d_Reader_readLine_30 : decode m_Reader_readLine.2.1 30 = .ok (.aload_n 0, 1) := by decide +kernel
theorem d_Reader_readLine_31 : decode m_Reader_readLine.2.1 31 = .ok (.iconst 0, 1) := by decide +kernel
theorem d_Reader_readLine_32 : decode m_Reader_readLine.2.1 32 = .ok (.iconst 0, 1) := by decide +kernel
theorem d_Reader_readLine_33 : decode m_Reader_readLine.2.1 33 = .ok (.invokevirtual 132, 3) := by decide +kernel
theorem d_Reader_readLine_36 : decode m_Reader_readLine.2.1 36 = .ok (.ifCond .ne 5, 3) := by decide +kernel
theorem d_Reader_readLine_39 : decode m_Reader_readLine.2.1 39 = .ok (.iconst 0, 1) := by decide +kernel
theorem d_Reader_readLine_40 : decode m_Reader_readLine.2.1 40 = .ok (.ireturn, 1) := by decide +kernel
theorem d_Reader_readLine_41 : decode m_Reader_readLine.2.1 41 = .ok (.aload_n 0, 1) := by decide +kernel
theorem d_Reader_readLine_42 : decode m_Reader_readLine.2.1 42 = .ok (.getfield 22, 3) := by decide +kernel
theorem d_Reader_readLine_45 : decode m_Reader_readLine.2.1 45 = .ok (.invokevirtual 136, 3) := by decide +kernel
theorem d_Reader_readLine_48 : decode m_Reader_readLine.2.1 48 = .ok (.aload_n 0, 1) := by decide +kernel
theorem d_Reader_readLine_49 : decode m_Reader_readLine.2.1 49 = .ok (.getfield 28, 3) := by decide +kernel
theorem d_Reader_readLine_52 : decode m_Reader_readLine.2.1 52 = .ok (.iload_n 2, 1) := by decide +kernel
theorem d_Reader_readLine_53 : decode m_Reader_readLine.2.1 53 = .ok (.aload_n 0, 1) := by decide +kernel
theorem d_Reader_readLine_54 : decode m_Reader_readLine.2.1 54 = .ok (.getfield 22, 3) := by decide +kernel
theorem d_Reader_readLine_57 : decode m_Reader_readLine.2.1 57 = .ok (.invokevirtual 139, 3) := by decide +kernel
theorem d_Reader_readLine_60 : decode m_Reader_readLine.2.1 60 = .ok (.aastore, 1) := by decide +kernel
theorem d_Reader_readLine_61 : decode m_Reader_readLine.2.1 61 = .ok (.aload_n 0, 1) := by decide +kernel
theorem d_Reader_readLine_62 : decode m_Reader_readLine.2.1 62 = .ok (.invokevirtual 77, 3) := by decide +kernel
theorem d_Reader_readLine_65 : decode m_Reader_readLine.2.1 65 = .ok (.bipush 45, 2) := by decide +kernel
theorem d_Reader_readLine_67 : decode m_Reader_readLine.2.1 67 = .ok (.if_icmp .eq 12, 3) := by decide +kernel
theorem d_Reader_readLine_70 : decode m_Reader_readLine.2.1 70 = .ok (.aload_n 0, 1) := by decide +kernel
theorem d_Reader_readLine_71 : decode m_Reader_readLine.2.1 71 = .ok (.iload_n 2, 1) := by decide +kernel
theorem d_Reader_readLine_72 : decode m_Reader_readLine.2.1 72 = .ok (.iconst 1, 1) := by decide +kernel
theorem d_Reader_readLine_73 : decode m_Reader_readLine.2.1 73 = .ok (.iadd, 1) := by decide +kernel
theorem d_Reader_readLine_74 : decode m_Reader_readLine.2.1 74 = .ok (.iload_n 1, 1) := by decide +kernel
theorem d_Reader_readLine_75 : decode m_Reader_readLine.2.1 75 = .ok (.invokevirtual 143, 3) := by decide +kernel
theorem d_Reader_readLine_78 : decode m_Reader_readLine.2.1 78 = .ok (.ireturn, 1) := by decide +kernel
theorem d_Reader_readLine_79 : decode m_Reader_readLine.2.1 79 = .ok (.iload_n 2, 1) := by decide +kernel
theorem d_Reader_readLine_80 : decode m_Reader_readLine.2.1 80 = .ok (.iconst 1, 1) := by decide +kernel
theorem d_Reader_readLine_81 : decode m_Reader_readLine.2.1 81 = .ok (.iadd, 1) := by decide +kernel
theorem d_Reader_readLine_82 : decode m_Reader_readLine.2.1 82 = .ok (.aload_n 0, 1) := by decide +kernel
theorem d_Reader_readLine_83 : decode m_Reader_readLine.2.1 83 = .ok (.getfield 28, 3) := by decide +kernel
theorem d_Reader_readLine_86 : decode m_Reader_readLine.2.1 86 = .ok (.arraylength, 1) := by decide +kernel
theorem d_Reader_readLine_87 : decode m_Reader_readLine.2.1 87 = .ok (.if_icmp .ge 13, 3) := by decide +kernel
theorem d_Reader_readLine_90 : decode m_Reader_readLine.2.1 90 = .ok (.aload_n 0, 1) := by decide +kernel
theorem d_Reader_readLine_91 : decode m_Reader_readLine.2.1 91 = .ok (.dup, 1) := by decide +kernel
theorem d_Reader_readLine_92 : decode m_Reader_readLine.2.1 92 = .ok (.getfield 41, 3) := by decide +kernel
theorem d_Reader_readLine_95 : decode m_Reader_readLine.2.1 95 = .ok (.iconst 1, 1) := by decide +kernel
theorem d_Reader_readLine_96 : decode m_Reader_readLine.2.1 96 = .ok (.iadd, 1) := by decide +kernel
theorem d_Reader_readLine_97 : decode m_Reader_readLine.2.1 97 = .ok (.putfield 41, 3) := by decide +kernel
theorem d_Reader_readLine_100 : decode m_Reader_readLine.2.1 100 = .ok (.iinc 2 1, 3) := by decide +kernel
theorem d_Reader_readLine_103 : decode m_Reader_readLine.2.1 103 = .ok (.goto (-94), 3) := by decide +kernel
theorem d_Reader_readLine_106 : decode m_Reader_readLine.2.1 106 = .ok (.iconst 0, 1) := by decide +kernel
theorem d_Reader_readLine_107 : decode m_Reader_readLine.2.1 107 = .ok (.ireturn, 1) := by decide +kernel
theorem b_Reader_readLine_0 {E : EV} {d : Nat} {Q : Option AV → St → Prop} {σ : St} (hF : Fix σ) (h : (XS E "SignSquares$Reader" 127 6) ∧ (WMi E m_Reader_takeWord d [aP 12, aP (-6)] σ (fun v2 σ2 => WP E m_Reader_readLine (d + 1) 9 [(0, aP 12), (1, aI v2), (2, aI 0)] [] σ2 Q))) : WP E m_Reader_readLine (d + 1) 0 [(0, aP 12)] [] σ Q := by
  refine s_aload_n 0 d_Reader_readLine_0 rfl rfl ?_
  obtain ⟨g1, h⟩ := h
  refine s_ldcS (v := -6) d_Reader_readLine_1 g1 (by decide) ?_
  refine s_callV (as := [aP (-6)]) (ci := 5) d_Reader_readLine_3 ok_Reader_takeWord lk_Reader_82 io_Reader_takeWord so_Reader_takeWord (by decide) rfl rfl rfl (Nat.le_of_ble_eq_true rfl) rfl (sf_12 hF) (WM.mono h ?_)
  rintro _ σ2 ⟨v2, rfl, hp, h⟩
  show WP E m_Reader_readLine (d + 1) 6 [(0, aP 12)] [aI v2] σ2 Q
  refine s_istore_n d_Reader_readLine_6 rfl (by decide) rfl ?_
  refine s_iconst d_Reader_readLine_7 ?_
  refine s_istore_n d_Reader_readLine_8 rfl (by decide) rfl ?_
  refine wp_drop [2, 1, 0] rfl ?_
  exact h
theorem e_Reader_readLine {E : EV} {d : Nat} {Q : Option AV → St → Prop} {σ : St} (hF : Fix σ) (h : (XS E "SignSquares$Reader" 127 6) ∧ (WMi E m_Reader_takeWord d [aP 12, aP (-6)] σ (fun v2 σ2 => WP E m_Reader_readLine (d + 1) 9 [(0, aP 12), (1, aI v2), (2, aI 0)] [] σ2 Q))) : WM E m_Reader_readLine (d + 1) [aP 12] σ Q := s_meth (by decide) (Nat.le_of_ble_eq_true rfl) rfl (b_Reader_readLine_0 hF h)
theorem b_Reader_readLine_9 {E : EV} {d : Nat} {Q : Option AV → St → Prop} {σ : St} (x1 x2 : Int) (hF : Fix σ) (h : (rI x2) ∧ ((8 ≤ x2 → Q (some (aI 0)) σ) ∧ (¬ 8 ≤ x2 → (WMv E m_Draft_clear d [aP 14] σ (fun σ2 => Fix σ2 ∧ (WMi E m_Reader_readGroup d [aP 12, aI 0, aI 0] (wr σ2 12 11 0) (fun v3 σ3 => Fix σ3 ∧ (rI v3) ∧ ((¬ v3 = 0 → (WMv E m_Draft_makeNormal d [aP 14] σ3 (fun σ5 => Fix σ5 ∧ (WMr E m_Draft_made d [aP 14] σ5 (fun v6 σ6 => Fix σ6 ∧ (0 ≤ x2 ∧ x2 < 8) ∧ (v6 = 0 ∨ sh σ6 v6 = some (7, 1)) ∧ (WMi E m_Reader_next d [aP 12] (wr σ6 16 x2 v6) (fun v9 σ9 => Fix σ9 ∧ (rI v9) ∧ ((v9 = 45 → (rI (x2 + 1)) ∧ ((8 ≤ (x2 + 1) → WP E m_Reader_readLine (d + 1) 100 [(0, aP 12), (1, aI x1), (2, aI x2)] [] σ9 Q) ∧ (¬ 8 ≤ (x2 + 1) → WP E m_Reader_readLine (d + 1) 100 [(0, aP 12), (1, aI x1), (2, aI x2)] [] (wr σ9 12 6 ((σ9.1 12 6) + 1)) Q))) ∧ (¬ v9 = 45 → (WMi E m_Reader_keepLine d [aP 12, aI (x2 + 1), aI x1] σ9 (fun v12 σ12 => (v12 = 0 ∨ v12 = 1) ∧ Q (some (aI v12)) σ12))))))))))) ∧ (v3 = 0 → Q (some (aI 0)) σ3))))))))) : WP E m_Reader_readLine (d + 1) 9 [(0, aP 12), (1, aI x1), (2, aI x2)] [] σ Q := by
  refine s_iload_n 2 d_Reader_readLine_9 rfl rfl ?_
  refine s_aload_n 0 d_Reader_readLine_10 rfl rfl ?_
  refine s_getF (v := 16) d_Reader_readLine_11 fl_Reader_28 rfl (sf_12 hF) (ff_9 hF) ?_
  refine s_alenv (v := 8) (by decide) d_Reader_readLine_14 (sf_16 hF) (by decide) ?_
  obtain ⟨g1, h⟩ := h
  refine s_icmp_ge d_Reader_readLine_15 rfl g1 (by decide) (fun c => ?_) (fun c => ?_)
  · have h := h.1 c
    refine s_iconst d_Reader_readLine_106 ?_
    exact s_zreturn d_Reader_readLine_107 rfl (by decide) h
  · have h := h.2 c
    refine s_aload_n 0 d_Reader_readLine_18 rfl rfl ?_
    refine s_getF (v := 14) d_Reader_readLine_19 fl_Reader_22 rfl (sf_12 hF) (ff_8 hF) ?_
    refine s_callV (as := []) (ci := 1) d_Reader_readLine_22 ok_Draft_clear lk_Reader_129 io_Draft_clear so_Draft_clear (by decide) rfl rfl rfl (Nat.le_of_ble_eq_true rfl) rfl (sf_14 hF) (WM.mono h ?_)
    rintro _ σ2 ⟨rfl, hp, h⟩
    obtain ⟨hF2, h⟩ := h
    show WP E m_Reader_readLine (d + 1) 25 [(0, aP 12), (1, aI x1), (2, aI x2)] [] σ2 Q
    refine s_aload_n 0 d_Reader_readLine_25 rfl rfl ?_
    refine s_iconst d_Reader_readLine_26 ?_
    refine s_putf 11 rfl d_Reader_readLine_27 fl_Reader_60 (fun C T h => by cases h; exact Or.inl rfl) rfl (Or.inl rfl) (fun h => nomatch h) (sf_12 hF2) ?_
    refine s_aload_n 0 d_Reader_readLine_30 rfl rfl ?_
    refine s_iconst d_Reader_readLine_31 ?_
    refine s_iconst d_Reader_readLine_32 ?_
    refine s_callV (as := [aI 0, aI 0]) (ci := 5) d_Reader_readLine_33 ok_Reader_readGroup lk_Reader_132 io_Reader_readGroup so_Reader_readGroup (by decide) rfl rfl rfl (Nat.le_of_ble_eq_true rfl) rfl (sf_12 (hF2.wf (a := 12) (k := 11) (by decide))) (WM.mono h ?_)
    rintro _ σ3 ⟨v3, rfl, hp, h⟩
    obtain ⟨hF3, h⟩ := h
    show WP E m_Reader_readLine (d + 1) 36 [(0, aP 12), (1, aI x1), (2, aI x2)] [aI v3] σ3 Q
    obtain ⟨g4, h⟩ := h
    refine s_if_ne d_Reader_readLine_36 rfl g4 (fun c => ?_) (fun c => ?_)
    · have h := h.1 c
      refine s_aload_n 0 d_Reader_readLine_41 rfl rfl ?_
      refine s_getF (v := 14) d_Reader_readLine_42 fl_Reader_22 rfl (sf_12 hF3) (ff_8 hF3) ?_
      refine s_callV (as := []) (ci := 1) d_Reader_readLine_45 ok_Draft_makeNormal lk_Reader_136 io_Draft_makeNormal so_Draft_makeNormal (by decide) rfl rfl rfl (Nat.le_of_ble_eq_true rfl) rfl (sf_14 hF3) (WM.mono h ?_)
      rintro _ σ5 ⟨rfl, hp, h⟩
      obtain ⟨hF5, h⟩ := h
      show WP E m_Reader_readLine (d + 1) 48 [(0, aP 12), (1, aI x1), (2, aI x2)] [] σ5 Q
      refine s_aload_n 0 d_Reader_readLine_48 rfl rfl ?_
      refine s_getF (v := 16) d_Reader_readLine_49 fl_Reader_28 rfl (sf_12 hF5) (ff_9 hF5) ?_
      refine s_iload_n 2 d_Reader_readLine_52 rfl rfl ?_
      refine s_aload_n 0 d_Reader_readLine_53 rfl rfl ?_
      refine s_getF (v := 14) d_Reader_readLine_54 fl_Reader_22 rfl (sf_12 hF5) (ff_8 hF5) ?_
      refine s_callV (as := []) (ci := 1) d_Reader_readLine_57 ok_Draft_made lk_Reader_139 io_Draft_made so_Draft_made (by decide) rfl rfl rfl (Nat.le_of_ble_eq_true rfl) rfl (sf_14 hF5) (WM.mono h ?_)
      rintro _ σ6 ⟨v6, rfl, hp, h⟩
      obtain ⟨hF6, h⟩ := h
      show WP E m_Reader_readLine (d + 1) 60 [(0, aP 12), (1, aI x1), (2, aI x2)] [aP v6, aI x2, aP 16] σ6 Q
      obtain ⟨g7, h⟩ := h
      obtain ⟨g8, h⟩ := h
      refine s_aastore (ci := 7) (N := 1) (by decide) d_Reader_readLine_60 ⟨_, sf_16 hF6, g7.1, g7.2, by have := g7.2; omega⟩ g8 ?_
      refine s_aload_n 0 d_Reader_readLine_61 rfl rfl ?_
      refine s_callV (as := []) (ci := 5) d_Reader_readLine_62 ok_Reader_next lk_Reader_77 io_Reader_next so_Reader_next (by decide) rfl rfl rfl (Nat.le_of_ble_eq_true rfl) rfl (sf_12 (hF6.wa (a := 16) (by decide))) (WM.mono h ?_)
      rintro _ σ9 ⟨v9, rfl, hp, h⟩
      obtain ⟨hF9, h⟩ := h
      show WP E m_Reader_readLine (d + 1) 65 [(0, aP 12), (1, aI x1), (2, aI x2)] [aI v9] σ9 Q
      refine s_bipush d_Reader_readLine_65 (by decide) ?_
      obtain ⟨g10, h⟩ := h
      refine s_icmp_eq d_Reader_readLine_67 rfl g10 (by decide) (fun c => ?_) (fun c => ?_)
      · have h := h.1 c
        refine s_iload_n 2 d_Reader_readLine_79 rfl rfl ?_
        refine s_iconst d_Reader_readLine_80 ?_
        refine s_iadd d_Reader_readLine_81 ?_
        refine s_aload_n 0 d_Reader_readLine_82 rfl rfl ?_
        refine s_getF (v := 16) d_Reader_readLine_83 fl_Reader_28 rfl (sf_12 hF9) (ff_9 hF9) ?_
        refine s_alenv (v := 8) (by decide) d_Reader_readLine_86 (sf_16 hF9) (by decide) ?_
        obtain ⟨g11, h⟩ := h
        refine s_icmp_ge d_Reader_readLine_87 rfl g11 (by decide) (fun c => ?_) (fun c => ?_)
        · have h := h.1 c
          exact h
        · have h := h.2 c
          refine s_aload_n 0 d_Reader_readLine_90 rfl rfl ?_
          refine s_dup d_Reader_readLine_91 (Nat.ne_of_beq_eq_false rfl) ?_
          refine s_getF (v := σ9.1 12 6) d_Reader_readLine_92 fl_Reader_41 rfl (sf_12 hF9) rfl ?_
          refine s_iconst d_Reader_readLine_95 ?_
          refine s_iadd d_Reader_readLine_96 ?_
          refine s_putf 6 rfl d_Reader_readLine_97 fl_Reader_41 (fun C T h => by cases h; exact Or.inl rfl) rfl (Or.inl rfl) (fun h => nomatch h) (sf_12 hF9) ?_
          exact h
      · have h := h.2 c
        refine s_aload_n 0 d_Reader_readLine_70 rfl rfl ?_
        refine s_iload_n 2 d_Reader_readLine_71 rfl rfl ?_
        refine s_iconst d_Reader_readLine_72 ?_
        refine s_iadd d_Reader_readLine_73 ?_
        refine s_iload_n 1 d_Reader_readLine_74 rfl rfl ?_
        refine s_callV (as := [aI (x2 + 1), aI x1]) (ci := 5) d_Reader_readLine_75 ok_Reader_keepLine lk_Reader_143 io_Reader_keepLine so_Reader_keepLine (by decide) rfl rfl rfl (Nat.le_of_ble_eq_true rfl) rfl (sf_12 hF9) (WM.mono h ?_)
        rintro _ σ12 ⟨v12, rfl, hp, h⟩
        show WP E m_Reader_readLine (d + 1) 78 [(0, aP 12), (1, aI x1), (2, aI x2)] [aI v12] σ12 Q
        obtain ⟨g13, h⟩ := h
        exact s_zreturn d_Reader_readLine_78 rfl g13 h
    · have h := h.2 c
      refine s_iconst d_Reader_readLine_39 ?_
      exact s_zreturn d_Reader_readLine_40 rfl (by decide) h
theorem b_Reader_readLine_100 {E : EV} {d : Nat} {Q : Option AV → St → Prop} {σ : St} (x1 x2 : Int) (h : WP E m_Reader_readLine (d + 1) 9 [(0, aP 12), (1, aI x1), (2, aI (x2 + 1))] [] σ Q) : WP E m_Reader_readLine (d + 1) 100 [(0, aP 12), (1, aI x1), (2, aI x2)] [] σ Q := by
  refine s_iinc 2 d_Reader_readLine_100 rfl (by decide) rfl ?_
  refine s_goto d_Reader_readLine_103 rfl ?_
  refine wp_drop [1, 2, 0] rfl ?_
  exact h
theorem d_Reader_readGroup_0 : decode m_Reader_readGroup.2.1 0 = .ok (.aload_n 0, 1) := by decide +kernel
theorem d_Reader_readGroup_1 : decode m_Reader_readGroup.2.1 1 = .ok (.getfield 22, 3) := by decide +kernel
theorem d_Reader_readGroup_4 : decode m_Reader_readGroup.2.1 4 = .ok (.getfield 150, 3) := by decide +kernel
theorem d_Reader_readGroup_7 : decode m_Reader_readGroup.2.1 7 = .ok (.istore_n 3, 1) := by decide +kernel
theorem d_Reader_readGroup_8 : decode m_Reader_readGroup.2.1 8 = .ok (.iload_n 3, 1) := by decide +kernel
theorem d_Reader_readGroup_9 : decode m_Reader_readGroup.2.1 9 = .ok (.istore 4, 2) := by decide +kernel
theorem d_Reader_readGroup_11 : decode m_Reader_readGroup.2.1 11 = .ok (.iconst 0, 1) := by decide +kernel
theorem d_Reader_readGroup_12 : decode m_Reader_readGroup.2.1 12 = .ok (.istore 5, 2) := by decide +kernel
theorem d_Reader_readGroup_14 : decode m_Reader_readGroup.2.1 14 = .ok (.iload 5, 2) := by decide +kernel
theorem d_Reader_readGroup_16 : decode m_Reader_readGroup.2.1 16 = .ok (.bipush 10, 2) := by decide +kernel
theorem d_Reader_readGroup_18 : decode m_Reader_readGroup.2.1 18 = .ok (.if_icmp .gt 84, 3) := by decide +kernel
theorem d_Reader_readGroup_21 : decode m_Reader_readGroup.2.1 21 = .ok (.aload_n 0, 1) := by decide +kernel
theorem d_Reader_readGroup_22 : decode m_Reader_readGroup.2.1 22 = .ok (.iload_n 1, 1) := by decide +kernel
theorem d_Reader_readGroup_23 : decode m_Reader_readGroup.2.1 23 = .ok (.iload_n 2, 1) := by decide +kernel
theorem d_Reader_readGroup_24 : decode m_Reader_readGroup.2.1 24 = .ok (.invokevirtual 151, 3) := by decide +kernel
theorem d_Reader_readGroup_27 : decode m_Reader_readGroup.2.1 27 = .ok (.ifCond .ne 5, 3) := by decide +kernel
theorem d_Reader_readGroup_30 : decode m_Reader_readGroup.2.1 30 = .ok (.iconst 0, 1) := by decide +kernel
theorem d_Reader_readGroup_31 : decode m_Reader_readGroup.2.1 31 = .ok (.ireturn, 1) := by decide +kernel
theorem d_Reader_readGroup_32 : decode m_Reader_readGroup.2.1 32 = .ok (.aload_n 0, 1) := by decide +kernel
theorem d_Reader_readGroup_33 : decode m_Reader_readGroup.2.1 33 = .ok (.bipush 42, 2) := by decide +kernel
theorem d_Reader_readGroup_35 : decode m_Reader_readGroup.2.1 35 = .ok (.invokevirtual 101, 3) := by decide +kernel
theorem d_Reader_readGroup_38 : decode m_Reader_readGroup.2.1 38 = .ok (.ifCond .eq 17, 3) := by decide +kernel
theorem d_Reader_readGroup_41 : decode m_Reader_readGroup.2.1 41 = .ok (.aload_n 0, 1) := by decide +kernel
theorem d_Reader_readGroup_42 : decode m_Reader_readGroup.2.1 42 = .ok (.getfield 22, 3) := by decide +kernel
theorem d_Reader_readGroup_45 : decode m_Reader_readGroup.2.1 45 = .ok (.iload 4, 2) := by decide +kernel
theorem d_Reader_readGroup_47 : decode m_Reader_readGroup.2.1 47 = .ok (.bipush 64, 2) := by decide +kernel
theorem d_Reader_readGroup_49 : decode m_Reader_readGroup.2.1 49 = .ok (.invokevirtual 154, 3) := by decide +kernel
theorem d_Reader_readGroup_52 : decode m_Reader_readGroup.2.1 52 = .ok (.goto 35, 3) := by decide +kernel
theorem d_Reader_readGroup_55 : decode m_Reader_readGroup.2.1 55 = .ok (.aload_n 0, 1) := by decide +kernel
theorem d_Reader_readGroup_56 : decode m_Reader_readGroup.2.1 56 = .ok (.bipush 58, 2) := by decide +kernel
theorem d_Reader_readGroup_58 : decode m_Reader_readGroup.2.1 58 = .ok (.invokevirtual 101, 3) := by decide +kernel
theorem d_Reader_readGroup_61 : decode m_Reader_readGroup.2.1 61 = .ok (.ifCond .eq 24, 3) := by decide +kernel
theorem d_Reader_readGroup_64 : decode m_Reader_readGroup.2.1 64 = .ok (.aload_n 0, 1) := by decide +kernel
theorem d_Reader_readGroup_65 : decode m_Reader_readGroup.2.1 65 = .ok (.getfield 22, 3) := by decide +kernel
theorem d_Reader_readGroup_68 : decode m_Reader_readGroup.2.1 68 = .ok (.iload_n 3, 1) := by decide +kernel
theorem d_Reader_readGroup_69 : decode m_Reader_readGroup.2.1 69 = .ok (.bipush 65, 2) := by decide +kernel
theorem d_Reader_readGroup_71 : decode m_Reader_readGroup.2.1 71 = .ok (.invokevirtual 154, 3) := by decide +kernel
theorem d_Reader_readGroup_74 : decode m_Reader_readGroup.2.1 74 = .ok (.aload_n 0, 1) := by decide +kernel
theorem d_Reader_readGroup_75 : decode m_Reader_readGroup.2.1 75 = .ok (.getfield 22, 3) := by decide +kernel
theorem d_Reader_readGroup_78 : decode m_Reader_readGroup.2.1 78 = .ok (.getfield 150, 3) := by decide +kernel
theorem d_Reader_readGroup_81 : decode m_Reader_readGroup.2.1 81 = .ok (.istore_n 3, 1) := by decide +kernel
theorem d_Reader_readGroup_82 : decode m_Reader_readGroup.2.1 82 = .ok (.goto 5, 3) := by decide +kernel
theorem d_Reader_readGroup_85 : decode m_Reader_readGroup.2.1 85 = .ok (.iconst 1, 1) := by decide +kernel
theorem d_Reader_readGroup_86 : decode m_Reader_readGroup.2.1 86 = .ok (.ireturn, 1) := by decide +kernel
theorem d_Reader_readGroup_87 : decode m_Reader_readGroup.2.1 87 = .ok (.aload_n 0, 1) := by decide +kernel
theorem d_Reader_readGroup_88 : decode m_Reader_readGroup.2.1 88 = .ok (.getfield 22, 3) := by decide +kernel
theorem d_Reader_readGroup_91 : decode m_Reader_readGroup.2.1 91 = .ok (.getfield 150, 3) := by decide +kernel
theorem d_Reader_readGroup_94 : decode m_Reader_readGroup.2.1 94 = .ok (.istore 4, 2) := by decide +kernel
theorem d_Reader_readGroup_96 : decode m_Reader_readGroup.2.1 96 = .ok (.iinc 5 1, 3) := by decide +kernel
theorem d_Reader_readGroup_99 : decode m_Reader_readGroup.2.1 99 = .ok (.goto (-85), 3) := by decide +kernel
theorem d_Reader_readGroup_102 : decode m_Reader_readGroup.2.1 102 = .ok (.iconst 0, 1) := by decide +kernel
theorem d_Reader_readGroup_103 : decode m_Reader_readGroup.2.1 103 = .ok (.ireturn, 1) := by decide +kernel
theorem b_Reader_readGroup_0 {E : EV} {d : Nat} {Q : Option AV → St → Prop} {σ : St} (x1 x2 : Int) (hF : Fix σ) (h : WP E m_Reader_readGroup (d + 1) 14 [(0, aP 12), (1, aI x1), (2, aI x2), (3, aI (σ.1 14 1)), (4, aI (σ.1 14 1)), (5, aI 0)] [] σ Q) : WP E m_Reader_readGroup (d + 1) 0 [(0, aP 12), (1, aI x1), (2, aI x2)] [] σ Q := by
  refine s_aload_n 0 d_Reader_readGroup_0 rfl rfl ?_
  refine s_getF (v := 14) d_Reader_readGroup_1 fl_Reader_22 rfl (sf_12 hF) (ff_8 hF) ?_
  refine s_getF (v := σ.1 14 1) d_Reader_readGroup_4 fl_Reader_150 rfl (sf_14 hF) rfl ?_
  refine s_istore_n d_Reader_readGroup_7 rfl (by decide) rfl ?_
  refine s_iload_n 0 d_Reader_readGroup_8 rfl rfl ?_
  refine s_istore d_Reader_readGroup_9 (by decide) rfl ?_
  refine s_iconst d_Reader_readGroup_11 ?_
  refine s_istore d_Reader_readGroup_12 (by decide) rfl ?_
  refine wp_drop [3, 4, 5, 2, 1, 0] rfl ?_
  exact h
theorem e_Reader_readGroup {E : EV} {d : Nat} {Q : Option AV → St → Prop} {σ : St} (x1 x2 : Int) (hF : Fix σ) (h : WP E m_Reader_readGroup (d + 1) 14 [(0, aP 12), (1, aI x1), (2, aI x2), (3, aI (σ.1 14 1)), (4, aI (σ.1 14 1)), (5, aI 0)] [] σ Q) : WM E m_Reader_readGroup (d + 1) [aP 12, aI x1, aI x2] σ Q := s_meth (by decide) (Nat.le_of_ble_eq_true rfl) rfl (b_Reader_readGroup_0 x1 x2 hF h)
theorem b_Reader_readGroup_14 {E : EV} {d : Nat} {Q : Option AV → St → Prop} {σ : St} (x1 x2 x3 x4 x5 : Int) (hF : Fix σ) (h : (rI x5) ∧ ((10 < x5 → Q (some (aI 0)) σ) ∧ (¬ 10 < x5 → (WMi E m_Reader_readPart d [aP 12, aI x1, aI x2] σ (fun v2 σ2 => Fix σ2 ∧ (rI v2) ∧ ((¬ v2 = 0 → (WMi E m_Reader_takeMark d [aP 12, aI 42] σ2 (fun v4 σ4 => Fix σ4 ∧ (rI v4) ∧ ((v4 = 0 → (WMi E m_Reader_takeMark d [aP 12, aI 58] σ4 (fun v6 σ6 => Fix σ6 ∧ (rI v6) ∧ ((v6 = 0 → Q (some (aI 1)) σ6) ∧ (¬ v6 = 0 → (WMv E m_Draft_putAhead d [aP 14, aI x3, aI 65] σ6 (fun σ8 => Fix σ8 ∧ WP E m_Reader_readGroup (d + 1) 87 [(0, aP 12), (1, aI x1), (2, aI x2), (3, aI (σ8.1 14 1)), (5, aI x5)] [] σ8 Q))))))) ∧ (¬ v4 = 0 → (WMv E m_Draft_putAhead d [aP 14, aI x4, aI 64] σ4 (fun σ9 => WP E m_Reader_readGroup (d + 1) 87 [(0, aP 12), (1, aI x1), (2, aI x2), (3, aI x3), (5, aI x5)] [] σ9 Q))))))) ∧ (v2 = 0 → Q (some (aI 0)) σ2))))))) : WP E m_Reader_readGroup (d + 1) 14 [(0, aP 12), (1, aI x1), (2, aI x2), (3, aI x3), (4, aI x4), (5, aI x5)] [] σ Q := by
  refine s_iload 5 d_Reader_readGroup_14 rfl ?_
  refine s_bipush d_Reader_readGroup_16 (by decide) ?_
  obtain ⟨g1, h⟩ := h
  refine s_icmp_gt d_Reader_readGroup_18 rfl g1 (by decide) (fun c => ?_) (fun c => ?_)
  · have h := h.1 c
    refine s_iconst d_Reader_readGroup_102 ?_
    exact s_zreturn d_Reader_readGroup_103 rfl (by decide) h
  · have h := h.2 c
    refine s_aload_n 0 d_Reader_readGroup_21 rfl rfl ?_
    refine s_iload_n 1 d_Reader_readGroup_22 rfl rfl ?_
    refine s_iload_n 2 d_Reader_readGroup_23 rfl rfl ?_
    refine s_callV (as := [aI x1, aI x2]) (ci := 5) d_Reader_readGroup_24 ok_Reader_readPart lk_Reader_151 io_Reader_readPart so_Reader_readPart (by decide) rfl rfl rfl (Nat.le_of_ble_eq_true rfl) rfl (sf_12 hF) (WM.mono h ?_)
    rintro _ σ2 ⟨v2, rfl, hp, h⟩
    obtain ⟨hF2, h⟩ := h
    show WP E m_Reader_readGroup (d + 1) 27 [(0, aP 12), (1, aI x1), (2, aI x2), (3, aI x3), (4, aI x4), (5, aI x5)] [aI v2] σ2 Q
    obtain ⟨g3, h⟩ := h
    refine s_if_ne d_Reader_readGroup_27 rfl g3 (fun c => ?_) (fun c => ?_)
    · have h := h.1 c
      refine s_aload_n 0 d_Reader_readGroup_32 rfl rfl ?_
      refine s_bipush d_Reader_readGroup_33 (by decide) ?_
      refine s_callV (as := [aI 42]) (ci := 5) d_Reader_readGroup_35 ok_Reader_takeMark lk_Reader_101 io_Reader_takeMark so_Reader_takeMark (by decide) rfl rfl rfl (Nat.le_of_ble_eq_true rfl) rfl (sf_12 hF2) (WM.mono h ?_)
      rintro _ σ4 ⟨v4, rfl, hp, h⟩
      obtain ⟨hF4, h⟩ := h
      show WP E m_Reader_readGroup (d + 1) 38 [(0, aP 12), (1, aI x1), (2, aI x2), (3, aI x3), (4, aI x4), (5, aI x5)] [aI v4] σ4 Q
      obtain ⟨g5, h⟩ := h
      refine s_if_eq d_Reader_readGroup_38 rfl g5 (fun c => ?_) (fun c => ?_)
      · have h := h.1 c
        refine s_aload_n 0 d_Reader_readGroup_55 rfl rfl ?_
        refine s_bipush d_Reader_readGroup_56 (by decide) ?_
        refine s_callV (as := [aI 58]) (ci := 5) d_Reader_readGroup_58 ok_Reader_takeMark lk_Reader_101 io_Reader_takeMark so_Reader_takeMark (by decide) rfl rfl rfl (Nat.le_of_ble_eq_true rfl) rfl (sf_12 hF4) (WM.mono h ?_)
        rintro _ σ6 ⟨v6, rfl, hp, h⟩
        obtain ⟨hF6, h⟩ := h
        show WP E m_Reader_readGroup (d + 1) 61 [(0, aP 12), (1, aI x1), (2, aI x2), (3, aI x3), (4, aI x4), (5, aI x5)] [aI v6] σ6 Q
        obtain ⟨g7, h⟩ := h
        refine s_if_eq d_Reader_readGroup_61 rfl g7 (fun c => ?_) (fun c => ?_)
        · have h := h.1 c
          refine s_iconst d_Reader_readGroup_85 ?_
          exact s_zreturn d_Reader_readGroup_86 rfl (by decide) h
        · have h := h.2 c
          refine s_aload_n 0 d_Reader_readGroup_64 rfl rfl ?_
          refine s_getF (v := 14) d_Reader_readGroup_65 fl_Reader_22 rfl (sf_12 hF6) (ff_8 hF6) ?_
          refine s_iload_n 3 d_Reader_readGroup_68 rfl rfl ?_
          refine s_bipush d_Reader_readGroup_69 (by decide) ?_
          refine s_callV (as := [aI x3, aI 65]) (ci := 1) d_Reader_readGroup_71 ok_Draft_putAhead lk_Reader_154 io_Draft_putAhead so_Draft_putAhead (by decide) rfl rfl rfl (Nat.le_of_ble_eq_true rfl) rfl (sf_14 hF6) (WM.mono h ?_)
          rintro _ σ8 ⟨rfl, hp, h⟩
          obtain ⟨hF8, h⟩ := h
          show WP E m_Reader_readGroup (d + 1) 74 [(0, aP 12), (1, aI x1), (2, aI x2), (3, aI x3), (4, aI x4), (5, aI x5)] [] σ8 Q
          refine s_aload_n 0 d_Reader_readGroup_74 rfl rfl ?_
          refine s_getF (v := 14) d_Reader_readGroup_75 fl_Reader_22 rfl (sf_12 hF8) (ff_8 hF8) ?_
          refine s_getF (v := σ8.1 14 1) d_Reader_readGroup_78 fl_Reader_150 rfl (sf_14 hF8) rfl ?_
          refine s_istore_n d_Reader_readGroup_81 rfl (by decide) rfl ?_
          refine s_goto d_Reader_readGroup_82 rfl ?_
          refine wp_drop [1, 2, 3, 0, 5] rfl ?_
          exact h
      · have h := h.2 c
        refine s_aload_n 0 d_Reader_readGroup_41 rfl rfl ?_
        refine s_getF (v := 14) d_Reader_readGroup_42 fl_Reader_22 rfl (sf_12 hF4) (ff_8 hF4) ?_
        refine s_iload 4 d_Reader_readGroup_45 rfl ?_
        refine s_bipush d_Reader_readGroup_47 (by decide) ?_
        refine s_callV (as := [aI x4, aI 64]) (ci := 1) d_Reader_readGroup_49 ok_Draft_putAhead lk_Reader_154 io_Draft_putAhead so_Draft_putAhead (by decide) rfl rfl rfl (Nat.le_of_ble_eq_true rfl) rfl (sf_14 hF4) (WM.mono h ?_)
        rintro _ σ9 ⟨rfl, hp, h⟩
        show WP E m_Reader_readGroup (d + 1) 52 [(0, aP 12), (1, aI x1), (2, aI x2), (3, aI x3), (4, aI x4), (5, aI x5)] [] σ9 Q
        refine s_goto d_Reader_readGroup_52 rfl ?_
        refine wp_drop [0, 1, 2, 3, 5] rfl ?_
        exact h
    · have h := h.2 c
      refine s_iconst d_Reader_readGroup_30 ?_
      exact s_zreturn d_Reader_readGroup_31 rfl (by decide) h
theorem b_Reader_readGroup_87 {E : EV} {d : Nat} {Q : Option AV → St → Prop} {σ : St} (x1 x2 x3 x5 : Int) (hF : Fix σ) (h : WP E m_Reader_readGroup (d + 1) 14 [(0, aP 12), (1, aI x1), (2, aI x2), (3, aI x3), (4, aI (σ.1 14 1)), (5, aI (x5 + 1))] [] σ Q) : WP E m_Reader_readGroup (d + 1) 87 [(0, aP 12), (1, aI x1), (2, aI x2), (3, aI x3), (5, aI x5)] [] σ Q := by
  refine s_aload_n 0 d_Reader_readGroup_87 rfl rfl ?_
  refine s_getF (v := 14) d_Reader_readGroup_88 fl_Reader_22 rfl (sf_12 hF) (ff_8 hF) ?_
  refine s_getF (v := σ.1 14 1) d_Reader_readGroup_91 fl_Reader_150 rfl (sf_14 hF) rfl ?_
  refine s_istore d_Reader_readGroup_94 (by decide) rfl ?_
  refine s_iinc 5 d_Reader_readGroup_96 rfl (by decide) rfl ?_
  refine s_goto d_Reader_readGroup_99 rfl ?_
  refine wp_drop [2, 3, 4, 5, 1, 0] rfl ?_
  exact h
theorem d_Reader_readPart_0 : decode m_Reader_readPart.2.1 0 = .ok (.aload_n 0, 1) := by decide +kernel
theorem d_Reader_readPart_1 : decode m_Reader_readPart.2.1 1 = .ok (.invokevirtual 77, 3) := by decide +kernel
theorem d_Reader_readPart_4 : decode m_Reader_readPart.2.1 4 = .ok (.bipush 40, 2) := by decide +kernel
theorem d_Reader_readPart_6 : decode m_Reader_readPart.2.1 6 = .ok (.if_icmp .ne 47, 3) := by decide +kernel
theorem d_Reader_readPart_9 : decode m_Reader_readPart.2.1 9 = .ok (.aload_n 0, 1) := by decide +kernel
theorem d_Reader_readPart_10 : decode m_Reader_readPart.2.1 10 = .ok (.iload_n 1, 1) := by decide +kernel
theorem d_Reader_readPart_11 : decode m_Reader_readPart.2.1 11 = .ok (.bipush 6, 2) := by decide +kernel
theorem d_Reader_readPart_13 : decode m_Reader_readPart.2.1 13 = .ok (.if_icmp .ge 7, 3) := by decide +kernel
theorem d_Reader_readPart_16 : decode m_Reader_readPart.2.1 16 = .ok (.iconst 1, 1) := by decide +kernel
theorem d_Reader_readPart_17 : decode m_Reader_readPart.2.1 17 = .ok (.goto 4, 3) := by decide +kernel
theorem d_Reader_readPart_20 : decode m_Reader_readPart.2.1 20 = .ok (.iconst 0, 1) := by decide +kernel
theorem d_Reader_readPart_21 : decode m_Reader_readPart.2.1 21 = .ok (.invokevirtual 158, 3) := by decide +kernel
theorem d_Reader_readPart_24 : decode m_Reader_readPart.2.1 24 = .ok (.ifCond .eq 27, 3) := by decide +kernel
theorem d_Reader_readPart_27 : decode m_Reader_readPart.2.1 27 = .ok (.aload_n 0, 1) := by decide +kernel
theorem d_Reader_readPart_28 : decode m_Reader_readPart.2.1 28 = .ok (.iload_n 1, 1) := by decide +kernel
theorem d_Reader_readPart_29 : decode m_Reader_readPart.2.1 29 = .ok (.iconst 1, 1) := by decide +kernel
theorem d_Reader_readPart_30 : decode m_Reader_readPart.2.1 30 = .ok (.iadd, 1) := by decide +kernel
theorem d_Reader_readPart_31 : decode m_Reader_readPart.2.1 31 = .ok (.iload_n 2, 1) := by decide +kernel
theorem d_Reader_readPart_32 : decode m_Reader_readPart.2.1 32 = .ok (.invokevirtual 132, 3) := by decide +kernel
theorem d_Reader_readPart_35 : decode m_Reader_readPart.2.1 35 = .ok (.ifCond .eq 16, 3) := by decide +kernel
theorem d_Reader_readPart_38 : decode m_Reader_readPart.2.1 38 = .ok (.aload_n 0, 1) := by decide +kernel
theorem d_Reader_readPart_39 : decode m_Reader_readPart.2.1 39 = .ok (.bipush 41, 2) := by decide +kernel
theorem d_Reader_readPart_41 : decode m_Reader_readPart.2.1 41 = .ok (.invokevirtual 101, 3) := by decide +kernel
theorem d_Reader_readPart_44 : decode m_Reader_readPart.2.1 44 = .ok (.ifCond .eq 7, 3) := by decide +kernel
theorem d_Reader_readPart_47 : decode m_Reader_readPart.2.1 47 = .ok (.iconst 1, 1) := by decide +kernel
theorem d_Reader_readPart_48 : decode m_Reader_readPart.2.1 48 = .ok (.goto 4, 3) := by decide +kernel
theorem d_Reader_readPart_51 : decode m_Reader_readPart.2.1 51 = .ok (.iconst 0, 1) := by decide +kernel
theorem d_Reader_readPart_52 : decode m_Reader_readPart.2.1 52 = .ok (.ireturn, 1) := by decide +kernel
theorem d_Reader_readPart_53 : decode m_Reader_readPart.2.1 53 = .ok (.aload_n 0, 1) := by decide +kernel
theorem d_Reader_readPart_54 : decode m_Reader_readPart.2.1 54 = .ok (.invokevirtual 105, 3) := by decide +kernel
theorem d_Reader_readPart_57 : decode m_Reader_readPart.2.1 57 = .ok (.istore_n 3, 1) := by decide +kernel
theorem d_Reader_readPart_58 : decode m_Reader_readPart.2.1 58 = .ok (.aload_n 0, 1) := by decide +kernel
theorem d_Reader_readPart_59 : decode m_Reader_readPart.2.1 59 = .ok (.getfield 47, 3) := by decide +kernel
theorem d_Reader_readPart_62 : decode m_Reader_readPart.2.1 62 = .ok (.iload_n 3, 1) := by decide +kernel
theorem d_Reader_readPart_63 : decode m_Reader_readPart.2.1 63 = .ok (.invokevirtual 108, 3) := by decide +kernel
theorem d_Reader_readPart_66 : decode m_Reader_readPart.2.1 66 = .ok (.ifCond .eq 12, 3) := by decide +kernel
theorem d_Reader_readPart_69 : decode m_Reader_readPart.2.1 69 = .ok (.aload_n 0, 1) := by decide +kernel
theorem d_Reader_readPart_70 : decode m_Reader_readPart.2.1 70 = .ok (.getfield 60, 3) := by decide +kernel
theorem d_Reader_readPart_73 : decode m_Reader_readPart.2.1 73 = .ok (.bipush 10, 2) := by decide +kernel
theorem d_Reader_readPart_75 : decode m_Reader_readPart.2.1 75 = .ok (.if_icmp .lt 5, 3) := by decide +kernel
theorem d_Reader_readPart_78 : decode m_Reader_readPart.2.1 78 = .ok (.iconst 0, 1) := by decide +kernel
theorem d_Reader_readPart_79 : decode m_Reader_readPart.2.1 79 = .ok (.ireturn, 1) := by decide +kernel
theorem d_Reader_readPart_80 : decode m_Reader_readPart.2.1 80 = .ok (.aload_n 0, 1) := by decide +kernel
theorem d_Reader_readPart_81 : decode m_Reader_readPart.2.1 81 = .ok (.dup, 1) := by decide +kernel
theorem d_Reader_readPart_82 : decode m_Reader_readPart.2.1 82 = .ok (.getfield 41, 3) := by decide +kernel
theorem d_Reader_readPart_85 : decode m_Reader_readPart.2.1 85 = .ok (.iconst 1, 1) := by decide +kernel
theorem d_Reader_readPart_86 : decode m_Reader_readPart.2.1 86 = .ok (.iadd, 1) := by decide +kernel
theorem d_Reader_readPart_87 : decode m_Reader_readPart.2.1 87 = .ok (.putfield 41, 3) := by decide +kernel
theorem d_Reader_readPart_90 : decode m_Reader_readPart.2.1 90 = .ok (.aload_n 0, 1) := by decide +kernel
theorem d_Reader_readPart_91 : decode m_Reader_readPart.2.1 91 = .ok (.dup, 1) := by decide +kernel
theorem d_Reader_readPart_92 : decode m_Reader_readPart.2.1 92 = .ok (.getfield 60, 3) := by decide +kernel
theorem d_Reader_readPart_95 : decode m_Reader_readPart.2.1 95 = .ok (.iconst 1, 1) := by decide +kernel
theorem d_Reader_readPart_96 : decode m_Reader_readPart.2.1 96 = .ok (.iadd, 1) := by decide +kernel
theorem d_Reader_readPart_97 : decode m_Reader_readPart.2.1 97 = .ok (.putfield 60, 3) := by decide +kernel
theorem d_Reader_readPart_100 : decode m_Reader_readPart.2.1 100 = .ok (.aload_n 0, 1) := by decide +kernel
theorem d_Reader_readPart_101 : decode m_Reader_readPart.2.1 101 = .ok (.getfield 22, 3) := by decide +kernel
theorem d_Reader_readPart_104 : decode m_Reader_readPart.2.1 104 = .ok (.getfield 150, 3) := by decide +kernel
theorem d_Reader_readPart_107 : decode m_Reader_readPart.2.1 107 = .ok (.istore 4, 2) := by decide +kernel
theorem d_Reader_readPart_109 : decode m_Reader_readPart.2.1 109 = .ok (.aload_n 0, 1) := by decide +kernel
theorem d_Reader_readPart_110 : decode m_Reader_readPart.2.1 110 = .ok (.getfield 22, 3) := by decide +kernel
theorem d_Reader_readPart_113 : decode m_Reader_readPart.2.1 113 = .ok (.iload_n 3, 1) := by decide +kernel
theorem d_Reader_readPart_114 : decode m_Reader_readPart.2.1 114 = .ok (.invokevirtual 162, 3) := by decide +kernel
theorem d_Reader_readPart_117 : decode m_Reader_readPart.2.1 117 = .ok (.aload_n 0, 1) := by decide +kernel
theorem d_Reader_readPart_118 : decode m_Reader_readPart.2.1 118 = .ok (.invokevirtual 77, 3) := by decide +kernel
theorem d_Reader_readPart_121 : decode m_Reader_readPart.2.1 121 = .ok (.bipush 60, 2) := by decide +kernel
theorem d_Reader_readPart_123 : decode m_Reader_readPart.2.1 123 = .ok (.if_icmp .eq 5, 3) := by decide +kernel
theorem d_Reader_readPart_126 : decode m_Reader_readPart.2.1 126 = .ok (.iconst 1, 1) := by decide +kernel
theorem d_Reader_readPart_127 : decode m_Reader_readPart.2.1 127 = .ok (.ireturn, 1) := by decide +kernel
theorem d_Reader_readPart_128 : decode m_Reader_readPart.2.1 128 = .ok (.aload_n 0, 1) := by decide +kernel
theorem d_Reader_readPart_129 : decode m_Reader_readPart.2.1 129 = .ok (.getfield 22, 3) := by decide +kernel
theorem d_Reader_readPart_132 : decode m_Reader_readPart.2.1 132 = .ok (.iload 4, 2) := by decide +kernel
theorem d_Reader_readPart_134 : decode m_Reader_readPart.2.1 134 = .ok (.iload_n 3, 1) := by decide +kernel
theorem d_Reader_readPart_135 : decode m_Reader_readPart.2.1 135 = .ok (.bipush 32, 2) := by decide +kernel
theorem d_Reader_readPart_137 : decode m_Reader_readPart.2.1 137 = .ok (.iadd, 1) := by decide +kernel
theorem d_Reader_readPart_138 : decode m_Reader_readPart.2.1 138 = .ok (.invokevirtual 166, 3) := by decide +kernel
theorem d_Reader_readPart_141 : decode m_Reader_readPart.2.1 141 = .ok (.aload_n 0, 1) := by decide +kernel
theorem d_Reader_readPart_142 : decode m_Reader_readPart.2.1 142 = .ok (.aload_n 0, 1) := by decide +kernel
theorem d_Reader_readPart_143 : decode m_Reader_readPart.2.1 143 = .ok (.getfield 47, 3) := by decide +kernel
theorem d_Reader_readPart_146 : decode m_Reader_readPart.2.1 146 = .ok (.iload_n 3, 1) := by decide +kernel
theorem d_Reader_readPart_147 : decode m_Reader_readPart.2.1 147 = .ok (.invokevirtual 169, 3) := by decide +kernel
theorem d_Reader_readPart_150 : decode m_Reader_readPart.2.1 150 = .ok (.ifCond .eq 18, 3) := by decide +kernel
theorem d_Reader_readPart_153 : decode m_Reader_readPart.2.1 153 = .ok (.iload_n 1, 1) := by decide +kernel
theorem d_Reader_readPart_154 : decode m_Reader_readPart.2.1 154 = .ok (.bipush 6, 2) := by decide +kernel
theorem d_Reader_readPart_156 : decode m_Reader_readPart.2.1 156 = .ok (.if_icmp .ge 12, 3) := by decide +kernel
theorem d_Reader_readPart_159 : decode m_Reader_readPart.2.1 159 = .ok (.iload_n 2, 1) := by decide +kernel
theorem d_Reader_readPart_160 : decode m_Reader_readPart.2.1 160 = .ok (.iconst 3, 1) := by decide +kernel
theorem d_Reader_readPart_161 : decode m_Reader_readPart.2.1 161 = .ok (.if_icmp .ge 7, 3) := by decide +kernel
theorem d_Reader_readPart_164 : decode m_Reader_readPart.2.1 164 = .ok (.iconst 1, 1) := by decide +kernel
theorem d_Reader_readPart_165 : decode m_Reader_readPart.2.1 165 = .ok (.goto 4, 3) := by decide +kernel
theorem d_Reader_readPart_168 : decode m_Reader_readPart.2.1 168 = .ok (.iconst 0, 1) := by decide +kernel
theorem d_Reader_readPart_169 : decode m_Reader_readPart.2.1 169 = .ok (.invokevirtual 158, 3) := by decide +kernel
theorem d_Reader_readPart_172 : decode m_Reader_readPart.2.1 172 = .ok (.ifCond .eq 29, 3) := by decide +kernel
theorem d_Reader_readPart_175 : decode m_Reader_readPart.2.1 175 = .ok (.aload_n 0, 1) := by decide +kernel
theorem d_Reader_readPart_176 : decode m_Reader_readPart.2.1 176 = .ok (.iload_n 1, 1) := by decide +kernel
theorem d_Reader_readPart_177 : decode m_Reader_readPart.2.1 177 = .ok (.iconst 1, 1) := by decide +kernel
theorem d_Reader_readPart_178 : decode m_Reader_readPart.2.1 178 = .ok (.iadd, 1) := by decide +kernel
theorem d_Reader_readPart_179 : decode m_Reader_readPart.2.1 179 = .ok (.iload_n 2, 1) := by decide +kernel
theorem d_Reader_readPart_180 : decode m_Reader_readPart.2.1 180 = .ok (.iconst 1, 1) := by decide +kernel
theorem d_Reader_readPart_181 : decode m_Reader_readPart.2.1 181 = .ok (.iadd, 1) := by decide +kernel
theorem d_Reader_readPart_182 : decode m_Reader_readPart.2.1 182 = .ok (.invokevirtual 132, 3) := by decide +kernel
theorem d_Reader_readPart_185 : decode m_Reader_readPart.2.1 185 = .ok (.ifCond .eq 16, 3) := by decide +kernel
theorem d_Reader_readPart_188 : decode m_Reader_readPart.2.1 188 = .ok (.aload_n 0, 1) := by decide +kernel
theorem d_Reader_readPart_189 : decode m_Reader_readPart.2.1 189 = .ok (.bipush 62, 2) := by decide +kernel
theorem d_Reader_readPart_191 : decode m_Reader_readPart.2.1 191 = .ok (.invokevirtual 101, 3) := by decide +kernel
theorem d_Reader_readPart_194 : decode m_Reader_readPart.2.1 194 = .ok (.ifCond .eq 7, 3) := by decide +kernel
theorem d_Reader_readPart_197 : decode m_Reader_readPart.2.1 197 = .ok (.iconst 1, 1) := by decide +kernel
theorem d_Reader_readPart_198 : decode m_Reader_readPart.2.1 198 = .ok (.goto 4, 3) := by decide +kernel
theorem d_Reader_readPart_201 : decode m_Reader_readPart.2.1 201 = .ok (.iconst 0, 1) := by decide +kernel
theorem d_Reader_readPart_202 : decode m_Reader_readPart.2.1 202 = .ok (.ireturn, 1) := by decide +kernel
theorem b_Reader_readPart_0 {E : EV} {d : Nat} {Q : Option AV → St → Prop} {σ : St} (x1 x2 : Int) (hF : Fix σ) (h : (WMi E m_Reader_next d [aP 12] σ (fun v1 σ1 => Fix σ1 ∧ (rI v1) ∧ ((¬ v1 = 40 → (WMi E m_Reader_nextLetter d [aP 12] σ1 (fun v3 σ3 => Fix σ3 ∧ (sh σ3 (σ3.1 12 7) = some (8, 4)) ∧ (WMi E m_Table_has d [aP (σ3.1 12 7), aI v3] σ3 (fun v4 σ4 => Fix σ4 ∧ (rI v4) ∧ ((v4 = 0 → Q (some (aI 0)) σ4) ∧ (¬ v4 = 0 → (rI (σ4.1 12 11)) ∧ (((σ4.1 12 11) < 10 → (WMv E m_Draft_put d [aP 14, aI v3] (wr (wr σ4 12 6 ((σ4.1 12 6) + 1)) 12 11 ((σ4.1 12 11) + 1)) (fun σ8 => Fix σ8 ∧ (WMi E m_Reader_next d [aP 12] σ8 (fun v9 σ9 => Fix σ9 ∧ (rI v9) ∧ ((v9 = 60 → (WMv E m_Draft_change d [aP 14, aI (σ4.1 14 1), aI (v3 + 32)] σ9 (fun σ11 => Fix σ11 ∧ (sh σ11 (σ11.1 12 7) = some (8, 4)) ∧ (WMi E m_Table_hasCore d [aP (σ11.1 12 7), aI v3] σ11 (fun v12 σ12 => (rI v12) ∧ ((v12 = 0 → WP E m_Reader_readPart (d + 1) 168 [(0, aP 12), (1, aI x1), (2, aI x2)] [aP 12] σ12 Q) ∧ (¬ v12 = 0 → (rI x1) ∧ ((6 ≤ x1 → WP E m_Reader_readPart (d + 1) 168 [(0, aP 12), (1, aI x1), (2, aI x2)] [aP 12] σ12 Q) ∧ (¬ 6 ≤ x1 → (rI x2) ∧ ((3 ≤ x2 → WP E m_Reader_readPart (d + 1) 168 [(0, aP 12), (1, aI x1), (2, aI x2)] [aP 12] σ12 Q) ∧ (¬ 3 ≤ x2 → WP E m_Reader_readPart (d + 1) 169 [(0, aP 12), (1, aI x1), (2, aI x2)] [aI 1, aP 12] σ12 Q))))))))))) ∧ (¬ v9 = 60 → Q (some (aI 1)) σ9))))))) ∧ (¬ (σ4.1 12 11) < 10 → Q (some (aI 0)) σ4))))))))) ∧ (v1 = 40 → (rI x1) ∧ ((6 ≤ x1 → WP E m_Reader_readPart (d + 1) 21 [(0, aP 12), (1, aI x1), (2, aI x2)] [aI 0, aP 12] σ1 Q) ∧ (¬ 6 ≤ x1 → WP E m_Reader_readPart (d + 1) 21 [(0, aP 12), (1, aI x1), (2, aI x2)] [aI 1, aP 12] σ1 Q))))))) : WP E m_Reader_readPart (d + 1) 0 [(0, aP 12), (1, aI x1), (2, aI x2)] [] σ Q := by
  refine s_aload_n 0 d_Reader_readPart_0 rfl rfl ?_
  refine s_callV (as := []) (ci := 5) d_Reader_readPart_1 ok_Reader_next lk_Reader_77 io_Reader_next so_Reader_next (by decide) rfl rfl rfl (Nat.le_of_ble_eq_true rfl) rfl (sf_12 hF) (WM.mono h ?_)
  rintro _ σ1 ⟨v1, rfl, hp, h⟩
  obtain ⟨hF1, h⟩ := h
  show WP E m_Reader_readPart (d + 1) 4 [(0, aP 12), (1, aI x1), (2, aI x2)] [aI v1] σ1 Q
  refine s_bipush d_Reader_readPart_4 (by decide) ?_
  obtain ⟨g2, h⟩ := h
  refine s_icmp_ne d_Reader_readPart_6 rfl g2 (by decide) (fun c => ?_) (fun c => ?_)
  · have h := h.1 c
    refine s_aload_n 0 d_Reader_readPart_53 rfl rfl ?_
    refine s_callV (as := []) (ci := 5) d_Reader_readPart_54 ok_Reader_nextLetter lk_Reader_105 io_Reader_nextLetter so_Reader_nextLetter (by decide) rfl rfl rfl (Nat.le_of_ble_eq_true rfl) rfl (sf_12 hF1) (WM.mono h ?_)
    rintro _ σ3 ⟨v3, rfl, hp, h⟩
    obtain ⟨hF3, h⟩ := h
    show WP E m_Reader_readPart (d + 1) 57 [(0, aP 12), (1, aI x1), (2, aI x2)] [aI v3] σ3 Q
    refine s_istore_n d_Reader_readPart_57 rfl (by decide) rfl ?_
    refine s_aload_n 1 d_Reader_readPart_58 rfl rfl ?_
    refine s_getF (v := σ3.1 12 7) d_Reader_readPart_59 fl_Reader_47 rfl (sf_12 hF3) rfl ?_
    refine s_iload_n 0 d_Reader_readPart_62 rfl rfl ?_
    obtain ⟨g5, h⟩ := h
    refine s_callV (as := [aI v3]) (ci := 8) d_Reader_readPart_63 ok_Table_has lk_Reader_108 io_Table_has so_Table_has (by decide) rfl rfl rfl (Nat.le_of_ble_eq_true rfl) rfl g5 (WM.mono h ?_)
    rintro _ σ4 ⟨v4, rfl, hp, h⟩
    obtain ⟨hF5, h⟩ := h
    show WP E m_Reader_readPart (d + 1) 66 [(3, aI v3), (0, aP 12), (1, aI x1), (2, aI x2)] [aI v4] σ4 Q
    obtain ⟨g6, h⟩ := h
    refine s_if_eq d_Reader_readPart_66 rfl g6 (fun c => ?_) (fun c => ?_)
    · have h := h.1 c
      refine s_iconst d_Reader_readPart_78 ?_
      exact s_zreturn d_Reader_readPart_79 rfl (by decide) h
    · have h := h.2 c
      refine s_aload_n 1 d_Reader_readPart_69 rfl rfl ?_
      refine s_getF (v := σ4.1 12 11) d_Reader_readPart_70 fl_Reader_60 rfl (sf_12 hF5) rfl ?_
      refine s_bipush d_Reader_readPart_73 (by decide) ?_
      obtain ⟨g7, h⟩ := h
      refine s_icmp_lt d_Reader_readPart_75 rfl g7 (by decide) (fun c => ?_) (fun c => ?_)
      · have h := h.1 c
        refine s_aload_n 1 d_Reader_readPart_80 rfl rfl ?_
        refine s_dup d_Reader_readPart_81 (Nat.ne_of_beq_eq_false rfl) ?_
        refine s_getF (v := σ4.1 12 6) d_Reader_readPart_82 fl_Reader_41 rfl (sf_12 hF5) rfl ?_
        refine s_iconst d_Reader_readPart_85 ?_
        refine s_iadd d_Reader_readPart_86 ?_
        refine s_putf 6 rfl d_Reader_readPart_87 fl_Reader_41 (fun C T h => by cases h; exact Or.inl rfl) rfl (Or.inl rfl) (fun h => nomatch h) (sf_12 hF5) ?_
        refine s_aload_n 1 d_Reader_readPart_90 rfl rfl ?_
        refine s_dup d_Reader_readPart_91 (Nat.ne_of_beq_eq_false rfl) ?_
        refine s_getF (v := σ4.1 12 11) d_Reader_readPart_92 fl_Reader_60 rfl (sf_12 (hF5.wf (a := 12) (k := 6) (by decide))) rfl ?_
        refine s_iconst d_Reader_readPart_95 ?_
        refine s_iadd d_Reader_readPart_96 ?_
        refine s_putf 11 rfl d_Reader_readPart_97 fl_Reader_60 (fun C T h => by cases h; exact Or.inl rfl) rfl (Or.inl rfl) (fun h => nomatch h) (sf_12 (hF5.wf (a := 12) (k := 6) (by decide))) ?_
        refine s_aload_n 1 d_Reader_readPart_100 rfl rfl ?_
        refine s_getF (v := 14) d_Reader_readPart_101 fl_Reader_22 rfl (sf_12 ((hF5.wf (a := 12) (k := 6) (by decide)).wf (a := 12) (k := 11) (by decide))) (ff_8 ((hF5.wf (a := 12) (k := 6) (by decide)).wf (a := 12) (k := 11) (by decide))) ?_
        refine s_getF (v := σ4.1 14 1) d_Reader_readPart_104 fl_Reader_150 rfl (sf_14 ((hF5.wf (a := 12) (k := 6) (by decide)).wf (a := 12) (k := 11) (by decide))) rfl ?_
        refine s_istore d_Reader_readPart_107 (by decide) rfl ?_
        refine s_aload_n 2 d_Reader_readPart_109 rfl rfl ?_
        refine s_getF (v := 14) d_Reader_readPart_110 fl_Reader_22 rfl (sf_12 ((hF5.wf (a := 12) (k := 6) (by decide)).wf (a := 12) (k := 11) (by decide))) (ff_8 ((hF5.wf (a := 12) (k := 6) (by decide)).wf (a := 12) (k := 11) (by decide))) ?_
        refine s_iload_n 1 d_Reader_readPart_113 rfl rfl ?_
        refine s_callV (as := [aI v3]) (ci := 1) d_Reader_readPart_114 ok_Draft_put lk_Reader_162 io_Draft_put so_Draft_put (by decide) rfl rfl rfl (Nat.le_of_ble_eq_true rfl) rfl (sf_14 ((hF5.wf (a := 12) (k := 6) (by decide)).wf (a := 12) (k := 11) (by decide))) (WM.mono h ?_)
        rintro _ σ8 ⟨rfl, hp, h⟩
        obtain ⟨hF8, h⟩ := h
        show WP E m_Reader_readPart (d + 1) 117 [(4, aI (σ4.1 14 1)), (3, aI v3), (0, aP 12), (1, aI x1), (2, aI x2)] [] σ8 Q
        refine s_aload_n 2 d_Reader_readPart_117 rfl rfl ?_
        refine s_callV (as := []) (ci := 5) d_Reader_readPart_118 ok_Reader_next lk_Reader_77 io_Reader_next so_Reader_next (by decide) rfl rfl rfl (Nat.le_of_ble_eq_true rfl) rfl (sf_12 hF8) (WM.mono h ?_)
        rintro _ σ9 ⟨v9, rfl, hp, h⟩
        obtain ⟨hF9, h⟩ := h
        show WP E m_Reader_readPart (d + 1) 121 [(4, aI (σ4.1 14 1)), (3, aI v3), (0, aP 12), (1, aI x1), (2, aI x2)] [aI v9] σ9 Q
        refine s_bipush d_Reader_readPart_121 (by decide) ?_
        obtain ⟨g10, h⟩ := h
        refine s_icmp_eq d_Reader_readPart_123 rfl g10 (by decide) (fun c => ?_) (fun c => ?_)
        · have h := h.1 c
          refine s_aload_n 2 d_Reader_readPart_128 rfl rfl ?_
          refine s_getF (v := 14) d_Reader_readPart_129 fl_Reader_22 rfl (sf_12 hF9) (ff_8 hF9) ?_
          refine s_iload 0 d_Reader_readPart_132 rfl ?_
          refine s_iload_n 1 d_Reader_readPart_134 rfl rfl ?_
          refine s_bipush d_Reader_readPart_135 (by decide) ?_
          refine s_iadd d_Reader_readPart_137 ?_
          refine s_callV (as := [aI (σ4.1 14 1), aI (v3 + 32)]) (ci := 1) d_Reader_readPart_138 ok_Draft_change lk_Reader_166 io_Draft_change so_Draft_change (by decide) rfl rfl rfl (Nat.le_of_ble_eq_true rfl) rfl (sf_14 hF9) (WM.mono h ?_)
          rintro _ σ11 ⟨rfl, hp, h⟩
          obtain ⟨hF11, h⟩ := h
          show WP E m_Reader_readPart (d + 1) 141 [(4, aI (σ4.1 14 1)), (3, aI v3), (0, aP 12), (1, aI x1), (2, aI x2)] [] σ11 Q
          refine s_aload_n 2 d_Reader_readPart_141 rfl rfl ?_
          refine s_aload_n 2 d_Reader_readPart_142 rfl rfl ?_
          refine s_getF (v := σ11.1 12 7) d_Reader_readPart_143 fl_Reader_47 rfl (sf_12 hF11) rfl ?_
          refine s_iload_n 1 d_Reader_readPart_146 rfl rfl ?_
          obtain ⟨g13, h⟩ := h
          refine s_callV (as := [aI v3]) (ci := 8) d_Reader_readPart_147 ok_Table_hasCore lk_Reader_169 io_Table_hasCore so_Table_hasCore (by decide) rfl rfl rfl (Nat.le_of_ble_eq_true rfl) rfl g13 (WM.mono h ?_)
          rintro _ σ12 ⟨v12, rfl, hp, h⟩
          show WP E m_Reader_readPart (d + 1) 150 [(4, aI (σ4.1 14 1)), (3, aI v3), (0, aP 12), (1, aI x1), (2, aI x2)] [aI v12, aP 12] σ12 Q
          obtain ⟨g14, h⟩ := h
          refine s_if_eq d_Reader_readPart_150 rfl g14 (fun c => ?_) (fun c => ?_)
          · have h := h.1 c
            refine wp_drop [2, 3, 4] rfl ?_
            exact h
          · have h := h.2 c
            refine s_iload_n 3 d_Reader_readPart_153 rfl rfl ?_
            refine s_bipush d_Reader_readPart_154 (by decide) ?_
            obtain ⟨g15, h⟩ := h
            refine s_icmp_ge d_Reader_readPart_156 rfl g15 (by decide) (fun c => ?_) (fun c => ?_)
            · have h := h.1 c
              refine wp_drop [2, 3, 4] rfl ?_
              exact h
            · have h := h.2 c
              refine s_iload_n 4 d_Reader_readPart_159 rfl rfl ?_
              refine s_iconst d_Reader_readPart_160 ?_
              obtain ⟨g16, h⟩ := h
              refine s_icmp_ge d_Reader_readPart_161 rfl g16 (by decide) (fun c => ?_) (fun c => ?_)
              · have h := h.1 c
                refine wp_drop [2, 3, 4] rfl ?_
                exact h
              · have h := h.2 c
                refine s_iconst d_Reader_readPart_164 ?_
                refine s_goto d_Reader_readPart_165 rfl ?_
                refine wp_drop [2, 3, 4] rfl ?_
                exact h
        · have h := h.2 c
          refine s_iconst d_Reader_readPart_126 ?_
          exact s_zreturn d_Reader_readPart_127 rfl (by decide) h
      · have h := h.2 c
        refine s_iconst d_Reader_readPart_78 ?_
        exact s_zreturn d_Reader_readPart_79 rfl (by decide) h
  · have h := h.2 c
    refine s_aload_n 0 d_Reader_readPart_9 rfl rfl ?_
    refine s_iload_n 1 d_Reader_readPart_10 rfl rfl ?_
    refine s_bipush d_Reader_readPart_11 (by decide) ?_
    obtain ⟨g17, h⟩ := h
    refine s_icmp_ge d_Reader_readPart_13 rfl g17 (by decide) (fun c => ?_) (fun c => ?_)
    · have h := h.1 c
      refine s_iconst d_Reader_readPart_20 ?_
      exact h
    · have h := h.2 c
      refine s_iconst d_Reader_readPart_16 ?_
      refine s_goto d_Reader_readPart_17 rfl ?_
      exact h
theorem e_Reader_readPart {E : EV} {d : Nat} {Q : Option AV → St → Prop} {σ : St} (x1 x2 : Int) (hF : Fix σ) (h : (WMi E m_Reader_next d [aP 12] σ (fun v1 σ1 => Fix σ1 ∧ (rI v1) ∧ ((¬ v1 = 40 → (WMi E m_Reader_nextLetter d [aP 12] σ1 (fun v3 σ3 => Fix σ3 ∧ (sh σ3 (σ3.1 12 7) = some (8, 4)) ∧ (WMi E m_Table_has d [aP (σ3.1 12 7), aI v3] σ3 (fun v4 σ4 => Fix σ4 ∧ (rI v4) ∧ ((v4 = 0 → Q (some (aI 0)) σ4) ∧ (¬ v4 = 0 → (rI (σ4.1 12 11)) ∧ (((σ4.1 12 11) < 10 → (WMv E m_Draft_put d [aP 14, aI v3] (wr (wr σ4 12 6 ((σ4.1 12 6) + 1)) 12 11 ((σ4.1 12 11) + 1)) (fun σ8 => Fix σ8 ∧ (WMi E m_Reader_next d [aP 12] σ8 (fun v9 σ9 => Fix σ9 ∧ (rI v9) ∧ ((v9 = 60 → (WMv E m_Draft_change d [aP 14, aI (σ4.1 14 1), aI (v3 + 32)] σ9 (fun σ11 => Fix σ11 ∧ (sh σ11 (σ11.1 12 7) = some (8, 4)) ∧ (WMi E m_Table_hasCore d [aP (σ11.1 12 7), aI v3] σ11 (fun v12 σ12 => (rI v12) ∧ ((v12 = 0 → WP E m_Reader_readPart (d + 1) 168 [(0, aP 12), (1, aI x1), (2, aI x2)] [aP 12] σ12 Q) ∧ (¬ v12 = 0 → (rI x1) ∧ ((6 ≤ x1 → WP E m_Reader_readPart (d + 1) 168 [(0, aP 12), (1, aI x1), (2, aI x2)] [aP 12] σ12 Q) ∧ (¬ 6 ≤ x1 → (rI x2) ∧ ((3 ≤ x2 → WP E m_Reader_readPart (d + 1) 168 [(0, aP 12), (1, aI x1), (2, aI x2)] [aP 12] σ12 Q) ∧ (¬ 3 ≤ x2 → WP E m_Reader_readPart (d + 1) 169 [(0, aP 12), (1, aI x1), (2, aI x2)] [aI 1, aP 12] σ12 Q))))))))))) ∧ (¬ v9 = 60 → Q (some (aI 1)) σ9))))))) ∧ (¬ (σ4.1 12 11) < 10 → Q (some (aI 0)) σ4))))))))) ∧ (v1 = 40 → (rI x1) ∧ ((6 ≤ x1 → WP E m_Reader_readPart (d + 1) 21 [(0, aP 12), (1, aI x1), (2, aI x2)] [aI 0, aP 12] σ1 Q) ∧ (¬ 6 ≤ x1 → WP E m_Reader_readPart (d + 1) 21 [(0, aP 12), (1, aI x1), (2, aI x2)] [aI 1, aP 12] σ1 Q))))))) : WM E m_Reader_readPart (d + 1) [aP 12, aI x1, aI x2] σ Q := s_meth (by decide) (Nat.le_of_ble_eq_true rfl) rfl (b_Reader_readPart_0 x1 x2 hF h)
theorem b_Reader_readPart_21 {E : EV} {d : Nat} {Q : Option AV → St → Prop} {σ : St} (x1 x2 s0 s1 : Int) (hF : Fix σ) (h : (sh σ s0 = some (5, 12)) ∧ (WMi E m_Reader_takeOpening d [aP s0, aI s1] σ (fun v1 σ1 => Fix σ1 ∧ (rI v1) ∧ ((v1 = 0 → Q (some (aI 0)) σ1) ∧ (¬ v1 = 0 → (WMi E m_Reader_readGroup d [aP 12, aI (x1 + 1), aI x2] σ1 (fun v4 σ4 => Fix σ4 ∧ (rI v4) ∧ ((v4 = 0 → Q (some (aI 0)) σ4) ∧ (¬ v4 = 0 → (WMi E m_Reader_takeMark d [aP 12, aI 41] σ4 (fun v6 σ6 => (rI v6) ∧ ((v6 = 0 → Q (some (aI 0)) σ6) ∧ (¬ v6 = 0 → Q (some (aI 1)) σ6))))))))))))) : WP E m_Reader_readPart (d + 1) 21 [(0, aP 12), (1, aI x1), (2, aI x2)] [aI s1, aP s0] σ Q := by
  obtain ⟨g2, h⟩ := h
  refine s_callV (as := [aI s1]) (ci := 5) d_Reader_readPart_21 ok_Reader_takeOpening lk_Reader_158 io_Reader_takeOpening so_Reader_takeOpening (by decide) rfl rfl rfl (Nat.le_of_ble_eq_true rfl) rfl g2 (WM.mono h ?_)
  rintro _ σ1 ⟨v1, rfl, hp, h⟩
  obtain ⟨hF2, h⟩ := h
  show WP E m_Reader_readPart (d + 1) 24 [(0, aP 12), (1, aI x1), (2, aI x2)] [aI v1] σ1 Q
  obtain ⟨g3, h⟩ := h
  refine s_if_eq d_Reader_readPart_24 rfl g3 (fun c => ?_) (fun c => ?_)
  · have h := h.1 c
    refine s_iconst d_Reader_readPart_51 ?_
    exact s_zreturn d_Reader_readPart_52 rfl (by decide) h
  · have h := h.2 c
    refine s_aload_n 0 d_Reader_readPart_27 rfl rfl ?_
    refine s_iload_n 1 d_Reader_readPart_28 rfl rfl ?_
    refine s_iconst d_Reader_readPart_29 ?_
    refine s_iadd d_Reader_readPart_30 ?_
    refine s_iload_n 2 d_Reader_readPart_31 rfl rfl ?_
    refine s_callV (as := [aI (x1 + 1), aI x2]) (ci := 5) d_Reader_readPart_32 ok_Reader_readGroup lk_Reader_132 io_Reader_readGroup so_Reader_readGroup (by decide) rfl rfl rfl (Nat.le_of_ble_eq_true rfl) rfl (sf_12 hF2) (WM.mono h ?_)
    rintro _ σ4 ⟨v4, rfl, hp, h⟩
    obtain ⟨hF4, h⟩ := h
    show WP E m_Reader_readPart (d + 1) 35 [(0, aP 12), (1, aI x1), (2, aI x2)] [aI v4] σ4 Q
    obtain ⟨g5, h⟩ := h
    refine s_if_eq d_Reader_readPart_35 rfl g5 (fun c => ?_) (fun c => ?_)
    · have h := h.1 c
      refine s_iconst d_Reader_readPart_51 ?_
      exact s_zreturn d_Reader_readPart_52 rfl (by decide) h
    · have h := h.2 c
      refine s_aload_n 0 d_Reader_readPart_38 rfl rfl ?_
      refine s_bipush d_Reader_readPart_39 (by decide) ?_
      refine s_callV (as := [aI 41]) (ci := 5) d_Reader_readPart_41 ok_Reader_takeMark lk_Reader_101 io_Reader_takeMark so_Reader_takeMark (by decide) rfl rfl rfl (Nat.le_of_ble_eq_true rfl) rfl (sf_12 hF4) (WM.mono h ?_)
      rintro _ σ6 ⟨v6, rfl, hp, h⟩
      show WP E m_Reader_readPart (d + 1) 44 [(0, aP 12), (1, aI x1), (2, aI x2)] [aI v6] σ6 Q
      obtain ⟨g7, h⟩ := h
      refine s_if_eq d_Reader_readPart_44 rfl g7 (fun c => ?_) (fun c => ?_)
      · have h := h.1 c
        refine s_iconst d_Reader_readPart_51 ?_
        exact s_zreturn d_Reader_readPart_52 rfl (by decide) h
      · have h := h.2 c
        refine s_iconst d_Reader_readPart_47 ?_
        refine s_goto d_Reader_readPart_48 rfl ?_
        exact s_zreturn d_Reader_readPart_52 rfl (by decide) h
theorem b_Reader_readPart_168 {E : EV} {d : Nat} {Q : Option AV → St → Prop} {σ : St} (x1 x2 s0 : Int) (h : WP E m_Reader_readPart (d + 1) 169 [(0, aP 12), (1, aI x1), (2, aI x2)] [aI 0, aP s0] σ Q) : WP E m_Reader_readPart (d + 1) 168 [(0, aP 12), (1, aI x1), (2, aI x2)] [aP s0] σ Q := by
  refine s_iconst d_Reader_readPart_168 ?_
  exact h
theorem b_Reader_readPart_169 {E : EV} {d : Nat} {Q : Option AV → St → Prop} {σ : St} (x1 x2 s0 s1 : Int) (hF : Fix σ) (h : (sh σ s0 = some (5, 12)) ∧ (WMi E m_Reader_takeOpening d [aP s0, aI s1] σ (fun v1 σ1 => Fix σ1 ∧ (rI v1) ∧ ((v1 = 0 → Q (some (aI 0)) σ1) ∧ (¬ v1 = 0 → (WMi E m_Reader_readGroup d [aP 12, aI (x1 + 1), aI (x2 + 1)] σ1 (fun v4 σ4 => Fix σ4 ∧ (rI v4) ∧ ((v4 = 0 → Q (some (aI 0)) σ4) ∧ (¬ v4 = 0 → (WMi E m_Reader_takeMark d [aP 12, aI 62] σ4 (fun v6 σ6 => (rI v6) ∧ ((v6 = 0 → Q (some (aI 0)) σ6) ∧ (¬ v6 = 0 → Q (some (aI 1)) σ6))))))))))))) : WP E m_Reader_readPart (d + 1) 169 [(0, aP 12), (1, aI x1), (2, aI x2)] [aI s1, aP s0] σ Q := by
  obtain ⟨g2, h⟩ := h
  refine s_callV (as := [aI s1]) (ci := 5) d_Reader_readPart_169 ok_Reader_takeOpening lk_Reader_158 io_Reader_takeOpening so_Reader_takeOpening (by decide) rfl rfl rfl (Nat.le_of_ble_eq_true rfl) rfl g2 (WM.mono h ?_)
  rintro _ σ1 ⟨v1, rfl, hp, h⟩
  obtain ⟨hF2, h⟩ := h
  show WP E m_Reader_readPart (d + 1) 172 [(0, aP 12), (1, aI x1), (2, aI x2)] [aI v1] σ1 Q
  obtain ⟨g3, h⟩ := h
  refine s_if_eq d_Reader_readPart_172 rfl g3 (fun c => ?_) (fun c => ?_)
  · have h := h.1 c
    refine s_iconst d_Reader_readPart_201 ?_
    exact s_zreturn d_Reader_readPart_202 rfl (by decide) h
  · have h := h.2 c
    refine s_aload_n 0 d_Reader_readPart_175 rfl rfl ?_
    refine s_iload_n 1 d_Reader_readPart_176 rfl rfl ?_
    refine s_iconst d_Reader_readPart_177 ?_
    refine s_iadd d_Reader_readPart_178 ?_
    refine s_iload_n 2 d_Reader_readPart_179 rfl rfl ?_
    refine s_iconst d_Reader_readPart_180 ?_
    refine s_iadd d_Reader_readPart_181 ?_
    refine s_callV (as := [aI (x1 + 1), aI (x2 + 1)]) (ci := 5) d_Reader_readPart_182 ok_Reader_readGroup lk_Reader_132 io_Reader_readGroup so_Reader_readGroup (by decide) rfl rfl rfl (Nat.le_of_ble_eq_true rfl) rfl (sf_12 hF2) (WM.mono h ?_)
    rintro _ σ4 ⟨v4, rfl, hp, h⟩
    obtain ⟨hF4, h⟩ := h
    show WP E m_Reader_readPart (d + 1) 185 [(0, aP 12), (1, aI x1), (2, aI x2)] [aI v4] σ4 Q
    obtain ⟨g5, h⟩ := h
    refine s_if_eq d_Reader_readPart_185 rfl g5 (fun c => ?_) (fun c => ?_)
    · have h := h.1 c
      refine s_iconst d_Reader_readPart_201 ?_
      exact s_zreturn d_Reader_readPart_202 rfl (by decide) h
    · have h := h.2 c
      refine s_aload_n 0 d_Reader_readPart_188 rfl rfl ?_
      refine s_bipush d_Reader_readPart_189 (by decide) ?_
      refine s_callV (as := [aI 62]) (ci := 5) d_Reader_readPart_191 ok_Reader_takeMark lk_Reader_101 io_Reader_takeMark so_Reader_takeMark (by decide) rfl rfl rfl (Nat.le_of_ble_eq_true rfl) rfl (sf_12 hF4) (WM.mono h ?_)
      rintro _ σ6 ⟨v6, rfl, hp, h⟩
      show WP E m_Reader_readPart (d + 1) 194 [(0, aP 12), (1, aI x1), (2, aI x2)] [aI v6] σ6 Q
      obtain ⟨g7, h⟩ := h
      refine s_if_eq d_Reader_readPart_194 rfl g7 (fun c => ?_) (fun c => ?_)
      · have h := h.1 c
        refine s_iconst d_Reader_readPart_201 ?_
        exact s_zreturn d_Reader_readPart_202 rfl (by decide) h
      · have h := h.2 c
        refine s_iconst d_Reader_readPart_197 ?_
        refine s_goto d_Reader_readPart_198 rfl ?_
        exact s_zreturn d_Reader_readPart_202 rfl (by decide) h
theorem d_Reader_takeOpening_0 : decode m_Reader_takeOpening.2.1 0 = .ok (.aload_n 0, 1) := by decide +kernel
theorem d_Reader_takeOpening_1 : decode m_Reader_takeOpening.2.1 1 = .ok (.dup, 1) := by decide +kernel
theorem d_Reader_takeOpening_2 : decode m_Reader_takeOpening.2.1 2 = .ok (.getfield 41, 3) := by decide +kernel
theorem d_Reader_takeOpening_5 : decode m_Reader_takeOpening.2.1 5 = .ok (.iload_n 1, 1) := by decide +kernel
theorem d_Reader_takeOpening_6 : decode m_Reader_takeOpening.2.1 6 = .ok (.ifCond .eq 7, 3) := by decide +kernel
theorem d_Reader_takeOpening_9 : decode m_Reader_takeOpening.2.1 9 = .ok (.iconst 1, 1) := by decide +kernel
theorem d_Reader_takeOpening_10 : decode m_Reader_takeOpening.2.1 10 = .ok (.goto 4, 3) := by decide +kernel
theorem d_Reader_takeOpening_13 : decode m_Reader_takeOpening.2.1 13 = .ok (.iconst 0, 1) := by decide +kernel
theorem d_Reader_takeOpening_14 : decode m_Reader_takeOpening.2.1 14 = .ok (.iadd, 1) := by decide +kernel
theorem d_Reader_takeOpening_15 : decode m_Reader_takeOpening.2.1 15 = .ok (.putfield 41, 3) := by decide +kernel
theorem d_Reader_takeOpening_18 : decode m_Reader_takeOpening.2.1 18 = .ok (.iload_n 1, 1) := by decide +kernel
theorem d_Reader_takeOpening_19 : decode m_Reader_takeOpening.2.1 19 = .ok (.ireturn, 1) := by decide +kernel
theorem b_Reader_takeOpening_0 {E : EV} {d : Nat} {Q : Option AV → St → Prop} {σ : St} (x1 : Int) (hF : Fix σ) (h : (rI x1) ∧ ((x1 = 0 → WP E m_Reader_takeOpening d 14 [(1, aI x1)] [aI 0, aI (σ.1 12 6), aP 12] σ Q) ∧ (¬ x1 = 0 → WP E m_Reader_takeOpening d 14 [(1, aI x1)] [aI 1, aI (σ.1 12 6), aP 12] σ Q))) : WP E m_Reader_takeOpening d 0 [(0, aP 12), (1, aI x1)] [] σ Q := by
  refine s_aload_n 0 d_Reader_takeOpening_0 rfl rfl ?_
  refine s_dup d_Reader_takeOpening_1 (Nat.ne_of_beq_eq_false rfl) ?_
  refine s_getF (v := σ.1 12 6) d_Reader_takeOpening_2 fl_Reader_41 rfl (sf_12 hF) rfl ?_
  refine s_iload_n 1 d_Reader_takeOpening_5 rfl rfl ?_
  obtain ⟨g1, h⟩ := h
  refine s_if_eq d_Reader_takeOpening_6 rfl g1 (fun c => ?_) (fun c => ?_)
  · have h := h.1 c
    refine s_iconst d_Reader_takeOpening_13 ?_
    refine wp_drop [1] rfl ?_
    exact h
  · have h := h.2 c
    refine s_iconst d_Reader_takeOpening_9 ?_
    refine s_goto d_Reader_takeOpening_10 rfl ?_
    refine wp_drop [1] rfl ?_
    exact h
theorem e_Reader_takeOpening {E : EV} {d : Nat} {Q : Option AV → St → Prop} {σ : St} (x1 : Int) (hF : Fix σ) (h : (rI x1) ∧ ((x1 = 0 → WP E m_Reader_takeOpening d 14 [(1, aI x1)] [aI 0, aI (σ.1 12 6), aP 12] σ Q) ∧ (¬ x1 = 0 → WP E m_Reader_takeOpening d 14 [(1, aI x1)] [aI 1, aI (σ.1 12 6), aP 12] σ Q))) : WM E m_Reader_takeOpening d [aP 12, aI x1] σ Q := s_meth (by decide) (Nat.le_of_ble_eq_true rfl) rfl (b_Reader_takeOpening_0 x1 hF h)
theorem b_Reader_takeOpening_14 {E : EV} {d : Nat} {Q : Option AV → St → Prop} {σ : St} (x1 s0 s1 s2 : Int) (h : (sh σ s0 = some (5, 12)) ∧ (x1 = 0 ∨ x1 = 1) ∧ Q (some (aI x1)) (wr σ s0 6 (s1 + s2))) : WP E m_Reader_takeOpening d 14 [(1, aI x1)] [aI s2, aI s1, aP s0] σ Q := by
  refine s_iadd d_Reader_takeOpening_14 ?_
  obtain ⟨g1, h⟩ := h
  refine s_putf 6 rfl d_Reader_takeOpening_15 fl_Reader_41 (fun C T h => by cases h; exact Or.inl rfl) rfl (Or.inl rfl) (fun h => nomatch h) g1 ?_
  refine s_iload_n 0 d_Reader_takeOpening_18 rfl rfl ?_
  obtain ⟨g2, h⟩ := h
  exact s_zreturn d_Reader_takeOpening_19 rfl g2 h
theorem d_Reader_takeMark_0 : decode m_Reader_takeMark.2.1 0 = .ok (.aload_n 0, 1) := by decide +kernel
theorem d_Reader_takeMark_1 : decode m_Reader_takeMark.2.1 1 = .ok (.invokevirtual 77, 3) := by decide +kernel
theorem d_Reader_takeMark_4 : decode m_Reader_takeMark.2.1 4 = .ok (.iload_n 1, 1) := by decide +kernel
theorem d_Reader_takeMark_5 : decode m_Reader_takeMark.2.1 5 = .ok (.if_icmp .eq 5, 3) := by decide +kernel
theorem d_Reader_takeMark_8 : decode m_Reader_takeMark.2.1 8 = .ok (.iconst 0, 1) := by decide +kernel
theorem d_Reader_takeMark_9 : decode m_Reader_takeMark.2.1 9 = .ok (.ireturn, 1) := by decide +kernel
theorem d_Reader_takeMark_10 : decode m_Reader_takeMark.2.1 10 = .ok (.aload_n 0, 1) := by decide +kernel
theorem d_Reader_takeMark_11 : decode m_Reader_takeMark.2.1 11 = .ok (.dup, 1) := by decide +kernel
theorem d_Reader_takeMark_12 : decode m_Reader_takeMark.2.1 12 = .ok (.getfield 41, 3) := by decide +kernel
theorem d_Reader_takeMark_15 : decode m_Reader_takeMark.2.1 15 = .ok (.iconst 1, 1) := by decide +kernel
theorem d_Reader_takeMark_16 : decode m_Reader_takeMark.2.1 16 = .ok (.iadd, 1) := by decide +kernel
theorem d_Reader_takeMark_17 : decode m_Reader_takeMark.2.1 17 = .ok (.putfield 41, 3) := by decide +kernel
theorem d_Reader_takeMark_20 : decode m_Reader_takeMark.2.1 20 = .ok (.iconst 1, 1) := by decide +kernel
theorem d_Reader_takeMark_21 : decode m_Reader_takeMark.2.1 21 = .ok (.ireturn, 1) := by decide +kernel
theorem b_Reader_takeMark_0 {E : EV} {d : Nat} {Q : Option AV → St → Prop} {σ : St} (x1 : Int) (hF : Fix σ) (h : (WMi E m_Reader_next d [aP 12] σ (fun v1 σ1 => Fix σ1 ∧ (rI v1) ∧ (rI x1) ∧ ((v1 = x1 → Q (some (aI 1)) (wr σ1 12 6 ((σ1.1 12 6) + 1))) ∧ (¬ v1 = x1 → Q (some (aI 0)) σ1))))) : WP E m_Reader_takeMark (d + 1) 0 [(0, aP 12), (1, aI x1)] [] σ Q := by
  refine s_aload_n 0 d_Reader_takeMark_0 rfl rfl ?_
  refine s_callV (as := []) (ci := 5) d_Reader_takeMark_1 ok_Reader_next lk_Reader_77 io_Reader_next so_Reader_next (by decide) rfl rfl rfl (Nat.le_of_ble_eq_true rfl) rfl (sf_12 hF) (WM.mono h ?_)
  rintro _ σ1 ⟨v1, rfl, hp, h⟩
  obtain ⟨hF1, h⟩ := h
  show WP E m_Reader_takeMark (d + 1) 4 [(0, aP 12), (1, aI x1)] [aI v1] σ1 Q
  refine s_iload_n 1 d_Reader_takeMark_4 rfl rfl ?_
  obtain ⟨g2, h⟩ := h
  obtain ⟨g3, h⟩ := h
  refine s_icmp_eq d_Reader_takeMark_5 rfl g2 g3 (fun c => ?_) (fun c => ?_)
  · have h := h.1 c
    refine s_aload_n 0 d_Reader_takeMark_10 rfl rfl ?_
    refine s_dup d_Reader_takeMark_11 (Nat.ne_of_beq_eq_false rfl) ?_
    refine s_getF (v := σ1.1 12 6) d_Reader_takeMark_12 fl_Reader_41 rfl (sf_12 hF1) rfl ?_
    refine s_iconst d_Reader_takeMark_15 ?_
    refine s_iadd d_Reader_takeMark_16 ?_
    refine s_putf 6 rfl d_Reader_takeMark_17 fl_Reader_41 (fun C T h => by cases h; exact Or.inl rfl) rfl (Or.inl rfl) (fun h => nomatch h) (sf_12 hF1) ?_
    refine s_iconst d_Reader_takeMark_20 ?_
    exact s_zreturn d_Reader_takeMark_21 rfl (by decide) h
  · have h := h.2 c
    refine s_iconst d_Reader_takeMark_8 ?_
    exact s_zreturn d_Reader_takeMark_9 rfl (by decide) h
theorem e_Reader_takeMark {E : EV} {d : Nat} {Q : Option AV → St → Prop} {σ : St} (x1 : Int) (hF : Fix σ) (h : (WMi E m_Reader_next d [aP 12] σ (fun v1 σ1 => Fix σ1 ∧ (rI v1) ∧ (rI x1) ∧ ((v1 = x1 → Q (some (aI 1)) (wr σ1 12 6 ((σ1.1 12 6) + 1))) ∧ (¬ v1 = x1 → Q (some (aI 0)) σ1))))) : WM E m_Reader_takeMark (d + 1) [aP 12, aI x1] σ Q := s_meth (by decide) (Nat.le_of_ble_eq_true rfl) rfl (b_Reader_takeMark_0 x1 hF h)
theorem d_Reader_keepLine_0 : decode m_Reader_keepLine.2.1 0 = .ok (.iconst 0, 1) := by decide +kernel
theorem d_Reader_keepLine_1 : decode m_Reader_keepLine.2.1 1 = .ok (.iload_n 1, 1) := by decide +kernel
theorem d_Reader_keepLine_2 : decode m_Reader_keepLine.2.1 2 = .ok (.invokestatic 69, 3) := by decide +kernel
theorem d_Reader_keepLine_5 : decode m_Reader_keepLine.2.1 5 = .ok (.anewarray 26, 3) := by decide +kernel
theorem d_Reader_keepLine_8 : decode m_Reader_keepLine.2.1 8 = .ok (.astore_n 3, 1) := by decide +kernel
theorem d_Reader_keepLine_9 : decode m_Reader_keepLine.2.1 9 = .ok (.iconst 0, 1) := by decide +kernel
theorem d_Reader_keepLine_10 : decode m_Reader_keepLine.2.1 10 = .ok (.istore 4, 2) := by decide +kernel
theorem d_Reader_keepLine_12 : decode m_Reader_keepLine.2.1 12 = .ok (.iload 4, 2) := by decide +kernel
theorem d_Reader_keepLine_14 : decode m_Reader_keepLine.2.1 14 = .ok (.aload_n 3, 1) := by decide +kernel
theorem d_Reader_keepLine_15 : decode m_Reader_keepLine.2.1 15 = .ok (.arraylength, 1) := by decide +kernel
theorem d_Reader_keepLine_16 : decode m_Reader_keepLine.2.1 16 = .ok (.if_icmp .ge 30, 3) := by decide +kernel
theorem d_Reader_keepLine_19 : decode m_Reader_keepLine.2.1 19 = .ok (.iload 4, 2) := by decide +kernel
theorem d_Reader_keepLine_21 : decode m_Reader_keepLine.2.1 21 = .ok (.aload_n 0, 1) := by decide +kernel
theorem d_Reader_keepLine_22 : decode m_Reader_keepLine.2.1 22 = .ok (.getfield 28, 3) := by decide +kernel
theorem d_Reader_keepLine_25 : decode m_Reader_keepLine.2.1 25 = .ok (.arraylength, 1) := by decide +kernel
theorem d_Reader_keepLine_26 : decode m_Reader_keepLine.2.1 26 = .ok (.if_icmp .ge 20, 3) := by decide +kernel
theorem d_Reader_keepLine_29 : decode m_Reader_keepLine.2.1 29 = .ok (.aload_n 3, 1) := by decide +kernel
theorem d_Reader_keepLine_30 : decode m_Reader_keepLine.2.1 30 = .ok (.iload 4, 2) := by decide +kernel
theorem d_Reader_keepLine_32 : decode m_Reader_keepLine.2.1 32 = .ok (.aload_n 0, 1) := by decide +kernel
theorem d_Reader_keepLine_33 : decode m_Reader_keepLine.2.1 33 = .ok (.getfield 28, 3) := by decide +kernel
theorem d_Reader_keepLine_36 : decode m_Reader_keepLine.2.1 36 = .ok (.iload 4, 2) := by decide +kernel
theorem d_Reader_keepLine_38 : decode m_Reader_keepLine.2.1 38 = .ok (.aaload, 1) := by decide +kernel
theorem d_Reader_keepLine_39 : decode m_Reader_keepLine.2.1 39 = .ok (.aastore, 1) := by decide +kernel
theorem d_Reader_keepLine_40 : decode m_Reader_keepLine.2.1 40 = .ok (.iinc 4 1, 3) := by decide +kernel
theorem d_Reader_keepLine_43 : decode m_Reader_keepLine.2.1 43 = .ok (.goto (-31), 3) := by decide +kernel
theorem d_Reader_keepLine_46 : decode m_Reader_keepLine.2.1 46 = .ok (.aload_n 0, 1) := by decide +kernel
theorem d_Reader_keepLine_47 : decode m_Reader_keepLine.2.1 47 = .ok (.getfield 51, 3) := by decide +kernel
theorem d_Reader_keepLine_50 : decode m_Reader_keepLine.2.1 50 = .ok (.aload_n 0, 1) := by decide +kernel
theorem d_Reader_keepLine_51 : decode m_Reader_keepLine.2.1 51 = .ok (.getfield 34, 3) := by decide +kernel
theorem d_Reader_keepLine_54 : decode m_Reader_keepLine.2.1 54 = .ok (.arraylength, 1) := by decide +kernel
theorem d_Reader_keepLine_55 : decode m_Reader_keepLine.2.1 55 = .ok (.if_icmp .lt 5, 3) := by decide +kernel
theorem d_Reader_keepLine_58 : decode m_Reader_keepLine.2.1 58 = .ok (.iconst 0, 1) := by decide +kernel
theorem d_Reader_keepLine_59 : decode m_Reader_keepLine.2.1 59 = .ok (.ireturn, 1) := by decide +kernel
theorem d_Reader_keepLine_60 : decode m_Reader_keepLine.2.1 60 = .ok (.aload_n 0, 1) := by decide +kernel
theorem d_Reader_keepLine_61 : decode m_Reader_keepLine.2.1 61 = .ok (.getfield 34, 3) := by decide +kernel
theorem d_Reader_keepLine_64 : decode m_Reader_keepLine.2.1 64 = .ok (.aload_n 0, 1) := by decide +kernel
theorem d_Reader_keepLine_65 : decode m_Reader_keepLine.2.1 65 = .ok (.getfield 51, 3) := by decide +kernel
theorem d_Reader_keepLine_68 : decode m_Reader_keepLine.2.1 68 = .ok (.new 32, 3) := by decide +kernel
theorem d_Reader_keepLine_71 : decode m_Reader_keepLine.2.1 71 = .ok (.dup, 1) := by decide +kernel
theorem d_Reader_keepLine_72 : decode m_Reader_keepLine.2.1 72 = .ok (.aload_n 3, 1) := by decide +kernel
theorem d_Reader_keepLine_73 : decode m_Reader_keepLine.2.1 73 = .ok (.iload_n 2, 1) := by decide +kernel
theorem d_Reader_keepLine_74 : decode m_Reader_keepLine.2.1 74 = .ok (.invokespecial 147, 3) := by decide +kernel
theorem d_Reader_keepLine_77 : decode m_Reader_keepLine.2.1 77 = .ok (.aastore, 1) := by decide +kernel
theorem d_Reader_keepLine_78 : decode m_Reader_keepLine.2.1 78 = .ok (.aload_n 0, 1) := by decide +kernel
theorem d_Reader_keepLine_79 : decode m_Reader_keepLine.2.1 79 = .ok (.dup, 1) := by decide +kernel
theorem d_Reader_keepLine_80 : decode m_Reader_keepLine.2.1 80 = .ok (.getfield 51, 3) := by decide +kernel
theorem d_Reader_keepLine_83 : decode m_Reader_keepLine.2.1 83 = .ok (.iconst 1, 1) := by decide +kernel
theorem d_Reader_keepLine_84 : decode m_Reader_keepLine.2.1 84 = .ok (.iadd, 1) := by decide +kernel
theorem d_Reader_keepLine_85 : decode m_Reader_keepLine.2.1 85 = .ok (.putfield 51, 3) := by decide +kernel
theorem d_Reader_keepLine_88 : decode m_Reader_keepLine.2.1 88 = .ok (.iconst 1, 1) := by decide +kernel
theorem d_Reader_keepLine_89 : decode m_Reader_keepLine.2.1 89 = .ok (.ireturn, 1) := by decide +kernel
theorem b_Reader_keepLine_0 {E : EV} {d : Nat} {Q : Option AV → St → Prop} {σ : St} (x1 x2 : Int) (h : (rI x1) ∧ (0 ≤ (max 0 x1) ∧ (max 0 x1) ≤ 1000000) ∧ WP E m_Reader_keepLine (d + 1) 12 [(0, aP 12), (2, aI x2), (3, aP (nx σ)), (4, aI 0)] [] (al σ 24 (Int.toNat (max 0 x1))) Q) : WP E m_Reader_keepLine (d + 1) 0 [(0, aP 12), (1, aI x1), (2, aI x2)] [] σ Q := by
  refine s_iconst d_Reader_keepLine_0 ?_
  refine s_iload_n 1 d_Reader_keepLine_1 rfl rfl ?_
  obtain ⟨g1, h⟩ := h
  refine s_mmax d_Reader_keepLine_2 lm_Reader_69 lm_max_s lm_i lm_max_c (Nat.le_of_ble_eq_true rfl) (by decide) g1 ?_
  obtain ⟨g2, h⟩ := h
  refine s_anewarray (kd := 24) d_Reader_keepLine_5 (by decide) rfl nw_Reader_26 g2 ?_
  refine s_astore_n d_Reader_keepLine_8 rfl (by decide) rfl ?_
  refine s_iconst d_Reader_keepLine_9 ?_
  refine s_istore d_Reader_keepLine_10 (by decide) rfl ?_
  refine wp_drop [2, 4, 1, 0] rfl ?_
  exact h
theorem e_Reader_keepLine {E : EV} {d : Nat} {Q : Option AV → St → Prop} {σ : St} (x1 x2 : Int) (h : (rI x1) ∧ (0 ≤ (max 0 x1) ∧ (max 0 x1) ≤ 1000000) ∧ WP E m_Reader_keepLine (d + 1) 12 [(0, aP 12), (2, aI x2), (3, aP (nx σ)), (4, aI 0)] [] (al σ 24 (Int.toNat (max 0 x1))) Q) : WM E m_Reader_keepLine (d + 1) [aP 12, aI x1, aI x2] σ Q := s_meth (by decide) (Nat.le_of_ble_eq_true rfl) rfl (b_Reader_keepLine_0 x1 x2 h)
theorem b_Reader_keepLine_12 {E : EV} {d : Nat} {Q : Option AV → St → Prop} {σ : St} (x2 x3 x4 : Int) (hF : Fix σ) (h : (sa σ x3 24) ∧ (rI x4) ∧ (rI (ln σ x3)) ∧ (((ln σ x3) ≤ x4 → WP E m_Reader_keepLine (d + 1) 46 [(0, aP 12), (2, aI x2), (3, aP x3)] [] σ Q) ∧ (¬ (ln σ x3) ≤ x4 → (rI x4) ∧ ((8 ≤ x4 → WP E m_Reader_keepLine (d + 1) 46 [(0, aP 12), (2, aI x2), (3, aP x3)] [] σ Q) ∧ (¬ 8 ≤ x4 → (0 ≤ x4 ∧ x4 < 8) ∧ (inb σ x3 24 x4) ∧ ((σ.1 16 x4) = 0 ∨ sh σ (σ.1 16 x4) = some (7, 1)) ∧ WP E m_Reader_keepLine (d + 1) 12 [(0, aP 12), (2, aI x2), (3, aP x3), (4, aI (x4 + 1))] [] (wr σ x3 x4 (σ.1 16 x4)) Q))))) : WP E m_Reader_keepLine (d + 1) 12 [(0, aP 12), (2, aI x2), (3, aP x3), (4, aI x4)] [] σ Q := by
  refine s_iload 3 d_Reader_keepLine_12 rfl ?_
  refine s_aload_n 2 d_Reader_keepLine_14 rfl rfl ?_
  obtain ⟨g1, h⟩ := h
  refine s_alenS (by decide) d_Reader_keepLine_15 g1 ?_
  obtain ⟨g2, h⟩ := h
  obtain ⟨g3, h⟩ := h
  refine s_icmp_ge d_Reader_keepLine_16 rfl g2 g3 (fun c => ?_) (fun c => ?_)
  · have h := h.1 c
    refine wp_drop [0, 1, 2] rfl ?_
    exact h
  · have h := h.2 c
    refine s_iload 3 d_Reader_keepLine_19 rfl ?_
    refine s_aload_n 0 d_Reader_keepLine_21 rfl rfl ?_
    refine s_getF (v := 16) d_Reader_keepLine_22 fl_Reader_28 rfl (sf_12 hF) (ff_9 hF) ?_
    refine s_alenv (v := 8) (by decide) d_Reader_keepLine_25 (sf_16 hF) (by decide) ?_
    obtain ⟨g4, h⟩ := h
    refine s_icmp_ge d_Reader_keepLine_26 rfl g4 (by decide) (fun c => ?_) (fun c => ?_)
    · have h := h.1 c
      refine wp_drop [0, 1, 2] rfl ?_
      exact h
    · have h := h.2 c
      refine s_aload_n 2 d_Reader_keepLine_29 rfl rfl ?_
      refine s_iload 3 d_Reader_keepLine_30 rfl ?_
      refine s_aload_n 0 d_Reader_keepLine_32 rfl rfl ?_
      refine s_getF (v := 16) d_Reader_keepLine_33 fl_Reader_28 rfl (sf_12 hF) (ff_9 hF) ?_
      refine s_iload 3 d_Reader_keepLine_36 rfl ?_
      obtain ⟨g5, h⟩ := h
      refine s_aaloadv (v := σ.1 16 x4) (by decide) d_Reader_keepLine_38 ⟨_, sf_16 hF, g5.1, g5.2, by have := g5.2; omega⟩ rfl ?_
      obtain ⟨g6, h⟩ := h
      obtain ⟨g7, h⟩ := h
      refine s_aastore (ci := 7) (N := 1) (by decide) d_Reader_keepLine_39 g6 g7 ?_
      refine s_iinc 3 d_Reader_keepLine_40 rfl (by decide) rfl ?_
      refine s_goto d_Reader_keepLine_43 rfl ?_
      refine wp_drop [1, 2, 3, 0] rfl ?_
      exact h
theorem b_Reader_keepLine_46 {E : EV} {d : Nat} {Q : Option AV → St → Prop} {σ : St} (x2 x3 : Int) (hF : Fix σ) (h : (rI (σ.1 12 8)) ∧ (((σ.1 12 8) < 4 → (0 < (nx σ)) ∧ (WMv E m_Line_init d [aP (nx σ), aP x3, aI x2] (al σ 3 2) (fun σ2 => Fix σ2 ∧ (0 ≤ (σ.1 12 8) ∧ (σ.1 12 8) < 4) ∧ ((nx σ) = 0 ∨ sh σ2 (nx σ) = some (3, 2)) ∧ Q (some (aI 1)) (wr (wr σ2 17 (σ.1 12 8) (nx σ)) 12 8 ((σ2.1 12 8) + 1))))) ∧ (¬ (σ.1 12 8) < 4 → Q (some (aI 0)) σ))) : WP E m_Reader_keepLine (d + 1) 46 [(0, aP 12), (2, aI x2), (3, aP x3)] [] σ Q := by
  refine s_aload_n 0 d_Reader_keepLine_46 rfl rfl ?_
  refine s_getF (v := σ.1 12 8) d_Reader_keepLine_47 fl_Reader_51 rfl (sf_12 hF) rfl ?_
  refine s_aload_n 0 d_Reader_keepLine_50 rfl rfl ?_
  refine s_getF (v := 17) d_Reader_keepLine_51 fl_Reader_34 rfl (sf_12 hF) (ff_10 hF) ?_
  refine s_alenv (v := 4) (by decide) d_Reader_keepLine_54 (sf_17 hF) (by decide) ?_
  obtain ⟨g1, h⟩ := h
  refine s_icmp_lt d_Reader_keepLine_55 rfl g1 (by decide) (fun c => ?_) (fun c => ?_)
  · have h := h.1 c
    refine s_aload_n 0 d_Reader_keepLine_60 rfl rfl ?_
    refine s_getF (v := 17) d_Reader_keepLine_61 fl_Reader_34 rfl (sf_12 hF) (ff_10 hF) ?_
    refine s_aload_n 0 d_Reader_keepLine_64 rfl rfl ?_
    refine s_getF (v := σ.1 12 8) d_Reader_keepLine_65 fl_Reader_51 rfl (sf_12 hF) rfl ?_
    refine s_new (ci := 3) d_Reader_keepLine_68 (by decide) rfl inG3 tyX3_ok (df_3 E) nw_Reader_32 in_3 ii_3 ?_
    refine s_dup d_Reader_keepLine_71 (Nat.ne_of_beq_eq_false rfl) ?_
    refine s_aload_n 2 d_Reader_keepLine_72 rfl rfl ?_
    refine s_iload_n 1 d_Reader_keepLine_73 rfl rfl ?_
    obtain ⟨g3, h⟩ := h
    refine s_callI (as := [aP x3, aI x2]) d_Reader_keepLine_74 ok_Line_init lk_Reader_147 io_Line_init rfl rfl rfl (Nat.le_of_ble_eq_true rfl) rfl g3 (WM.mono h ?_)
    rintro _ σ2 ⟨rfl, hp, h⟩
    obtain ⟨hF3, h⟩ := h
    show WP E m_Reader_keepLine (d + 1) 77 [(0, aP 12), (2, aI x2), (3, aP x3)] [aP (nx σ), aI (σ.1 12 8), aP 17] σ2 Q
    obtain ⟨g4, h⟩ := h
    obtain ⟨g5, h⟩ := h
    refine s_aastore (ci := 3) (N := 2) (by decide) d_Reader_keepLine_77 ⟨_, sf_17 hF3, g4.1, g4.2, by have := g4.2; omega⟩ g5 ?_
    refine s_aload_n 0 d_Reader_keepLine_78 rfl rfl ?_
    refine s_dup d_Reader_keepLine_79 (Nat.ne_of_beq_eq_false rfl) ?_
    refine s_getF (v := σ2.1 12 8) d_Reader_keepLine_80 fl_Reader_51 rfl (sf_12 (hF3.wa (a := 17) (by decide))) rfl ?_
    refine s_iconst d_Reader_keepLine_83 ?_
    refine s_iadd d_Reader_keepLine_84 ?_
    refine s_putf 8 rfl d_Reader_keepLine_85 fl_Reader_51 (fun C T h => by cases h; exact Or.inl rfl) rfl (Or.inl rfl) (fun h => nomatch h) (sf_12 (hF3.wa (a := 17) (by decide))) ?_
    refine s_iconst d_Reader_keepLine_88 ?_
    exact s_zreturn d_Reader_keepLine_89 rfl (by decide) h
  · have h := h.2 c
    refine s_iconst d_Reader_keepLine_58 ?_
    exact s_zreturn d_Reader_keepLine_59 rfl (by decide) h
theorem d_Reader_told_0 : decode m_Reader_told.2.1 0 = .ok (.iconst 0, 1) := by decide +kernel
theorem d_Reader_told_1 : decode m_Reader_told.2.1 1 = .ok (.aload_n 0, 1) := by decide +kernel
theorem d_Reader_told_2 : decode m_Reader_told.2.1 2 = .ok (.getfield 51, 3) := by decide +kernel
theorem d_Reader_told_5 : decode m_Reader_told.2.1 5 = .ok (.aload_n 0, 1) := by decide +kernel
theorem d_Reader_told_6 : decode m_Reader_told.2.1 6 = .ok (.getfield 34, 3) := by decide +kernel
theorem d_Reader_told_9 : decode m_Reader_told.2.1 9 = .ok (.arraylength, 1) := by decide +kernel
theorem d_Reader_told_10 : decode m_Reader_told.2.1 10 = .ok (.invokestatic 63, 3) := by decide +kernel
theorem d_Reader_told_13 : decode m_Reader_told.2.1 13 = .ok (.invokestatic 69, 3) := by decide +kernel
theorem d_Reader_told_16 : decode m_Reader_told.2.1 16 = .ok (.anewarray 32, 3) := by decide +kernel
theorem d_Reader_told_19 : decode m_Reader_told.2.1 19 = .ok (.astore_n 1, 1) := by decide +kernel
theorem d_Reader_told_20 : decode m_Reader_told.2.1 20 = .ok (.iconst 0, 1) := by decide +kernel
theorem d_Reader_told_21 : decode m_Reader_told.2.1 21 = .ok (.istore_n 2, 1) := by decide +kernel
theorem d_Reader_told_22 : decode m_Reader_told.2.1 22 = .ok (.iload_n 2, 1) := by decide +kernel
theorem d_Reader_told_23 : decode m_Reader_told.2.1 23 = .ok (.aload_n 1, 1) := by decide +kernel
theorem d_Reader_told_24 : decode m_Reader_told.2.1 24 = .ok (.arraylength, 1) := by decide +kernel
theorem d_Reader_told_25 : decode m_Reader_told.2.1 25 = .ok (.if_icmp .ge 27, 3) := by decide +kernel
theorem d_Reader_told_28 : decode m_Reader_told.2.1 28 = .ok (.iload_n 2, 1) := by decide +kernel
theorem d_Reader_told_29 : decode m_Reader_told.2.1 29 = .ok (.aload_n 0, 1) := by decide +kernel
theorem d_Reader_told_30 : decode m_Reader_told.2.1 30 = .ok (.getfield 34, 3) := by decide +kernel
theorem d_Reader_told_33 : decode m_Reader_told.2.1 33 = .ok (.arraylength, 1) := by decide +kernel
theorem d_Reader_told_34 : decode m_Reader_told.2.1 34 = .ok (.if_icmp .ge 18, 3) := by decide +kernel
theorem d_Reader_told_37 : decode m_Reader_told.2.1 37 = .ok (.aload_n 1, 1) := by decide +kernel
theorem d_Reader_told_38 : decode m_Reader_told.2.1 38 = .ok (.iload_n 2, 1) := by decide +kernel
theorem d_Reader_told_39 : decode m_Reader_told.2.1 39 = .ok (.aload_n 0, 1) := by decide +kernel
theorem d_Reader_told_40 : decode m_Reader_told.2.1 40 = .ok (.getfield 34, 3) := by decide +kernel
theorem d_Reader_told_43 : decode m_Reader_told.2.1 43 = .ok (.iload_n 2, 1) := by decide +kernel
theorem d_Reader_told_44 : decode m_Reader_told.2.1 44 = .ok (.aaload, 1) := by decide +kernel
theorem d_Reader_told_45 : decode m_Reader_told.2.1 45 = .ok (.aastore, 1) := by decide +kernel
theorem d_Reader_told_46 : decode m_Reader_told.2.1 46 = .ok (.iinc 2 1, 3) := by decide +kernel
theorem d_Reader_told_49 : decode m_Reader_told.2.1 49 = .ok (.goto (-27), 3) := by decide +kernel
theorem d_Reader_told_52 : decode m_Reader_told.2.1 52 = .ok (.new 72, 3) := by decide +kernel
theorem d_Reader_told_55 : decode m_Reader_told.2.1 55 = .ok (.dup, 1) := by decide +kernel
theorem d_Reader_told_56 : decode m_Reader_told.2.1 56 = .ok (.aload_n 1, 1) := by decide +kernel
theorem d_Reader_told_57 : decode m_Reader_told.2.1 57 = .ok (.aload_n 0, 1) := by decide +kernel
theorem d_Reader_told_58 : decode m_Reader_told.2.1 58 = .ok (.getfield 54, 3) := by decide +kernel
theorem d_Reader_told_61 : decode m_Reader_told.2.1 61 = .ok (.aload_n 0, 1) := by decide +kernel
theorem d_Reader_told_62 : decode m_Reader_told.2.1 62 = .ok (.getfield 57, 3) := by decide +kernel
theorem d_Reader_told_65 : decode m_Reader_told.2.1 65 = .ok (.invokespecial 74, 3) := by decide +kernel
theorem d_Reader_told_68 : decode m_Reader_told.2.1 68 = .ok (.areturn, 1) := by decide +kernel
theorem b_Reader_told_0 {E : EV} {d : Nat} {Q : Option AV → St → Prop} {σ : St} (hF : Fix σ) (h : (rI (σ.1 12 8)) ∧ (rI (min (σ.1 12 8) 4)) ∧ (0 ≤ (max 0 (min (σ.1 12 8) 4)) ∧ (max 0 (min (σ.1 12 8) 4)) ≤ 1000000) ∧ WP E m_Reader_told (d + 1) 22 [(0, aP 12), (1, aP (nx σ)), (2, aI 0)] [] (al σ 25 (Int.toNat (max 0 (min (σ.1 12 8) 4)))) Q) : WP E m_Reader_told (d + 1) 0 [(0, aP 12)] [] σ Q := by
  refine s_iconst d_Reader_told_0 ?_
  refine s_aload_n 0 d_Reader_told_1 rfl rfl ?_
  refine s_getF (v := σ.1 12 8) d_Reader_told_2 fl_Reader_51 rfl (sf_12 hF) rfl ?_
  refine s_aload_n 0 d_Reader_told_5 rfl rfl ?_
  refine s_getF (v := 17) d_Reader_told_6 fl_Reader_34 rfl (sf_12 hF) (ff_10 hF) ?_
  refine s_alenv (v := 4) (by decide) d_Reader_told_9 (sf_17 hF) (by decide) ?_
  obtain ⟨g1, h⟩ := h
  refine s_mmin d_Reader_told_10 lm_Reader_63 lm_min_s lm_i lm_min_c (Nat.le_of_ble_eq_true rfl) g1 (by decide) ?_
  obtain ⟨g2, h⟩ := h
  refine s_mmax d_Reader_told_13 lm_Reader_69 lm_max_s lm_i lm_max_c (Nat.le_of_ble_eq_true rfl) (by decide) g2 ?_
  obtain ⟨g3, h⟩ := h
  refine s_anewarray (kd := 25) d_Reader_told_16 (by decide) rfl nw_Reader_32 g3 ?_
  refine s_astore_n d_Reader_told_19 rfl (by decide) rfl ?_
  refine s_iconst d_Reader_told_20 ?_
  refine s_istore_n d_Reader_told_21 rfl (by decide) rfl ?_
  refine wp_drop [2, 1, 0] rfl ?_
  exact h
theorem e_Reader_told {E : EV} {d : Nat} {Q : Option AV → St → Prop} {σ : St} (hF : Fix σ) (h : (rI (σ.1 12 8)) ∧ (rI (min (σ.1 12 8) 4)) ∧ (0 ≤ (max 0 (min (σ.1 12 8) 4)) ∧ (max 0 (min (σ.1 12 8) 4)) ≤ 1000000) ∧ WP E m_Reader_told (d + 1) 22 [(0, aP 12), (1, aP (nx σ)), (2, aI 0)] [] (al σ 25 (Int.toNat (max 0 (min (σ.1 12 8) 4)))) Q) : WM E m_Reader_told (d + 1) [aP 12] σ Q := s_meth (by decide) (Nat.le_of_ble_eq_true rfl) rfl (b_Reader_told_0 hF h)
theorem b_Reader_told_22 {E : EV} {d : Nat} {Q : Option AV → St → Prop} {σ : St} (x1 x2 : Int) (hF : Fix σ) (h : (sa σ x1 25) ∧ (rI x2) ∧ (rI (ln σ x1)) ∧ (((ln σ x1) ≤ x2 → WP E m_Reader_told (d + 1) 52 [(0, aP 12), (1, aP x1)] [] σ Q) ∧ (¬ (ln σ x1) ≤ x2 → (rI x2) ∧ ((4 ≤ x2 → WP E m_Reader_told (d + 1) 52 [(0, aP 12), (1, aP x1)] [] σ Q) ∧ (¬ 4 ≤ x2 → (0 ≤ x2 ∧ x2 < 4) ∧ (inb σ x1 25 x2) ∧ ((σ.1 17 x2) = 0 ∨ sh σ (σ.1 17 x2) = some (3, 2)) ∧ WP E m_Reader_told (d + 1) 22 [(0, aP 12), (1, aP x1), (2, aI (x2 + 1))] [] (wr σ x1 x2 (σ.1 17 x2)) Q))))) : WP E m_Reader_told (d + 1) 22 [(0, aP 12), (1, aP x1), (2, aI x2)] [] σ Q := by
  refine s_iload_n 2 d_Reader_told_22 rfl rfl ?_
  refine s_aload_n 1 d_Reader_told_23 rfl rfl ?_
  obtain ⟨g1, h⟩ := h
  refine s_alenS (by decide) d_Reader_told_24 g1 ?_
  obtain ⟨g2, h⟩ := h
  obtain ⟨g3, h⟩ := h
  refine s_icmp_ge d_Reader_told_25 rfl g2 g3 (fun c => ?_) (fun c => ?_)
  · have h := h.1 c
    refine wp_drop [0, 1] rfl ?_
    exact h
  · have h := h.2 c
    refine s_iload_n 2 d_Reader_told_28 rfl rfl ?_
    refine s_aload_n 0 d_Reader_told_29 rfl rfl ?_
    refine s_getF (v := 17) d_Reader_told_30 fl_Reader_34 rfl (sf_12 hF) (ff_10 hF) ?_
    refine s_alenv (v := 4) (by decide) d_Reader_told_33 (sf_17 hF) (by decide) ?_
    obtain ⟨g4, h⟩ := h
    refine s_icmp_ge d_Reader_told_34 rfl g4 (by decide) (fun c => ?_) (fun c => ?_)
    · have h := h.1 c
      refine wp_drop [0, 1] rfl ?_
      exact h
    · have h := h.2 c
      refine s_aload_n 1 d_Reader_told_37 rfl rfl ?_
      refine s_iload_n 2 d_Reader_told_38 rfl rfl ?_
      refine s_aload_n 0 d_Reader_told_39 rfl rfl ?_
      refine s_getF (v := 17) d_Reader_told_40 fl_Reader_34 rfl (sf_12 hF) (ff_10 hF) ?_
      refine s_iload_n 2 d_Reader_told_43 rfl rfl ?_
      obtain ⟨g5, h⟩ := h
      refine s_aaloadv (v := σ.1 17 x2) (by decide) d_Reader_told_44 ⟨_, sf_17 hF, g5.1, g5.2, by have := g5.2; omega⟩ rfl ?_
      obtain ⟨g6, h⟩ := h
      obtain ⟨g7, h⟩ := h
      refine s_aastore (ci := 3) (N := 2) (by decide) d_Reader_told_45 g6 g7 ?_
      refine s_iinc 2 d_Reader_told_46 rfl (by decide) rfl ?_
      refine s_goto d_Reader_told_49 rfl ?_
      refine wp_drop [1, 2, 0] rfl ?_
      exact h
theorem b_Reader_told_52 {E : EV} {d : Nat} {Q : Option AV → St → Prop} {σ : St} (x1 : Int) (hF : Fix σ) (h : (0 < (nx σ)) ∧ (WMv E m_Moment_init d [aP (nx σ), aP x1, aI ((al σ 4 3).1 12 9), aI ((al σ 4 3).1 12 10)] (al σ 4 3) (fun σ1 => Q (some (aP (nx σ))) σ1))) : WP E m_Reader_told (d + 1) 52 [(0, aP 12), (1, aP x1)] [] σ Q := by
  refine s_new (ci := 4) d_Reader_told_52 (by decide) rfl inG4 tyX4_ok (df_4 E) nw_Reader_72 in_4 ii_4 ?_
  refine s_dup d_Reader_told_55 (Nat.ne_of_beq_eq_false rfl) ?_
  refine s_aload_n 1 d_Reader_told_56 rfl rfl ?_
  refine s_aload_n 0 d_Reader_told_57 rfl rfl ?_
  refine s_getF (v := (al σ 4 3).1 12 9) d_Reader_told_58 fl_Reader_54 rfl (sf_12 hF.al_) rfl ?_
  refine s_aload_n 0 d_Reader_told_61 rfl rfl ?_
  refine s_getF (v := (al σ 4 3).1 12 10) d_Reader_told_62 fl_Reader_57 rfl (sf_12 hF.al_) rfl ?_
  obtain ⟨g2, h⟩ := h
  refine s_callI (as := [aP x1, aI ((al σ 4 3).1 12 9), aI ((al σ 4 3).1 12 10)]) d_Reader_told_65 ok_Moment_init lk_Reader_74 io_Moment_init rfl rfl rfl (Nat.le_of_ble_eq_true rfl) rfl g2 (WM.mono h ?_)
  rintro _ σ1 ⟨rfl, hp, h⟩
  show WP E m_Reader_told (d + 1) 68 [(0, aP 12), (1, aP x1)] [aP (nx σ)] σ1 Q
  exact s_areturn d_Reader_told_68 rfl (Or.inl ⟨_, rfl⟩) h
