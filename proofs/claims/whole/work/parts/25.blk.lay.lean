theorem d_Layout_init_0 : decode m_Layout_init.2.1 0 = .ok (.aload_n 0, 1) := by decide +kernel
theorem d_Layout_init_1 : decode m_Layout_init.2.1 1 = .ok (.invokespecial 3, 3) := by decide +kernel
theorem d_Layout_init_4 : decode m_Layout_init.2.1 4 = .ok (.aload_n 0, 1) := by decide +kernel
theorem d_Layout_init_5 : decode m_Layout_init.2.1 5 = .ok (.bipush 24, 2) := by decide +kernel
theorem d_Layout_init_7 : decode m_Layout_init.2.1 7 = .ok (.newarray .int, 2) := by decide +kernel
theorem d_Layout_init_9 : decode m_Layout_init.2.1 9 = .ok (.putfield 9, 3) := by decide +kernel
theorem d_Layout_init_12 : decode m_Layout_init.2.1 12 = .ok (.aload_n 0, 1) := by decide +kernel
theorem d_Layout_init_13 : decode m_Layout_init.2.1 13 = .ok (.bipush 24, 2) := by decide +kernel
theorem d_Layout_init_15 : decode m_Layout_init.2.1 15 = .ok (.newarray .int, 2) := by decide +kernel
theorem d_Layout_init_17 : decode m_Layout_init.2.1 17 = .ok (.putfield 15, 3) := by decide +kernel
theorem d_Layout_init_20 : decode m_Layout_init.2.1 20 = .ok (.aload_n 0, 1) := by decide +kernel
theorem d_Layout_init_21 : decode m_Layout_init.2.1 21 = .ok (.bipush 24, 2) := by decide +kernel
theorem d_Layout_init_23 : decode m_Layout_init.2.1 23 = .ok (.newarray .int, 2) := by decide +kernel
theorem d_Layout_init_25 : decode m_Layout_init.2.1 25 = .ok (.putfield 18, 3) := by decide +kernel
theorem d_Layout_init_28 : decode m_Layout_init.2.1 28 = .ok (.aload_n 0, 1) := by decide +kernel
theorem d_Layout_init_29 : decode m_Layout_init.2.1 29 = .ok (.bipush 24, 2) := by decide +kernel
theorem d_Layout_init_31 : decode m_Layout_init.2.1 31 = .ok (.newarray .long, 2) := by decide +kernel
theorem d_Layout_init_33 : decode m_Layout_init.2.1 33 = .ok (.putfield 21, 3) := by decide +kernel
theorem d_Layout_init_36 : decode m_Layout_init.2.1 36 = .ok (.aload_n 0, 1) := by decide +kernel
theorem d_Layout_init_37 : decode m_Layout_init.2.1 37 = .ok (.bipush 24, 2) := by decide +kernel
theorem d_Layout_init_39 : decode m_Layout_init.2.1 39 = .ok (.newarray .long, 2) := by decide +kernel
theorem d_Layout_init_41 : decode m_Layout_init.2.1 41 = .ok (.putfield 25, 3) := by decide +kernel
theorem d_Layout_init_44 : decode m_Layout_init.2.1 44 = .ok (.aload_n 0, 1) := by decide +kernel
theorem d_Layout_init_45 : decode m_Layout_init.2.1 45 = .ok (.bipush 24, 2) := by decide +kernel
theorem d_Layout_init_47 : decode m_Layout_init.2.1 47 = .ok (.newarray .long, 2) := by decide +kernel
theorem d_Layout_init_49 : decode m_Layout_init.2.1 49 = .ok (.putfield 28, 3) := by decide +kernel
theorem d_Layout_init_52 : decode m_Layout_init.2.1 52 = .ok (.aload_n 0, 1) := by decide +kernel
theorem d_Layout_init_53 : decode m_Layout_init.2.1 53 = .ok (.bipush 24, 2) := by decide +kernel
theorem d_Layout_init_55 : decode m_Layout_init.2.1 55 = .ok (.newarray .long, 2) := by decide +kernel
theorem d_Layout_init_57 : decode m_Layout_init.2.1 57 = .ok (.putfield 31, 3) := by decide +kernel
theorem d_Layout_init_60 : decode m_Layout_init.2.1 60 = .ok (.aload_n 0, 1) := by decide +kernel
theorem d_Layout_init_61 : decode m_Layout_init.2.1 61 = .ok (.iconst 0, 1) := by decide +kernel
theorem d_Layout_init_62 : decode m_Layout_init.2.1 62 = .ok (.putfield 34, 3) := by decide +kernel
theorem d_Layout_init_65 : decode m_Layout_init.2.1 65 = .ok (.return_, 1) := by decide +kernel
theorem b_Layout_init_0 {E : EV} {d : Nat} {Q : Option AV → St → Prop} {σ : St} (hF : Fix σ) (h : WP E m_Layout_init (d + 1) 12 [(0, aP 23)] [] (wr (al σ 20 24) 23 0 (nx σ)) Q) : WP E m_Layout_init (d + 1) 0 [(0, aP 23)] [] σ Q := by
  refine s_aload_n 0 d_Layout_init_0 rfl rfl ?_
  refine s_objInit d_Layout_init_1 lo_Layout_3 lo_inst lo_code (by decide) (Nat.le_of_ble_eq_true rfl) ?_
  refine s_aload_n 0 d_Layout_init_4 rfl rfl ?_
  refine s_bipush d_Layout_init_5 (by decide) ?_
  refine s_newarray (kd := 20) d_Layout_init_7 (by decide) ac_20 (by decide) ?_
  refine s_putf 0 rfl d_Layout_init_9 fl_Layout_9 (fun C T h => by cases h; exact Or.inr ⟨rfl, rfl, rfl, fk_Layout_9⟩) rfl (Or.inr (Or.inr (Or.inr (Or.inr ⟨_, rfl⟩)))) (fun h => nomatch h) (sf_23 hF.al_) ?_
  exact h
theorem e_Layout_init {E : EV} {d : Nat} {Q : Option AV → St → Prop} {σ : St} (hF : Fix σ) (h : WP E m_Layout_init (d + 1) 12 [(0, aP 23)] [] (wr (al σ 20 24) 23 0 (nx σ)) Q) : WM E m_Layout_init (d + 1) [aP 23] σ Q := s_meth (by decide) (Nat.le_of_ble_eq_true rfl) rfl (b_Layout_init_0 hF h)
theorem b_Layout_init_12 {E : EV} {d : Nat} {Q : Option AV → St → Prop} {σ : St} (hF : Fix σ) (h : WP E m_Layout_init (d + 1) 20 [(0, aP 23)] [] (wr (al σ 20 24) 23 1 (nx σ)) Q) : WP E m_Layout_init (d + 1) 12 [(0, aP 23)] [] σ Q := by
  refine s_aload_n 0 d_Layout_init_12 rfl rfl ?_
  refine s_bipush d_Layout_init_13 (by decide) ?_
  refine s_newarray (kd := 20) d_Layout_init_15 (by decide) ac_20 (by decide) ?_
  refine s_putf 1 rfl d_Layout_init_17 fl_Layout_15 (fun C T h => by cases h; exact Or.inr ⟨rfl, rfl, rfl, fk_Layout_15⟩) rfl (Or.inr (Or.inr (Or.inr (Or.inr ⟨_, rfl⟩)))) (fun h => nomatch h) (sf_23 hF.al_) ?_
  exact h
theorem b_Layout_init_20 {E : EV} {d : Nat} {Q : Option AV → St → Prop} {σ : St} (hF : Fix σ) (h : WP E m_Layout_init (d + 1) 28 [(0, aP 23)] [] (wr (al σ 20 24) 23 2 (nx σ)) Q) : WP E m_Layout_init (d + 1) 20 [(0, aP 23)] [] σ Q := by
  refine s_aload_n 0 d_Layout_init_20 rfl rfl ?_
  refine s_bipush d_Layout_init_21 (by decide) ?_
  refine s_newarray (kd := 20) d_Layout_init_23 (by decide) ac_20 (by decide) ?_
  refine s_putf 2 rfl d_Layout_init_25 fl_Layout_18 (fun C T h => by cases h; exact Or.inr ⟨rfl, rfl, rfl, fk_Layout_18⟩) rfl (Or.inr (Or.inr (Or.inr (Or.inr ⟨_, rfl⟩)))) (fun h => nomatch h) (sf_23 hF.al_) ?_
  exact h
theorem b_Layout_init_28 {E : EV} {d : Nat} {Q : Option AV → St → Prop} {σ : St} (hF : Fix σ) (h : WP E m_Layout_init (d + 1) 36 [(0, aP 23)] [] (wr (al σ 22 24) 23 3 (nx σ)) Q) : WP E m_Layout_init (d + 1) 28 [(0, aP 23)] [] σ Q := by
  refine s_aload_n 0 d_Layout_init_28 rfl rfl ?_
  refine s_bipush d_Layout_init_29 (by decide) ?_
  refine s_newarray (kd := 22) d_Layout_init_31 (by decide) ac_22 (by decide) ?_
  refine s_putf 3 rfl d_Layout_init_33 fl_Layout_21 (fun C T h => by cases h; exact Or.inr ⟨rfl, rfl, rfl, fk_Layout_21⟩) rfl (Or.inr (Or.inr (Or.inr (Or.inr ⟨_, rfl⟩)))) (fun h => nomatch h) (sf_23 hF.al_) ?_
  exact h
theorem b_Layout_init_36 {E : EV} {d : Nat} {Q : Option AV → St → Prop} {σ : St} (hF : Fix σ) (h : WP E m_Layout_init (d + 1) 44 [(0, aP 23)] [] (wr (al σ 22 24) 23 4 (nx σ)) Q) : WP E m_Layout_init (d + 1) 36 [(0, aP 23)] [] σ Q := by
  refine s_aload_n 0 d_Layout_init_36 rfl rfl ?_
  refine s_bipush d_Layout_init_37 (by decide) ?_
  refine s_newarray (kd := 22) d_Layout_init_39 (by decide) ac_22 (by decide) ?_
  refine s_putf 4 rfl d_Layout_init_41 fl_Layout_25 (fun C T h => by cases h; exact Or.inr ⟨rfl, rfl, rfl, fk_Layout_25⟩) rfl (Or.inr (Or.inr (Or.inr (Or.inr ⟨_, rfl⟩)))) (fun h => nomatch h) (sf_23 hF.al_) ?_
  exact h
theorem b_Layout_init_44 {E : EV} {d : Nat} {Q : Option AV → St → Prop} {σ : St} (hF : Fix σ) (h : WP E m_Layout_init (d + 1) 52 [(0, aP 23)] [] (wr (al σ 22 24) 23 5 (nx σ)) Q) : WP E m_Layout_init (d + 1) 44 [(0, aP 23)] [] σ Q := by
  refine s_aload_n 0 d_Layout_init_44 rfl rfl ?_
  refine s_bipush d_Layout_init_45 (by decide) ?_
  refine s_newarray (kd := 22) d_Layout_init_47 (by decide) ac_22 (by decide) ?_
  refine s_putf 5 rfl d_Layout_init_49 fl_Layout_28 (fun C T h => by cases h; exact Or.inr ⟨rfl, rfl, rfl, fk_Layout_28⟩) rfl (Or.inr (Or.inr (Or.inr (Or.inr ⟨_, rfl⟩)))) (fun h => nomatch h) (sf_23 hF.al_) ?_
  exact h
theorem b_Layout_init_52 {E : EV} {d : Nat} {Q : Option AV → St → Prop} {σ : St} (hF : Fix σ) (h : WP E m_Layout_init (d + 1) 60 [(0, aP 23)] [] (wr (al σ 22 24) 23 6 (nx σ)) Q) : WP E m_Layout_init (d + 1) 52 [(0, aP 23)] [] σ Q := by
  refine s_aload_n 0 d_Layout_init_52 rfl rfl ?_
  refine s_bipush d_Layout_init_53 (by decide) ?_
  refine s_newarray (kd := 22) d_Layout_init_55 (by decide) ac_22 (by decide) ?_
  refine s_putf 6 rfl d_Layout_init_57 fl_Layout_31 (fun C T h => by cases h; exact Or.inr ⟨rfl, rfl, rfl, fk_Layout_31⟩) rfl (Or.inr (Or.inr (Or.inr (Or.inr ⟨_, rfl⟩)))) (fun h => nomatch h) (sf_23 hF.al_) ?_
  exact h
theorem b_Layout_init_60 {E : EV} {d : Nat} {Q : Option AV → St → Prop} {σ : St} (hF : Fix σ) (h : WP E m_Layout_init (d + 1) 65 [] [] (wr σ 23 7 0) Q) : WP E m_Layout_init (d + 1) 60 [(0, aP 23)] [] σ Q := by
  refine s_aload_n 0 d_Layout_init_60 rfl rfl ?_
  refine s_iconst d_Layout_init_61 ?_
  refine s_putf 7 rfl d_Layout_init_62 fl_Layout_34 (fun C T h => by cases h; exact Or.inl rfl) rfl (Or.inl rfl) (fun h => nomatch h) (sf_23 hF) ?_
  refine wp_drop [] rfl ?_
  exact h
theorem b_Layout_init_65 {E : EV} {d : Nat} {Q : Option AV → St → Prop} {σ : St} (h : Q none σ) : WP E m_Layout_init (d + 1) 65 [] [] σ Q := by
  exact s_return d_Layout_init_65 rfl h
theorem d_Layout_measure_0 : decode m_Layout_measure.2.1 0 = .ok (.aload_n 0, 1) := by decide +kernel
theorem d_Layout_measure_1 : decode m_Layout_measure.2.1 1 = .ok (.aload_n 1, 1) := by decide +kernel
theorem d_Layout_measure_2 : decode m_Layout_measure.2.1 2 = .ok (.invokevirtual 51, 3) := by decide +kernel
theorem d_Layout_measure_5 : decode m_Layout_measure.2.1 5 = .ok (.bipush 24, 2) := by decide +kernel
theorem d_Layout_measure_7 : decode m_Layout_measure.2.1 7 = .ok (.invokestatic 56, 3) := by decide +kernel
theorem d_Layout_measure_10 : decode m_Layout_measure.2.1 10 = .ok (.putfield 34, 3) := by decide +kernel
theorem d_Layout_measure_13 : decode m_Layout_measure.2.1 13 = .ok (.aload_n 0, 1) := by decide +kernel
theorem d_Layout_measure_14 : decode m_Layout_measure.2.1 14 = .ok (.getfield 34, 3) := by decide +kernel
theorem d_Layout_measure_17 : decode m_Layout_measure.2.1 17 = .ok (.iconst 1, 1) := by decide +kernel
theorem d_Layout_measure_18 : decode m_Layout_measure.2.1 18 = .ok (.isub, 1) := by decide +kernel
theorem d_Layout_measure_19 : decode m_Layout_measure.2.1 19 = .ok (.istore 4, 2) := by decide +kernel
theorem d_Layout_measure_21 : decode m_Layout_measure.2.1 21 = .ok (.iload 4, 2) := by decide +kernel
theorem d_Layout_measure_23 : decode m_Layout_measure.2.1 23 = .ok (.ifCond .lt 99, 3) := by decide +kernel
theorem d_Layout_measure_26 : decode m_Layout_measure.2.1 26 = .ok (.aload_n 1, 1) := by decide +kernel
theorem d_Layout_measure_27 : decode m_Layout_measure.2.1 27 = .ok (.iload 4, 2) := by decide +kernel
theorem d_Layout_measure_29 : decode m_Layout_measure.2.1 29 = .ok (.invokevirtual 59, 3) := by decide +kernel
theorem d_Layout_measure_32 : decode m_Layout_measure.2.1 32 = .ok (.istore 5, 2) := by decide +kernel
theorem d_Layout_measure_34 : decode m_Layout_measure.2.1 34 = .ok (.iload 5, 2) := by decide +kernel
theorem d_Layout_measure_36 : decode m_Layout_measure.2.1 36 = .ok (.invokestatic 62, 3) := by decide +kernel
theorem d_Layout_measure_39 : decode m_Layout_measure.2.1 39 = .ok (.ifCond .eq 15, 3) := by decide +kernel
theorem d_Layout_measure_42 : decode m_Layout_measure.2.1 42 = .ok (.aload_n 0, 1) := by decide +kernel
theorem d_Layout_measure_43 : decode m_Layout_measure.2.1 43 = .ok (.iload 4, 2) := by decide +kernel
theorem d_Layout_measure_45 : decode m_Layout_measure.2.1 45 = .ok (.iload 5, 2) := by decide +kernel
theorem d_Layout_measure_47 : decode m_Layout_measure.2.1 47 = .ok (.iload_n 3, 1) := by decide +kernel
theorem d_Layout_measure_48 : decode m_Layout_measure.2.1 48 = .ok (.invokevirtual 66, 3) := by decide +kernel
theorem d_Layout_measure_51 : decode m_Layout_measure.2.1 51 = .ok (.goto 65, 3) := by decide +kernel
theorem d_Layout_measure_54 : decode m_Layout_measure.2.1 54 = .ok (.aload_n 0, 1) := by decide +kernel
theorem d_Layout_measure_55 : decode m_Layout_measure.2.1 55 = .ok (.getfield 15, 3) := by decide +kernel
theorem d_Layout_measure_58 : decode m_Layout_measure.2.1 58 = .ok (.iload 4, 2) := by decide +kernel
theorem d_Layout_measure_60 : decode m_Layout_measure.2.1 60 = .ok (.aload_n 2, 1) := by decide +kernel
theorem d_Layout_measure_61 : decode m_Layout_measure.2.1 61 = .ok (.iload 5, 2) := by decide +kernel
theorem d_Layout_measure_63 : decode m_Layout_measure.2.1 63 = .ok (.invokestatic 70, 3) := by decide +kernel
theorem d_Layout_measure_66 : decode m_Layout_measure.2.1 66 = .ok (.invokevirtual 73, 3) := by decide +kernel
theorem d_Layout_measure_69 : decode m_Layout_measure.2.1 69 = .ok (.iastore, 1) := by decide +kernel
theorem d_Layout_measure_70 : decode m_Layout_measure.2.1 70 = .ok (.aload_n 0, 1) := by decide +kernel
theorem d_Layout_measure_71 : decode m_Layout_measure.2.1 71 = .ok (.getfield 18, 3) := by decide +kernel
theorem d_Layout_measure_74 : decode m_Layout_measure.2.1 74 = .ok (.iload 4, 2) := by decide +kernel
theorem d_Layout_measure_76 : decode m_Layout_measure.2.1 76 = .ok (.aload_n 2, 1) := by decide +kernel
theorem d_Layout_measure_77 : decode m_Layout_measure.2.1 77 = .ok (.iload 5, 2) := by decide +kernel
theorem d_Layout_measure_79 : decode m_Layout_measure.2.1 79 = .ok (.invokestatic 70, 3) := by decide +kernel
theorem d_Layout_measure_82 : decode m_Layout_measure.2.1 82 = .ok (.invokevirtual 78, 3) := by decide +kernel
theorem d_Layout_measure_85 : decode m_Layout_measure.2.1 85 = .ok (.iastore, 1) := by decide +kernel
theorem d_Layout_measure_86 : decode m_Layout_measure.2.1 86 = .ok (.aload_n 0, 1) := by decide +kernel
theorem d_Layout_measure_87 : decode m_Layout_measure.2.1 87 = .ok (.getfield 9, 3) := by decide +kernel
theorem d_Layout_measure_90 : decode m_Layout_measure.2.1 90 = .ok (.iload 4, 2) := by decide +kernel
theorem d_Layout_measure_92 : decode m_Layout_measure.2.1 92 = .ok (.iload 5, 2) := by decide +kernel
theorem d_Layout_measure_94 : decode m_Layout_measure.2.1 94 = .ok (.invokestatic 81, 3) := by decide +kernel
theorem d_Layout_measure_97 : decode m_Layout_measure.2.1 97 = .ok (.ifCond .eq 14, 3) := by decide +kernel
theorem d_Layout_measure_100 : decode m_Layout_measure.2.1 100 = .ok (.aload_n 0, 1) := by decide +kernel
theorem d_Layout_measure_101 : decode m_Layout_measure.2.1 101 = .ok (.iload 4, 2) := by decide +kernel
theorem d_Layout_measure_103 : decode m_Layout_measure.2.1 103 = .ok (.iconst 1, 1) := by decide +kernel
theorem d_Layout_measure_104 : decode m_Layout_measure.2.1 104 = .ok (.iadd, 1) := by decide +kernel
theorem d_Layout_measure_105 : decode m_Layout_measure.2.1 105 = .ok (.invokevirtual 84, 3) := by decide +kernel
theorem d_Layout_measure_108 : decode m_Layout_measure.2.1 108 = .ok (.goto 7, 3) := by decide +kernel
theorem d_Layout_measure_111 : decode m_Layout_measure.2.1 111 = .ok (.iload 4, 2) := by decide +kernel
theorem d_Layout_measure_113 : decode m_Layout_measure.2.1 113 = .ok (.iconst 1, 1) := by decide +kernel
theorem d_Layout_measure_114 : decode m_Layout_measure.2.1 114 = .ok (.iadd, 1) := by decide +kernel
theorem d_Layout_measure_115 : decode m_Layout_measure.2.1 115 = .ok (.iastore, 1) := by decide +kernel
theorem d_Layout_measure_116 : decode m_Layout_measure.2.1 116 = .ok (.iinc 4 (-1), 3) := by decide +kernel
theorem d_Layout_measure_119 : decode m_Layout_measure.2.1 119 = .ok (.goto (-98), 3) := by decide +kernel
theorem d_Layout_measure_122 : decode m_Layout_measure.2.1 122 = .ok (.return_, 1) := by decide +kernel
theorem b_Layout_measure_0 {E : EV} {d : Nat} {Q : Option AV → St → Prop} {σ : St} (x1 x2 x3 : Int) (hF : Fix σ) (h : (sh σ x1 = some (7, 1)) ∧ (WMi E m_Sq_length d [aP x1] σ (fun v1 σ1 => Fix σ1 ∧ (rI v1) ∧ WP E m_Layout_measure (d + 1) 21 [(0, aP 23), (1, aP x1), (2, aP x2), (3, aI x3), (4, aI ((min v1 24) - 1))] [] (wr σ1 23 7 (min v1 24)) Q))) : WP E m_Layout_measure (d + 1) 0 [(0, aP 23), (1, aP x1), (2, aP x2), (3, aI x3)] [] σ Q := by
  refine s_aload_n 0 d_Layout_measure_0 rfl rfl ?_
  refine s_aload_n 1 d_Layout_measure_1 rfl rfl ?_
  obtain ⟨g2, h⟩ := h
  refine s_callV (as := []) (ci := 7) d_Layout_measure_2 ok_Sq_length lk_Layout_51 io_Sq_length so_Sq_length (by decide) rfl rfl rfl (Nat.le_of_ble_eq_true rfl) rfl g2 (WM.mono h ?_)
  rintro _ σ1 ⟨v1, rfl, hp, h⟩
  obtain ⟨hF2, h⟩ := h
  show WP E m_Layout_measure (d + 1) 5 [(0, aP 23), (1, aP x1), (2, aP x2), (3, aI x3)] [aI v1, aP 23] σ1 Q
  refine s_bipush d_Layout_measure_5 (by decide) ?_
  obtain ⟨g3, h⟩ := h
  refine s_mmin d_Layout_measure_7 lm_Layout_56 lm_min_s lm_i lm_min_c (Nat.le_of_ble_eq_true rfl) g3 (by decide) ?_
  refine s_putf 7 rfl d_Layout_measure_10 fl_Layout_34 (fun C T h => by cases h; exact Or.inl rfl) rfl (Or.inl rfl) (fun h => nomatch h) (sf_23 hF2) ?_
  refine s_aload_n 0 d_Layout_measure_13 rfl rfl ?_
  refine s_getF (v := min v1 24) d_Layout_measure_14 fl_Layout_34 rfl (sf_23 (hF2.wf (a := 23) (k := 7) (by decide))) rfl ?_
  refine s_iconst d_Layout_measure_17 ?_
  refine s_isub d_Layout_measure_18 ?_
  refine s_istore d_Layout_measure_19 (by decide) rfl ?_
  refine wp_drop [1, 2, 3, 4, 0] rfl ?_
  exact h
theorem e_Layout_measure {E : EV} {d : Nat} {Q : Option AV → St → Prop} {σ : St} (x1 x2 x3 : Int) (hF : Fix σ) (h : (sh σ x1 = some (7, 1)) ∧ (WMi E m_Sq_length d [aP x1] σ (fun v1 σ1 => Fix σ1 ∧ (rI v1) ∧ WP E m_Layout_measure (d + 1) 21 [(0, aP 23), (1, aP x1), (2, aP x2), (3, aI x3), (4, aI ((min v1 24) - 1))] [] (wr σ1 23 7 (min v1 24)) Q))) : WM E m_Layout_measure (d + 1) [aP 23, aP x1, aP x2, aI x3] σ Q := s_meth (by decide) (Nat.le_of_ble_eq_true rfl) rfl (b_Layout_measure_0 x1 x2 x3 hF h)
theorem b_Layout_measure_21 {E : EV} {d : Nat} {Q : Option AV → St → Prop} {σ : St} (x1 x2 x3 x4 : Int) (hF : Fix σ) (h : (rI x4) ∧ ((x4 < 0 → Q none σ) ∧ (¬ x4 < 0 → (sh σ x1 = some (7, 1)) ∧ (WMi E m_Sq_symbol d [aP x1, aI x4] σ (fun v2 σ2 => Fix σ2 ∧ (WMi E m_S_isJoint d [aI v2] σ2 (fun v4 σ4 => Fix σ4 ∧ (rI v4) ∧ ((v4 = 0 → (WMi E m_S_letterOf d [aI v2] σ4 (fun v6 σ6 => Fix σ6 ∧ (sh σ6 x2 = some (8, 4)) ∧ (WMi E m_Table_wideOf d [aP x2, aI v6] σ6 (fun v7 σ7 => Fix σ7 ∧ (0 ≤ x4 ∧ x4 < 24) ∧ (WMi E m_S_letterOf d [aI v2] (wr σ7 25 x4 v7) (fun v10 σ10 => Fix σ10 ∧ (sh σ10 x2 = some (8, 4)) ∧ (WMi E m_Table_highOf d [aP x2, aI v10] σ10 (fun v11 σ11 => Fix σ11 ∧ (0 ≤ x4 ∧ x4 < 24) ∧ (WMi E m_S_holds d [aI v2] (wr σ11 26 x4 v11) (fun v14 σ14 => Fix σ14 ∧ (rI v14) ∧ ((v14 = 0 → WP E m_Layout_measure (d + 1) 115 [(0, aP 23), (1, aP x1), (2, aP x2), (3, aI x3), (4, aI x4)] [aI (x4 + 1), aI x4, aP 24] σ14 Q) ∧ (¬ v14 = 0 → (WMi E m_Layout_endAt d [aP 23, aI (x4 + 1)] σ14 (fun v16 σ16 => WP E m_Layout_measure (d + 1) 115 [(0, aP 23), (1, aP x1), (2, aP x2), (3, aI x3), (4, aI x4)] [aI v16, aI x4, aP 24] σ16 Q))))))))))))))) ∧ (¬ v4 = 0 → (WMv E m_Layout_measureBoth d [aP 23, aI x4, aI v2, aI x3] σ4 (fun σ17 => WP E m_Layout_measure (d + 1) 116 [(0, aP 23), (1, aP x1), (2, aP x2), (3, aI x3), (4, aI x4)] [] σ17 Q))))))))))) : WP E m_Layout_measure (d + 1) 21 [(0, aP 23), (1, aP x1), (2, aP x2), (3, aI x3), (4, aI x4)] [] σ Q := by
  refine s_iload 4 d_Layout_measure_21 rfl ?_
  obtain ⟨g1, h⟩ := h
  refine s_if_lt d_Layout_measure_23 rfl g1 (fun c => ?_) (fun c => ?_)
  · have h := h.1 c
    exact s_return d_Layout_measure_122 rfl h
  · have h := h.2 c
    refine s_aload_n 1 d_Layout_measure_26 rfl rfl ?_
    refine s_iload 4 d_Layout_measure_27 rfl ?_
    obtain ⟨g3, h⟩ := h
    refine s_callV (as := [aI x4]) (ci := 7) d_Layout_measure_29 ok_Sq_symbol lk_Layout_59 io_Sq_symbol so_Sq_symbol (by decide) rfl rfl rfl (Nat.le_of_ble_eq_true rfl) rfl g3 (WM.mono h ?_)
    rintro _ σ2 ⟨v2, rfl, hp, h⟩
    obtain ⟨hF3, h⟩ := h
    show WP E m_Layout_measure (d + 1) 32 [(0, aP 23), (1, aP x1), (2, aP x2), (3, aI x3), (4, aI x4)] [aI v2] σ2 Q
    refine s_istore d_Layout_measure_32 (by decide) rfl ?_
    refine s_iload 0 d_Layout_measure_34 rfl ?_
    refine s_callS (as := [aI v2]) d_Layout_measure_36 ok_S_isJoint lk_Layout_62 to_S_isJoint rfl (Nat.le_of_ble_eq_true rfl) rfl (WM.mono h ?_)
    rintro _ σ4 ⟨v4, rfl, hp, h⟩
    obtain ⟨hF4, h⟩ := h
    show WP E m_Layout_measure (d + 1) 39 [(5, aI v2), (0, aP 23), (1, aP x1), (2, aP x2), (3, aI x3), (4, aI x4)] [aI v4] σ4 Q
    obtain ⟨g5, h⟩ := h
    refine s_if_eq d_Layout_measure_39 rfl g5 (fun c => ?_) (fun c => ?_)
    · have h := h.1 c
      refine s_aload_n 1 d_Layout_measure_54 rfl rfl ?_
      refine s_getF (v := 25) d_Layout_measure_55 fl_Layout_15 rfl (sf_23 hF4) (ff_13 hF4) ?_
      refine s_iload 5 d_Layout_measure_58 rfl ?_
      refine s_aload_n 3 d_Layout_measure_60 rfl rfl ?_
      refine s_iload 0 d_Layout_measure_61 rfl ?_
      refine s_callS (as := [aI v2]) d_Layout_measure_63 ok_S_letterOf lk_Layout_70 to_S_letterOf rfl (Nat.le_of_ble_eq_true rfl) rfl (WM.mono h ?_)
      rintro _ σ6 ⟨v6, rfl, hp, h⟩
      obtain ⟨hF6, h⟩ := h
      show WP E m_Layout_measure (d + 1) 66 [(5, aI v2), (0, aP 23), (1, aP x1), (2, aP x2), (3, aI x3), (4, aI x4)] [aI v6, aP x2, aI x4, aP 25] σ6 Q
      obtain ⟨g8, h⟩ := h
      refine s_callV (as := [aI v6]) (ci := 8) d_Layout_measure_66 ok_Table_wideOf lk_Layout_73 io_Table_wideOf so_Table_wideOf (by decide) rfl rfl rfl (Nat.le_of_ble_eq_true rfl) rfl g8 (WM.mono h ?_)
      rintro _ σ7 ⟨v7, rfl, hp, h⟩
      obtain ⟨hF8, h⟩ := h
      show WP E m_Layout_measure (d + 1) 69 [(5, aI v2), (0, aP 23), (1, aP x1), (2, aP x2), (3, aI x3), (4, aI x4)] [aI v7, aI x4, aP 25] σ7 Q
      obtain ⟨g9, h⟩ := h
      refine s_iastore d_Layout_measure_69 ⟨_, sf_25 hF8, g9.1, g9.2, by have := g9.2; omega⟩ ?_
      refine s_aload_n 1 d_Layout_measure_70 rfl rfl ?_
      refine s_getF (v := 26) d_Layout_measure_71 fl_Layout_18 rfl (sf_23 (hF8.wa (a := 25) (by decide))) (ff_14 (hF8.wa (a := 25) (by decide))) ?_
      refine s_iload 5 d_Layout_measure_74 rfl ?_
      refine s_aload_n 3 d_Layout_measure_76 rfl rfl ?_
      refine s_iload 0 d_Layout_measure_77 rfl ?_
      refine s_callS (as := [aI v2]) d_Layout_measure_79 ok_S_letterOf lk_Layout_70 to_S_letterOf rfl (Nat.le_of_ble_eq_true rfl) rfl (WM.mono h ?_)
      rintro _ σ10 ⟨v10, rfl, hp, h⟩
      obtain ⟨hF10, h⟩ := h
      show WP E m_Layout_measure (d + 1) 82 [(5, aI v2), (0, aP 23), (1, aP x1), (2, aP x2), (3, aI x3), (4, aI x4)] [aI v10, aP x2, aI x4, aP 26] σ10 Q
      obtain ⟨g12, h⟩ := h
      refine s_callV (as := [aI v10]) (ci := 8) d_Layout_measure_82 ok_Table_highOf lk_Layout_78 io_Table_highOf so_Table_highOf (by decide) rfl rfl rfl (Nat.le_of_ble_eq_true rfl) rfl g12 (WM.mono h ?_)
      rintro _ σ11 ⟨v11, rfl, hp, h⟩
      obtain ⟨hF12, h⟩ := h
      show WP E m_Layout_measure (d + 1) 85 [(5, aI v2), (0, aP 23), (1, aP x1), (2, aP x2), (3, aI x3), (4, aI x4)] [aI v11, aI x4, aP 26] σ11 Q
      obtain ⟨g13, h⟩ := h
      refine s_iastore d_Layout_measure_85 ⟨_, sf_26 hF12, g13.1, g13.2, by have := g13.2; omega⟩ ?_
      refine s_aload_n 1 d_Layout_measure_86 rfl rfl ?_
      refine s_getF (v := 24) d_Layout_measure_87 fl_Layout_9 rfl (sf_23 (hF12.wa (a := 26) (by decide))) (ff_12 (hF12.wa (a := 26) (by decide))) ?_
      refine s_iload 5 d_Layout_measure_90 rfl ?_
      refine s_iload 0 d_Layout_measure_92 rfl ?_
      refine s_callS (as := [aI v2]) d_Layout_measure_94 ok_S_holds lk_Layout_81 to_S_holds rfl (Nat.le_of_ble_eq_true rfl) rfl (WM.mono h ?_)
      rintro _ σ14 ⟨v14, rfl, hp, h⟩
      obtain ⟨hF14, h⟩ := h
      show WP E m_Layout_measure (d + 1) 97 [(5, aI v2), (0, aP 23), (1, aP x1), (2, aP x2), (3, aI x3), (4, aI x4)] [aI v14, aI x4, aP 24] σ14 Q
      obtain ⟨g15, h⟩ := h
      refine s_if_eq d_Layout_measure_97 rfl g15 (fun c => ?_) (fun c => ?_)
      · have h := h.1 c
        refine s_iload 5 d_Layout_measure_111 rfl ?_
        refine s_iconst d_Layout_measure_113 ?_
        refine s_iadd d_Layout_measure_114 ?_
        refine wp_drop [1, 2, 3, 4, 5] rfl ?_
        exact h
      · have h := h.2 c
        refine s_aload_n 1 d_Layout_measure_100 rfl rfl ?_
        refine s_iload 5 d_Layout_measure_101 rfl ?_
        refine s_iconst d_Layout_measure_103 ?_
        refine s_iadd d_Layout_measure_104 ?_
        refine s_callV (as := [aI (x4 + 1)]) (ci := 2) d_Layout_measure_105 ok_Layout_endAt lk_Layout_84 io_Layout_endAt so_Layout_endAt (by decide) rfl rfl rfl (Nat.le_of_ble_eq_true rfl) rfl (sf_23 hF14) (WM.mono h ?_)
        rintro _ σ16 ⟨v16, rfl, hp, h⟩
        show WP E m_Layout_measure (d + 1) 108 [(5, aI v2), (0, aP 23), (1, aP x1), (2, aP x2), (3, aI x3), (4, aI x4)] [aI v16, aI x4, aP 24] σ16 Q
        refine s_goto d_Layout_measure_108 rfl ?_
        refine wp_drop [1, 2, 3, 4, 5] rfl ?_
        exact h
    · have h := h.2 c
      refine s_aload_n 1 d_Layout_measure_42 rfl rfl ?_
      refine s_iload 5 d_Layout_measure_43 rfl ?_
      refine s_iload 0 d_Layout_measure_45 rfl ?_
      refine s_iload_n 4 d_Layout_measure_47 rfl rfl ?_
      refine s_callV (as := [aI x4, aI v2, aI x3]) (ci := 2) d_Layout_measure_48 ok_Layout_measureBoth lk_Layout_66 io_Layout_measureBoth so_Layout_measureBoth (by decide) rfl rfl rfl (Nat.le_of_ble_eq_true rfl) rfl (sf_23 hF4) (WM.mono h ?_)
      rintro _ σ17 ⟨rfl, hp, h⟩
      show WP E m_Layout_measure (d + 1) 51 [(5, aI v2), (0, aP 23), (1, aP x1), (2, aP x2), (3, aI x3), (4, aI x4)] [] σ17 Q
      refine s_goto d_Layout_measure_51 rfl ?_
      refine wp_drop [1, 2, 3, 4, 5] rfl ?_
      exact h
theorem b_Layout_measure_115 {E : EV} {d : Nat} {Q : Option AV → St → Prop} {σ : St} (x1 x2 x3 x4 s0 s1 s2 : Int) (h : (inb σ s0 20 s1) ∧ WP E m_Layout_measure (d + 1) 116 [(0, aP 23), (1, aP x1), (2, aP x2), (3, aI x3), (4, aI x4)] [] (wr σ s0 s1 s2) Q) : WP E m_Layout_measure (d + 1) 115 [(0, aP 23), (1, aP x1), (2, aP x2), (3, aI x3), (4, aI x4)] [aI s2, aI s1, aP s0] σ Q := by
  obtain ⟨g1, h⟩ := h
  refine s_iastore d_Layout_measure_115 g1 ?_
  exact h
theorem b_Layout_measure_116 {E : EV} {d : Nat} {Q : Option AV → St → Prop} {σ : St} (x1 x2 x3 x4 : Int) (h : WP E m_Layout_measure (d + 1) 21 [(0, aP 23), (1, aP x1), (2, aP x2), (3, aI x3), (4, aI (x4 + (-1)))] [] σ Q) : WP E m_Layout_measure (d + 1) 116 [(0, aP 23), (1, aP x1), (2, aP x2), (3, aI x3), (4, aI x4)] [] σ Q := by
  refine s_iinc 4 d_Layout_measure_116 rfl (by decide) rfl ?_
  refine s_goto d_Layout_measure_119 rfl ?_
  refine wp_drop [1, 2, 3, 4, 0] rfl ?_
  exact h
theorem d_Layout_measureBoth_0 : decode m_Layout_measureBoth.2.1 0 = .ok (.iload_n 1, 1) := by decide +kernel
theorem d_Layout_measureBoth_1 : decode m_Layout_measureBoth.2.1 1 = .ok (.iconst 1, 1) := by decide +kernel
theorem d_Layout_measureBoth_2 : decode m_Layout_measureBoth.2.1 2 = .ok (.iadd, 1) := by decide +kernel
theorem d_Layout_measureBoth_3 : decode m_Layout_measureBoth.2.1 3 = .ok (.istore 4, 2) := by decide +kernel
theorem d_Layout_measureBoth_5 : decode m_Layout_measureBoth.2.1 5 = .ok (.aload_n 0, 1) := by decide +kernel
theorem d_Layout_measureBoth_6 : decode m_Layout_measureBoth.2.1 6 = .ok (.iload 4, 2) := by decide +kernel
theorem d_Layout_measureBoth_8 : decode m_Layout_measureBoth.2.1 8 = .ok (.invokevirtual 84, 3) := by decide +kernel
theorem d_Layout_measureBoth_11 : decode m_Layout_measureBoth.2.1 11 = .ok (.istore 5, 2) := by decide +kernel
theorem d_Layout_measureBoth_13 : decode m_Layout_measureBoth.2.1 13 = .ok (.iload_n 2, 1) := by decide +kernel
theorem d_Layout_measureBoth_14 : decode m_Layout_measureBoth.2.1 14 = .ok (.bipush 64, 2) := by decide +kernel
theorem d_Layout_measureBoth_16 : decode m_Layout_measureBoth.2.1 16 = .ok (.if_icmp .ne 7, 3) := by decide +kernel
theorem d_Layout_measureBoth_19 : decode m_Layout_measureBoth.2.1 19 = .ok (.iconst 1, 1) := by decide +kernel
theorem d_Layout_measureBoth_20 : decode m_Layout_measureBoth.2.1 20 = .ok (.goto 4, 3) := by decide +kernel
theorem d_Layout_measureBoth_23 : decode m_Layout_measureBoth.2.1 23 = .ok (.iconst 0, 1) := by decide +kernel
theorem d_Layout_measureBoth_24 : decode m_Layout_measureBoth.2.1 24 = .ok (.istore 6, 2) := by decide +kernel
theorem d_Layout_measureBoth_26 : decode m_Layout_measureBoth.2.1 26 = .ok (.aload_n 0, 1) := by decide +kernel
theorem d_Layout_measureBoth_27 : decode m_Layout_measureBoth.2.1 27 = .ok (.getfield 9, 3) := by decide +kernel
theorem d_Layout_measureBoth_30 : decode m_Layout_measureBoth.2.1 30 = .ok (.iload_n 1, 1) := by decide +kernel
theorem d_Layout_measureBoth_31 : decode m_Layout_measureBoth.2.1 31 = .ok (.aload_n 0, 1) := by decide +kernel
theorem d_Layout_measureBoth_32 : decode m_Layout_measureBoth.2.1 32 = .ok (.iload 5, 2) := by decide +kernel
theorem d_Layout_measureBoth_34 : decode m_Layout_measureBoth.2.1 34 = .ok (.invokevirtual 84, 3) := by decide +kernel
theorem d_Layout_measureBoth_37 : decode m_Layout_measureBoth.2.1 37 = .ok (.iastore, 1) := by decide +kernel
theorem d_Layout_measureBoth_38 : decode m_Layout_measureBoth.2.1 38 = .ok (.aload_n 0, 1) := by decide +kernel
theorem d_Layout_measureBoth_39 : decode m_Layout_measureBoth.2.1 39 = .ok (.getfield 15, 3) := by decide +kernel
theorem d_Layout_measureBoth_42 : decode m_Layout_measureBoth.2.1 42 = .ok (.iload_n 1, 1) := by decide +kernel
theorem d_Layout_measureBoth_43 : decode m_Layout_measureBoth.2.1 43 = .ok (.iload 6, 2) := by decide +kernel
theorem d_Layout_measureBoth_45 : decode m_Layout_measureBoth.2.1 45 = .ok (.ifCond .eq 21, 3) := by decide +kernel
theorem d_Layout_measureBoth_48 : decode m_Layout_measureBoth.2.1 48 = .ok (.aload_n 0, 1) := by decide +kernel
theorem d_Layout_measureBoth_49 : decode m_Layout_measureBoth.2.1 49 = .ok (.iload 4, 2) := by decide +kernel
theorem d_Layout_measureBoth_51 : decode m_Layout_measureBoth.2.1 51 = .ok (.invokevirtual 38, 3) := by decide +kernel
theorem d_Layout_measureBoth_54 : decode m_Layout_measureBoth.2.1 54 = .ok (.iload_n 3, 1) := by decide +kernel
theorem d_Layout_measureBoth_55 : decode m_Layout_measureBoth.2.1 55 = .ok (.iadd, 1) := by decide +kernel
theorem d_Layout_measureBoth_56 : decode m_Layout_measureBoth.2.1 56 = .ok (.aload_n 0, 1) := by decide +kernel
theorem d_Layout_measureBoth_57 : decode m_Layout_measureBoth.2.1 57 = .ok (.iload 5, 2) := by decide +kernel
theorem d_Layout_measureBoth_59 : decode m_Layout_measureBoth.2.1 59 = .ok (.invokevirtual 38, 3) := by decide +kernel
theorem d_Layout_measureBoth_62 : decode m_Layout_measureBoth.2.1 62 = .ok (.iadd, 1) := by decide +kernel
theorem d_Layout_measureBoth_63 : decode m_Layout_measureBoth.2.1 63 = .ok (.goto 18, 3) := by decide +kernel
theorem d_Layout_measureBoth_66 : decode m_Layout_measureBoth.2.1 66 = .ok (.aload_n 0, 1) := by decide +kernel
theorem d_Layout_measureBoth_67 : decode m_Layout_measureBoth.2.1 67 = .ok (.iload 4, 2) := by decide +kernel
theorem d_Layout_measureBoth_69 : decode m_Layout_measureBoth.2.1 69 = .ok (.invokevirtual 38, 3) := by decide +kernel
theorem d_Layout_measureBoth_72 : decode m_Layout_measureBoth.2.1 72 = .ok (.aload_n 0, 1) := by decide +kernel
theorem d_Layout_measureBoth_73 : decode m_Layout_measureBoth.2.1 73 = .ok (.iload 5, 2) := by decide +kernel
theorem d_Layout_measureBoth_75 : decode m_Layout_measureBoth.2.1 75 = .ok (.invokevirtual 38, 3) := by decide +kernel
theorem d_Layout_measureBoth_78 : decode m_Layout_measureBoth.2.1 78 = .ok (.invokestatic 45, 3) := by decide +kernel
theorem d_Layout_measureBoth_81 : decode m_Layout_measureBoth.2.1 81 = .ok (.iastore, 1) := by decide +kernel
theorem d_Layout_measureBoth_82 : decode m_Layout_measureBoth.2.1 82 = .ok (.aload_n 0, 1) := by decide +kernel
theorem d_Layout_measureBoth_83 : decode m_Layout_measureBoth.2.1 83 = .ok (.getfield 18, 3) := by decide +kernel
theorem d_Layout_measureBoth_86 : decode m_Layout_measureBoth.2.1 86 = .ok (.iload_n 1, 1) := by decide +kernel
theorem d_Layout_measureBoth_87 : decode m_Layout_measureBoth.2.1 87 = .ok (.iload 6, 2) := by decide +kernel
theorem d_Layout_measureBoth_89 : decode m_Layout_measureBoth.2.1 89 = .ok (.ifCond .eq 21, 3) := by decide +kernel
theorem d_Layout_measureBoth_92 : decode m_Layout_measureBoth.2.1 92 = .ok (.aload_n 0, 1) := by decide +kernel
theorem d_Layout_measureBoth_93 : decode m_Layout_measureBoth.2.1 93 = .ok (.iload 4, 2) := by decide +kernel
theorem d_Layout_measureBoth_95 : decode m_Layout_measureBoth.2.1 95 = .ok (.invokevirtual 42, 3) := by decide +kernel
theorem d_Layout_measureBoth_98 : decode m_Layout_measureBoth.2.1 98 = .ok (.aload_n 0, 1) := by decide +kernel
theorem d_Layout_measureBoth_99 : decode m_Layout_measureBoth.2.1 99 = .ok (.iload 5, 2) := by decide +kernel
theorem d_Layout_measureBoth_101 : decode m_Layout_measureBoth.2.1 101 = .ok (.invokevirtual 42, 3) := by decide +kernel
theorem d_Layout_measureBoth_104 : decode m_Layout_measureBoth.2.1 104 = .ok (.invokestatic 45, 3) := by decide +kernel
theorem d_Layout_measureBoth_107 : decode m_Layout_measureBoth.2.1 107 = .ok (.goto 18, 3) := by decide +kernel
theorem d_Layout_measureBoth_110 : decode m_Layout_measureBoth.2.1 110 = .ok (.aload_n 0, 1) := by decide +kernel
theorem d_Layout_measureBoth_111 : decode m_Layout_measureBoth.2.1 111 = .ok (.iload 4, 2) := by decide +kernel
theorem d_Layout_measureBoth_113 : decode m_Layout_measureBoth.2.1 113 = .ok (.invokevirtual 42, 3) := by decide +kernel
theorem d_Layout_measureBoth_116 : decode m_Layout_measureBoth.2.1 116 = .ok (.iload_n 3, 1) := by decide +kernel
theorem d_Layout_measureBoth_117 : decode m_Layout_measureBoth.2.1 117 = .ok (.iadd, 1) := by decide +kernel
theorem d_Layout_measureBoth_118 : decode m_Layout_measureBoth.2.1 118 = .ok (.aload_n 0, 1) := by decide +kernel
theorem d_Layout_measureBoth_119 : decode m_Layout_measureBoth.2.1 119 = .ok (.iload 5, 2) := by decide +kernel
theorem d_Layout_measureBoth_121 : decode m_Layout_measureBoth.2.1 121 = .ok (.invokevirtual 42, 3) := by decide +kernel
theorem d_Layout_measureBoth_124 : decode m_Layout_measureBoth.2.1 124 = .ok (.iadd, 1) := by decide +kernel
theorem d_Layout_measureBoth_125 : decode m_Layout_measureBoth.2.1 125 = .ok (.iastore, 1) := by decide +kernel
theorem d_Layout_measureBoth_126 : decode m_Layout_measureBoth.2.1 126 = .ok (.return_, 1) := by decide +kernel
theorem b_Layout_measureBoth_0 {E : EV} {d : Nat} {Q : Option AV → St → Prop} {σ : St} (x1 x2 x3 : Int) (hF : Fix σ) (h : (WMi E m_Layout_endAt d [aP 23, aI (x1 + 1)] σ (fun v1 σ1 => (rI x2) ∧ ((¬ x2 = 64 → WP E m_Layout_measureBoth (d + 1) 24 [(0, aP 23), (1, aI x1), (3, aI x3), (4, aI (x1 + 1)), (5, aI v1)] [aI 0] σ1 Q) ∧ (x2 = 64 → WP E m_Layout_measureBoth (d + 1) 24 [(0, aP 23), (1, aI x1), (3, aI x3), (4, aI (x1 + 1)), (5, aI v1)] [aI 1] σ1 Q))))) : WP E m_Layout_measureBoth (d + 1) 0 [(0, aP 23), (1, aI x1), (2, aI x2), (3, aI x3)] [] σ Q := by
  refine s_iload_n 1 d_Layout_measureBoth_0 rfl rfl ?_
  refine s_iconst d_Layout_measureBoth_1 ?_
  refine s_iadd d_Layout_measureBoth_2 ?_
  refine s_istore d_Layout_measureBoth_3 (by decide) rfl ?_
  refine s_aload_n 1 d_Layout_measureBoth_5 rfl rfl ?_
  refine s_iload 0 d_Layout_measureBoth_6 rfl ?_
  refine s_callV (as := [aI (x1 + 1)]) (ci := 2) d_Layout_measureBoth_8 ok_Layout_endAt lk_Layout_84 io_Layout_endAt so_Layout_endAt (by decide) rfl rfl rfl (Nat.le_of_ble_eq_true rfl) rfl (sf_23 hF) (WM.mono h ?_)
  rintro _ σ1 ⟨v1, rfl, hp, h⟩
  show WP E m_Layout_measureBoth (d + 1) 11 [(4, aI (x1 + 1)), (0, aP 23), (1, aI x1), (2, aI x2), (3, aI x3)] [aI v1] σ1 Q
  refine s_istore d_Layout_measureBoth_11 (by decide) rfl ?_
  refine s_iload_n 4 d_Layout_measureBoth_13 rfl rfl ?_
  refine s_bipush d_Layout_measureBoth_14 (by decide) ?_
  obtain ⟨g2, h⟩ := h
  refine s_icmp_ne d_Layout_measureBoth_16 rfl g2 (by decide) (fun c => ?_) (fun c => ?_)
  · have h := h.1 c
    refine s_iconst d_Layout_measureBoth_23 ?_
    refine wp_drop [2, 3, 5, 1, 0] rfl ?_
    exact h
  · have h := h.2 c
    refine s_iconst d_Layout_measureBoth_19 ?_
    refine s_goto d_Layout_measureBoth_20 rfl ?_
    refine wp_drop [2, 3, 5, 1, 0] rfl ?_
    exact h
theorem e_Layout_measureBoth {E : EV} {d : Nat} {Q : Option AV → St → Prop} {σ : St} (x1 x2 x3 : Int) (hF : Fix σ) (h : (WMi E m_Layout_endAt d [aP 23, aI (x1 + 1)] σ (fun v1 σ1 => (rI x2) ∧ ((¬ x2 = 64 → WP E m_Layout_measureBoth (d + 1) 24 [(0, aP 23), (1, aI x1), (3, aI x3), (4, aI (x1 + 1)), (5, aI v1)] [aI 0] σ1 Q) ∧ (x2 = 64 → WP E m_Layout_measureBoth (d + 1) 24 [(0, aP 23), (1, aI x1), (3, aI x3), (4, aI (x1 + 1)), (5, aI v1)] [aI 1] σ1 Q))))) : WM E m_Layout_measureBoth (d + 1) [aP 23, aI x1, aI x2, aI x3] σ Q := s_meth (by decide) (Nat.le_of_ble_eq_true rfl) rfl (b_Layout_measureBoth_0 x1 x2 x3 hF h)
theorem b_Layout_measureBoth_24 {E : EV} {d : Nat} {Q : Option AV → St → Prop} {σ : St} (x1 x3 x4 x5 s0 : Int) (hF : Fix σ) (h : (WMi E m_Layout_endAt d [aP 23, aI x5] σ (fun v1 σ1 => Fix σ1 ∧ (0 ≤ x1 ∧ x1 < 24) ∧ (rI s0) ∧ ((s0 = 0 → (WMi E m_Layout_wideAt d [aP 23, aI x4] (wr σ1 24 x1 v1) (fun v4 σ4 => Fix σ4 ∧ (WMi E m_Layout_wideAt d [aP 23, aI x5] σ4 (fun v5 σ5 => (rI v4) ∧ (rI v5) ∧ WP E m_Layout_measureBoth (d + 1) 81 [(0, aP 23), (1, aI x1), (3, aI x3), (4, aI x4), (5, aI x5), (6, aI s0)] [aI (max v4 v5), aI x1, aP 25] σ5 Q))))) ∧ (¬ s0 = 0 → (WMi E m_Layout_wideAt d [aP 23, aI x4] (wr σ1 24 x1 v1) (fun v8 σ8 => Fix σ8 ∧ (WMi E m_Layout_wideAt d [aP 23, aI x5] σ8 (fun v9 σ9 => WP E m_Layout_measureBoth (d + 1) 81 [(0, aP 23), (1, aI x1), (3, aI x3), (4, aI x4), (5, aI x5), (6, aI s0)] [aI ((v8 + x3) + v9), aI x1, aP 25] σ9 Q))))))))) : WP E m_Layout_measureBoth (d + 1) 24 [(0, aP 23), (1, aI x1), (3, aI x3), (4, aI x4), (5, aI x5)] [aI s0] σ Q := by
  refine s_istore d_Layout_measureBoth_24 (by decide) rfl ?_
  refine s_aload_n 1 d_Layout_measureBoth_26 rfl rfl ?_
  refine s_getF (v := 24) d_Layout_measureBoth_27 fl_Layout_9 rfl (sf_23 hF) (ff_12 hF) ?_
  refine s_iload_n 2 d_Layout_measureBoth_30 rfl rfl ?_
  refine s_aload_n 1 d_Layout_measureBoth_31 rfl rfl ?_
  refine s_iload 5 d_Layout_measureBoth_32 rfl ?_
  refine s_callV (as := [aI x5]) (ci := 2) d_Layout_measureBoth_34 ok_Layout_endAt lk_Layout_84 io_Layout_endAt so_Layout_endAt (by decide) rfl rfl rfl (Nat.le_of_ble_eq_true rfl) rfl (sf_23 hF) (WM.mono h ?_)
  rintro _ σ1 ⟨v1, rfl, hp, h⟩
  obtain ⟨hF1, h⟩ := h
  show WP E m_Layout_measureBoth (d + 1) 37 [(6, aI s0), (0, aP 23), (1, aI x1), (3, aI x3), (4, aI x4), (5, aI x5)] [aI v1, aI x1, aP 24] σ1 Q
  obtain ⟨g2, h⟩ := h
  refine s_iastore d_Layout_measureBoth_37 ⟨_, sf_24 hF1, g2.1, g2.2, by have := g2.2; omega⟩ ?_
  refine s_aload_n 1 d_Layout_measureBoth_38 rfl rfl ?_
  refine s_getF (v := 25) d_Layout_measureBoth_39 fl_Layout_15 rfl (sf_23 (hF1.wa (a := 24) (by decide))) (ff_13 (hF1.wa (a := 24) (by decide))) ?_
  refine s_iload_n 2 d_Layout_measureBoth_42 rfl rfl ?_
  refine s_iload 0 d_Layout_measureBoth_43 rfl ?_
  obtain ⟨g3, h⟩ := h
  refine s_if_eq d_Layout_measureBoth_45 rfl g3 (fun c => ?_) (fun c => ?_)
  · have h := h.1 c
    refine s_aload_n 1 d_Layout_measureBoth_66 rfl rfl ?_
    refine s_iload 4 d_Layout_measureBoth_67 rfl ?_
    refine s_callV (as := [aI x4]) (ci := 2) d_Layout_measureBoth_69 ok_Layout_wideAt lk_Layout_38 io_Layout_wideAt so_Layout_wideAt (by decide) rfl rfl rfl (Nat.le_of_ble_eq_true rfl) rfl (sf_23 (hF1.wa (a := 24) (by decide))) (WM.mono h ?_)
    rintro _ σ4 ⟨v4, rfl, hp, h⟩
    obtain ⟨hF4, h⟩ := h
    show WP E m_Layout_measureBoth (d + 1) 72 [(6, aI s0), (0, aP 23), (1, aI x1), (3, aI x3), (4, aI x4), (5, aI x5)] [aI v4, aI x1, aP 25] σ4 Q
    refine s_aload_n 1 d_Layout_measureBoth_72 rfl rfl ?_
    refine s_iload 5 d_Layout_measureBoth_73 rfl ?_
    refine s_callV (as := [aI x5]) (ci := 2) d_Layout_measureBoth_75 ok_Layout_wideAt lk_Layout_38 io_Layout_wideAt so_Layout_wideAt (by decide) rfl rfl rfl (Nat.le_of_ble_eq_true rfl) rfl (sf_23 hF4) (WM.mono h ?_)
    rintro _ σ5 ⟨v5, rfl, hp, h⟩
    show WP E m_Layout_measureBoth (d + 1) 78 [(6, aI s0), (0, aP 23), (1, aI x1), (3, aI x3), (4, aI x4), (5, aI x5)] [aI v5, aI v4, aI x1, aP 25] σ5 Q
    obtain ⟨g6, h⟩ := h
    obtain ⟨g7, h⟩ := h
    refine s_mmax d_Layout_measureBoth_78 lm_Layout_45 lm_max_s lm_i lm_max_c (Nat.le_of_ble_eq_true rfl) g6 g7 ?_
    refine wp_drop [1, 2, 3, 4, 5, 0] rfl ?_
    exact h
  · have h := h.2 c
    refine s_aload_n 1 d_Layout_measureBoth_48 rfl rfl ?_
    refine s_iload 4 d_Layout_measureBoth_49 rfl ?_
    refine s_callV (as := [aI x4]) (ci := 2) d_Layout_measureBoth_51 ok_Layout_wideAt lk_Layout_38 io_Layout_wideAt so_Layout_wideAt (by decide) rfl rfl rfl (Nat.le_of_ble_eq_true rfl) rfl (sf_23 (hF1.wa (a := 24) (by decide))) (WM.mono h ?_)
    rintro _ σ8 ⟨v8, rfl, hp, h⟩
    obtain ⟨hF8, h⟩ := h
    show WP E m_Layout_measureBoth (d + 1) 54 [(6, aI s0), (0, aP 23), (1, aI x1), (3, aI x3), (4, aI x4), (5, aI x5)] [aI v8, aI x1, aP 25] σ8 Q
    refine s_iload_n 3 d_Layout_measureBoth_54 rfl rfl ?_
    refine s_iadd d_Layout_measureBoth_55 ?_
    refine s_aload_n 1 d_Layout_measureBoth_56 rfl rfl ?_
    refine s_iload 5 d_Layout_measureBoth_57 rfl ?_
    refine s_callV (as := [aI x5]) (ci := 2) d_Layout_measureBoth_59 ok_Layout_wideAt lk_Layout_38 io_Layout_wideAt so_Layout_wideAt (by decide) rfl rfl rfl (Nat.le_of_ble_eq_true rfl) rfl (sf_23 hF8) (WM.mono h ?_)
    rintro _ σ9 ⟨v9, rfl, hp, h⟩
    show WP E m_Layout_measureBoth (d + 1) 62 [(6, aI s0), (0, aP 23), (1, aI x1), (3, aI x3), (4, aI x4), (5, aI x5)] [aI v9, aI (v8 + x3), aI x1, aP 25] σ9 Q
    refine s_iadd d_Layout_measureBoth_62 ?_
    refine s_goto d_Layout_measureBoth_63 rfl ?_
    refine wp_drop [1, 2, 3, 4, 5, 0] rfl ?_
    exact h
theorem b_Layout_measureBoth_81 {E : EV} {d : Nat} {Q : Option AV → St → Prop} {σ : St} (x1 x3 x4 x5 x6 s0 s1 s2 : Int) (h : (inb σ s0 20 s1) ∧ (sh (wr σ s0 s1 s2) 23 = some (2, 8)) ∧ (rI x6) ∧ ((x6 = 0 → (sh (wr σ s0 s1 s2) 23 = some (2, 8)) ∧ (WMi E m_Layout_highAt d [aP 23, aI x4] (wr σ s0 s1 s2) (fun v4 σ4 => (sh σ4 23 = some (2, 8)) ∧ (WMi E m_Layout_highAt d [aP 23, aI x5] σ4 (fun v6 σ6 => WP E m_Layout_measureBoth (d + 1) 125 [] [aI ((v4 + x3) + v6), aI x1, aP ((wr σ s0 s1 s2).1 23 2)] σ6 Q))))) ∧ (¬ x6 = 0 → (sh (wr σ s0 s1 s2) 23 = some (2, 8)) ∧ (WMi E m_Layout_highAt d [aP 23, aI x4] (wr σ s0 s1 s2) (fun v8 σ8 => (sh σ8 23 = some (2, 8)) ∧ (WMi E m_Layout_highAt d [aP 23, aI x5] σ8 (fun v10 σ10 => (rI v8) ∧ (rI v10) ∧ WP E m_Layout_measureBoth (d + 1) 125 [] [aI (max v8 v10), aI x1, aP ((wr σ s0 s1 s2).1 23 2)] σ10 Q))))))) : WP E m_Layout_measureBoth (d + 1) 81 [(0, aP 23), (1, aI x1), (3, aI x3), (4, aI x4), (5, aI x5), (6, aI x6)] [aI s2, aI s1, aP s0] σ Q := by
  obtain ⟨g1, h⟩ := h
  refine s_iastore d_Layout_measureBoth_81 g1 ?_
  refine s_aload_n 0 d_Layout_measureBoth_82 rfl rfl ?_
  obtain ⟨g2, h⟩ := h
  refine s_getF (v := (wr σ s0 s1 s2).1 23 2) d_Layout_measureBoth_83 fl_Layout_18 rfl g2 rfl ?_
  refine s_iload_n 1 d_Layout_measureBoth_86 rfl rfl ?_
  refine s_iload 5 d_Layout_measureBoth_87 rfl ?_
  obtain ⟨g3, h⟩ := h
  refine s_if_eq d_Layout_measureBoth_89 rfl g3 (fun c => ?_) (fun c => ?_)
  · have h := h.1 c
    refine s_aload_n 0 d_Layout_measureBoth_110 rfl rfl ?_
    refine s_iload 3 d_Layout_measureBoth_111 rfl ?_
    obtain ⟨g5, h⟩ := h
    refine s_callV (as := [aI x4]) (ci := 2) d_Layout_measureBoth_113 ok_Layout_highAt lk_Layout_42 io_Layout_highAt so_Layout_highAt (by decide) rfl rfl rfl (Nat.le_of_ble_eq_true rfl) rfl g5 (WM.mono h ?_)
    rintro _ σ4 ⟨v4, rfl, hp, h⟩
    show WP E m_Layout_measureBoth (d + 1) 116 [(0, aP 23), (1, aI x1), (3, aI x3), (4, aI x4), (5, aI x5), (6, aI x6)] [aI v4, aI x1, aP ((wr σ s0 s1 s2).1 23 2)] σ4 Q
    refine s_iload_n 2 d_Layout_measureBoth_116 rfl rfl ?_
    refine s_iadd d_Layout_measureBoth_117 ?_
    refine s_aload_n 0 d_Layout_measureBoth_118 rfl rfl ?_
    refine s_iload 4 d_Layout_measureBoth_119 rfl ?_
    obtain ⟨g7, h⟩ := h
    refine s_callV (as := [aI x5]) (ci := 2) d_Layout_measureBoth_121 ok_Layout_highAt lk_Layout_42 io_Layout_highAt so_Layout_highAt (by decide) rfl rfl rfl (Nat.le_of_ble_eq_true rfl) rfl g7 (WM.mono h ?_)
    rintro _ σ6 ⟨v6, rfl, hp, h⟩
    show WP E m_Layout_measureBoth (d + 1) 124 [(0, aP 23), (1, aI x1), (3, aI x3), (4, aI x4), (5, aI x5), (6, aI x6)] [aI v6, aI (v4 + x3), aI x1, aP ((wr σ s0 s1 s2).1 23 2)] σ6 Q
    refine s_iadd d_Layout_measureBoth_124 ?_
    refine wp_drop [] rfl ?_
    exact h
  · have h := h.2 c
    refine s_aload_n 0 d_Layout_measureBoth_92 rfl rfl ?_
    refine s_iload 3 d_Layout_measureBoth_93 rfl ?_
    obtain ⟨g9, h⟩ := h
    refine s_callV (as := [aI x4]) (ci := 2) d_Layout_measureBoth_95 ok_Layout_highAt lk_Layout_42 io_Layout_highAt so_Layout_highAt (by decide) rfl rfl rfl (Nat.le_of_ble_eq_true rfl) rfl g9 (WM.mono h ?_)
    rintro _ σ8 ⟨v8, rfl, hp, h⟩
    show WP E m_Layout_measureBoth (d + 1) 98 [(0, aP 23), (1, aI x1), (3, aI x3), (4, aI x4), (5, aI x5), (6, aI x6)] [aI v8, aI x1, aP ((wr σ s0 s1 s2).1 23 2)] σ8 Q
    refine s_aload_n 0 d_Layout_measureBoth_98 rfl rfl ?_
    refine s_iload 4 d_Layout_measureBoth_99 rfl ?_
    obtain ⟨g11, h⟩ := h
    refine s_callV (as := [aI x5]) (ci := 2) d_Layout_measureBoth_101 ok_Layout_highAt lk_Layout_42 io_Layout_highAt so_Layout_highAt (by decide) rfl rfl rfl (Nat.le_of_ble_eq_true rfl) rfl g11 (WM.mono h ?_)
    rintro _ σ10 ⟨v10, rfl, hp, h⟩
    show WP E m_Layout_measureBoth (d + 1) 104 [(0, aP 23), (1, aI x1), (3, aI x3), (4, aI x4), (5, aI x5), (6, aI x6)] [aI v10, aI v8, aI x1, aP ((wr σ s0 s1 s2).1 23 2)] σ10 Q
    obtain ⟨g12, h⟩ := h
    obtain ⟨g13, h⟩ := h
    refine s_mmax d_Layout_measureBoth_104 lm_Layout_45 lm_max_s lm_i lm_max_c (Nat.le_of_ble_eq_true rfl) g12 g13 ?_
    refine s_goto d_Layout_measureBoth_107 rfl ?_
    refine wp_drop [] rfl ?_
    exact h
theorem b_Layout_measureBoth_125 {E : EV} {d : Nat} {Q : Option AV → St → Prop} {σ : St} (s0 s1 s2 : Int) (h : (inb σ s0 20 s1) ∧ Q none (wr σ s0 s1 s2)) : WP E m_Layout_measureBoth (d + 1) 125 [] [aI s2, aI s1, aP s0] σ Q := by
  obtain ⟨g1, h⟩ := h
  refine s_iastore d_Layout_measureBoth_125 g1 ?_
  exact s_return d_Layout_measureBoth_126 rfl h
theorem d_Layout_endAt_0 : decode m_Layout_endAt.2.1 0 = .ok (.iload_n 1, 1) := by decide +kernel
theorem d_Layout_endAt_1 : decode m_Layout_endAt.2.1 1 = .ok (.ifCond .lt 20, 3) := by decide +kernel
theorem d_Layout_endAt_4 : decode m_Layout_endAt.2.1 4 = .ok (.iload_n 1, 1) := by decide +kernel
theorem d_Layout_endAt_5 : decode m_Layout_endAt.2.1 5 = .ok (.aload_n 0, 1) := by decide +kernel
theorem d_Layout_endAt_6 : decode m_Layout_endAt.2.1 6 = .ok (.getfield 34, 3) := by decide +kernel
theorem d_Layout_endAt_9 : decode m_Layout_endAt.2.1 9 = .ok (.if_icmp .ge 12, 3) := by decide +kernel
theorem d_Layout_endAt_12 : decode m_Layout_endAt.2.1 12 = .ok (.aload_n 0, 1) := by decide +kernel
theorem d_Layout_endAt_13 : decode m_Layout_endAt.2.1 13 = .ok (.getfield 9, 3) := by decide +kernel
theorem d_Layout_endAt_16 : decode m_Layout_endAt.2.1 16 = .ok (.iload_n 1, 1) := by decide +kernel
theorem d_Layout_endAt_17 : decode m_Layout_endAt.2.1 17 = .ok (.iaload, 1) := by decide +kernel
theorem d_Layout_endAt_18 : decode m_Layout_endAt.2.1 18 = .ok (.goto 7, 3) := by decide +kernel
theorem d_Layout_endAt_21 : decode m_Layout_endAt.2.1 21 = .ok (.aload_n 0, 1) := by decide +kernel
theorem d_Layout_endAt_22 : decode m_Layout_endAt.2.1 22 = .ok (.getfield 34, 3) := by decide +kernel
theorem d_Layout_endAt_25 : decode m_Layout_endAt.2.1 25 = .ok (.ireturn, 1) := by decide +kernel
theorem b_Layout_endAt_0 {E : EV} {d : Nat} {Q : Option AV → St → Prop} {σ : St} (x1 : Int) (hF : Fix σ) (h : (rI x1) ∧ ((x1 < 0 → Q (some (aI (σ.1 23 7))) σ) ∧ (¬ x1 < 0 → (rI x1) ∧ (rI (σ.1 23 7)) ∧ (((σ.1 23 7) ≤ x1 → Q (some (aI (σ.1 23 7))) σ) ∧ (¬ (σ.1 23 7) ≤ x1 → (0 ≤ x1 ∧ x1 < 24) ∧ Q (some (aI (σ.1 24 x1))) σ))))) : WP E m_Layout_endAt d 0 [(0, aP 23), (1, aI x1)] [] σ Q := by
  refine s_iload_n 1 d_Layout_endAt_0 rfl rfl ?_
  obtain ⟨g1, h⟩ := h
  refine s_if_lt d_Layout_endAt_1 rfl g1 (fun c => ?_) (fun c => ?_)
  · have h := h.1 c
    refine s_aload_n 0 d_Layout_endAt_21 rfl rfl ?_
    refine s_getF (v := σ.1 23 7) d_Layout_endAt_22 fl_Layout_34 rfl (sf_23 hF) rfl ?_
    exact s_ireturn d_Layout_endAt_25 rfl h
  · have h := h.2 c
    refine s_iload_n 1 d_Layout_endAt_4 rfl rfl ?_
    refine s_aload_n 0 d_Layout_endAt_5 rfl rfl ?_
    refine s_getF (v := σ.1 23 7) d_Layout_endAt_6 fl_Layout_34 rfl (sf_23 hF) rfl ?_
    obtain ⟨g2, h⟩ := h
    obtain ⟨g3, h⟩ := h
    refine s_icmp_ge d_Layout_endAt_9 rfl g2 g3 (fun c => ?_) (fun c => ?_)
    · have h := h.1 c
      refine s_aload_n 0 d_Layout_endAt_21 rfl rfl ?_
      refine s_getF (v := σ.1 23 7) d_Layout_endAt_22 fl_Layout_34 rfl (sf_23 hF) rfl ?_
      exact s_ireturn d_Layout_endAt_25 rfl h
    · have h := h.2 c
      refine s_aload_n 0 d_Layout_endAt_12 rfl rfl ?_
      refine s_getF (v := 24) d_Layout_endAt_13 fl_Layout_9 rfl (sf_23 hF) (ff_12 hF) ?_
      refine s_iload_n 1 d_Layout_endAt_16 rfl rfl ?_
      obtain ⟨g4, h⟩ := h
      refine s_ialoadv (v := σ.1 24 x1) d_Layout_endAt_17 ⟨_, sf_24 hF, g4.1, g4.2, by have := g4.2; omega⟩ rfl ?_
      refine s_goto d_Layout_endAt_18 rfl ?_
      exact s_ireturn d_Layout_endAt_25 rfl h
theorem e_Layout_endAt {E : EV} {d : Nat} {Q : Option AV → St → Prop} {σ : St} (x1 : Int) (hF : Fix σ) (h : (rI x1) ∧ ((x1 < 0 → Q (some (aI (σ.1 23 7))) σ) ∧ (¬ x1 < 0 → (rI x1) ∧ (rI (σ.1 23 7)) ∧ (((σ.1 23 7) ≤ x1 → Q (some (aI (σ.1 23 7))) σ) ∧ (¬ (σ.1 23 7) ≤ x1 → (0 ≤ x1 ∧ x1 < 24) ∧ Q (some (aI (σ.1 24 x1))) σ))))) : WM E m_Layout_endAt d [aP 23, aI x1] σ Q := s_meth (by decide) (Nat.le_of_ble_eq_true rfl) rfl (b_Layout_endAt_0 x1 hF h)
theorem d_Layout_wideAt_0 : decode m_Layout_wideAt.2.1 0 = .ok (.iload_n 1, 1) := by decide +kernel
theorem d_Layout_wideAt_1 : decode m_Layout_wideAt.2.1 1 = .ok (.ifCond .lt 20, 3) := by decide +kernel
theorem d_Layout_wideAt_4 : decode m_Layout_wideAt.2.1 4 = .ok (.iload_n 1, 1) := by decide +kernel
theorem d_Layout_wideAt_5 : decode m_Layout_wideAt.2.1 5 = .ok (.aload_n 0, 1) := by decide +kernel
theorem d_Layout_wideAt_6 : decode m_Layout_wideAt.2.1 6 = .ok (.getfield 34, 3) := by decide +kernel
theorem d_Layout_wideAt_9 : decode m_Layout_wideAt.2.1 9 = .ok (.if_icmp .ge 12, 3) := by decide +kernel
theorem d_Layout_wideAt_12 : decode m_Layout_wideAt.2.1 12 = .ok (.aload_n 0, 1) := by decide +kernel
theorem d_Layout_wideAt_13 : decode m_Layout_wideAt.2.1 13 = .ok (.getfield 15, 3) := by decide +kernel
theorem d_Layout_wideAt_16 : decode m_Layout_wideAt.2.1 16 = .ok (.iload_n 1, 1) := by decide +kernel
theorem d_Layout_wideAt_17 : decode m_Layout_wideAt.2.1 17 = .ok (.iaload, 1) := by decide +kernel
theorem d_Layout_wideAt_18 : decode m_Layout_wideAt.2.1 18 = .ok (.goto 4, 3) := by decide +kernel
theorem d_Layout_wideAt_21 : decode m_Layout_wideAt.2.1 21 = .ok (.iconst 0, 1) := by decide +kernel
theorem d_Layout_wideAt_22 : decode m_Layout_wideAt.2.1 22 = .ok (.ireturn, 1) := by decide +kernel
theorem b_Layout_wideAt_0 {E : EV} {d : Nat} {Q : Option AV → St → Prop} {σ : St} (x1 : Int) (hF : Fix σ) (h : (rI x1) ∧ ((x1 < 0 → Q (some (aI 0)) σ) ∧ (¬ x1 < 0 → (rI x1) ∧ (rI (σ.1 23 7)) ∧ (((σ.1 23 7) ≤ x1 → Q (some (aI 0)) σ) ∧ (¬ (σ.1 23 7) ≤ x1 → (0 ≤ x1 ∧ x1 < 24) ∧ Q (some (aI (σ.1 25 x1))) σ))))) : WP E m_Layout_wideAt d 0 [(0, aP 23), (1, aI x1)] [] σ Q := by
  refine s_iload_n 1 d_Layout_wideAt_0 rfl rfl ?_
  obtain ⟨g1, h⟩ := h
  refine s_if_lt d_Layout_wideAt_1 rfl g1 (fun c => ?_) (fun c => ?_)
  · have h := h.1 c
    refine s_iconst d_Layout_wideAt_21 ?_
    exact s_ireturn d_Layout_wideAt_22 rfl h
  · have h := h.2 c
    refine s_iload_n 1 d_Layout_wideAt_4 rfl rfl ?_
    refine s_aload_n 0 d_Layout_wideAt_5 rfl rfl ?_
    refine s_getF (v := σ.1 23 7) d_Layout_wideAt_6 fl_Layout_34 rfl (sf_23 hF) rfl ?_
    obtain ⟨g2, h⟩ := h
    obtain ⟨g3, h⟩ := h
    refine s_icmp_ge d_Layout_wideAt_9 rfl g2 g3 (fun c => ?_) (fun c => ?_)
    · have h := h.1 c
      refine s_iconst d_Layout_wideAt_21 ?_
      exact s_ireturn d_Layout_wideAt_22 rfl h
    · have h := h.2 c
      refine s_aload_n 0 d_Layout_wideAt_12 rfl rfl ?_
      refine s_getF (v := 25) d_Layout_wideAt_13 fl_Layout_15 rfl (sf_23 hF) (ff_13 hF) ?_
      refine s_iload_n 1 d_Layout_wideAt_16 rfl rfl ?_
      obtain ⟨g4, h⟩ := h
      refine s_ialoadv (v := σ.1 25 x1) d_Layout_wideAt_17 ⟨_, sf_25 hF, g4.1, g4.2, by have := g4.2; omega⟩ rfl ?_
      refine s_goto d_Layout_wideAt_18 rfl ?_
      exact s_ireturn d_Layout_wideAt_22 rfl h
theorem e_Layout_wideAt {E : EV} {d : Nat} {Q : Option AV → St → Prop} {σ : St} (x1 : Int) (hF : Fix σ) (h : (rI x1) ∧ ((x1 < 0 → Q (some (aI 0)) σ) ∧ (¬ x1 < 0 → (rI x1) ∧ (rI (σ.1 23 7)) ∧ (((σ.1 23 7) ≤ x1 → Q (some (aI 0)) σ) ∧ (¬ (σ.1 23 7) ≤ x1 → (0 ≤ x1 ∧ x1 < 24) ∧ Q (some (aI (σ.1 25 x1))) σ))))) : WM E m_Layout_wideAt d [aP 23, aI x1] σ Q := s_meth (by decide) (Nat.le_of_ble_eq_true rfl) rfl (b_Layout_wideAt_0 x1 hF h)
theorem d_Layout_highAt_0 : decode m_Layout_highAt.2.1 0 = .ok (.iload_n 1, 1) := by decide +kernel
theorem d_Layout_highAt_1 : decode m_Layout_highAt.2.1 1 = .ok (.ifCond .lt 20, 3) := by decide +kernel
theorem d_Layout_highAt_4 : decode m_Layout_highAt.2.1 4 = .ok (.iload_n 1, 1) := by decide +kernel
theorem d_Layout_highAt_5 : decode m_Layout_highAt.2.1 5 = .ok (.aload_n 0, 1) := by decide +kernel
theorem d_Layout_highAt_6 : decode m_Layout_highAt.2.1 6 = .ok (.getfield 34, 3) := by decide +kernel
theorem d_Layout_highAt_9 : decode m_Layout_highAt.2.1 9 = .ok (.if_icmp .ge 12, 3) := by decide +kernel
theorem d_Layout_highAt_12 : decode m_Layout_highAt.2.1 12 = .ok (.aload_n 0, 1) := by decide +kernel
theorem d_Layout_highAt_13 : decode m_Layout_highAt.2.1 13 = .ok (.getfield 18, 3) := by decide +kernel
theorem d_Layout_highAt_16 : decode m_Layout_highAt.2.1 16 = .ok (.iload_n 1, 1) := by decide +kernel
theorem d_Layout_highAt_17 : decode m_Layout_highAt.2.1 17 = .ok (.iaload, 1) := by decide +kernel
theorem d_Layout_highAt_18 : decode m_Layout_highAt.2.1 18 = .ok (.goto 4, 3) := by decide +kernel
theorem d_Layout_highAt_21 : decode m_Layout_highAt.2.1 21 = .ok (.iconst 0, 1) := by decide +kernel
theorem d_Layout_highAt_22 : decode m_Layout_highAt.2.1 22 = .ok (.ireturn, 1) := by decide +kernel
theorem b_Layout_highAt_0 {E : EV} {d : Nat} {Q : Option AV → St → Prop} {σ : St} (x1 : Int) (hF : Fix σ) (h : (rI x1) ∧ ((x1 < 0 → Q (some (aI 0)) σ) ∧ (¬ x1 < 0 → (rI x1) ∧ (rI (σ.1 23 7)) ∧ (((σ.1 23 7) ≤ x1 → Q (some (aI 0)) σ) ∧ (¬ (σ.1 23 7) ≤ x1 → (0 ≤ x1 ∧ x1 < 24) ∧ Q (some (aI (σ.1 26 x1))) σ))))) : WP E m_Layout_highAt d 0 [(0, aP 23), (1, aI x1)] [] σ Q := by
  refine s_iload_n 1 d_Layout_highAt_0 rfl rfl ?_
  obtain ⟨g1, h⟩ := h
  refine s_if_lt d_Layout_highAt_1 rfl g1 (fun c => ?_) (fun c => ?_)
  · have h := h.1 c
    refine s_iconst d_Layout_highAt_21 ?_
    exact s_ireturn d_Layout_highAt_22 rfl h
  · have h := h.2 c
    refine s_iload_n 1 d_Layout_highAt_4 rfl rfl ?_
    refine s_aload_n 0 d_Layout_highAt_5 rfl rfl ?_
    refine s_getF (v := σ.1 23 7) d_Layout_highAt_6 fl_Layout_34 rfl (sf_23 hF) rfl ?_
    obtain ⟨g2, h⟩ := h
    obtain ⟨g3, h⟩ := h
    refine s_icmp_ge d_Layout_highAt_9 rfl g2 g3 (fun c => ?_) (fun c => ?_)
    · have h := h.1 c
      refine s_iconst d_Layout_highAt_21 ?_
      exact s_ireturn d_Layout_highAt_22 rfl h
    · have h := h.2 c
      refine s_aload_n 0 d_Layout_highAt_12 rfl rfl ?_
      refine s_getF (v := 26) d_Layout_highAt_13 fl_Layout_18 rfl (sf_23 hF) (ff_14 hF) ?_
      refine s_iload_n 1 d_Layout_highAt_16 rfl rfl ?_
      obtain ⟨g4, h⟩ := h
      refine s_ialoadv (v := σ.1 26 x1) d_Layout_highAt_17 ⟨_, sf_26 hF, g4.1, g4.2, by have := g4.2; omega⟩ rfl ?_
      refine s_goto d_Layout_highAt_18 rfl ?_
      exact s_ireturn d_Layout_highAt_22 rfl h
theorem e_Layout_highAt {E : EV} {d : Nat} {Q : Option AV → St → Prop} {σ : St} (x1 : Int) (hF : Fix σ) (h : (rI x1) ∧ ((x1 < 0 → Q (some (aI 0)) σ) ∧ (¬ x1 < 0 → (rI x1) ∧ (rI (σ.1 23 7)) ∧ (((σ.1 23 7) ≤ x1 → Q (some (aI 0)) σ) ∧ (¬ (σ.1 23 7) ≤ x1 → (0 ≤ x1 ∧ x1 < 24) ∧ Q (some (aI (σ.1 26 x1))) σ))))) : WM E m_Layout_highAt d [aP 23, aI x1] σ Q := s_meth (by decide) (Nat.le_of_ble_eq_true rfl) rfl (b_Layout_highAt_0 x1 hF h)
theorem d_Layout_span_0 : decode m_Layout_span.2.1 0 = .ok (.iload_n 1, 1) := by decide +kernel
theorem d_Layout_span_1 : decode m_Layout_span.2.1 1 = .ok (.aload_n 0, 1) := by decide +kernel
theorem d_Layout_span_2 : decode m_Layout_span.2.1 2 = .ok (.iconst 0, 1) := by decide +kernel
theorem d_Layout_span_3 : decode m_Layout_span.2.1 3 = .ok (.invokevirtual 38, 3) := by decide +kernel
theorem d_Layout_span_6 : decode m_Layout_span.2.1 6 = .ok (.aload_n 0, 1) := by decide +kernel
theorem d_Layout_span_7 : decode m_Layout_span.2.1 7 = .ok (.iconst 0, 1) := by decide +kernel
theorem d_Layout_span_8 : decode m_Layout_span.2.1 8 = .ok (.invokevirtual 42, 3) := by decide +kernel
theorem d_Layout_span_11 : decode m_Layout_span.2.1 11 = .ok (.invokestatic 45, 3) := by decide +kernel
theorem d_Layout_span_14 : decode m_Layout_span.2.1 14 = .ok (.invokestatic 45, 3) := by decide +kernel
theorem d_Layout_span_17 : decode m_Layout_span.2.1 17 = .ok (.ireturn, 1) := by decide +kernel
theorem b_Layout_span_0 {E : EV} {d : Nat} {Q : Option AV → St → Prop} {σ : St} (x1 : Int) (hF : Fix σ) (h : (WMi E m_Layout_wideAt d [aP 23, aI 0] σ (fun v1 σ1 => Fix σ1 ∧ (WMi E m_Layout_highAt d [aP 23, aI 0] σ1 (fun v2 σ2 => (rI v1) ∧ (rI v2) ∧ (rI x1) ∧ (rI (max v1 v2)) ∧ Q (some (aI (max x1 (max v1 v2)))) σ2))))) : WP E m_Layout_span (d + 1) 0 [(0, aP 23), (1, aI x1)] [] σ Q := by
  refine s_iload_n 1 d_Layout_span_0 rfl rfl ?_
  refine s_aload_n 0 d_Layout_span_1 rfl rfl ?_
  refine s_iconst d_Layout_span_2 ?_
  refine s_callV (as := [aI 0]) (ci := 2) d_Layout_span_3 ok_Layout_wideAt lk_Layout_38 io_Layout_wideAt so_Layout_wideAt (by decide) rfl rfl rfl (Nat.le_of_ble_eq_true rfl) rfl (sf_23 hF) (WM.mono h ?_)
  rintro _ σ1 ⟨v1, rfl, hp, h⟩
  obtain ⟨hF1, h⟩ := h
  show WP E m_Layout_span (d + 1) 6 [(0, aP 23), (1, aI x1)] [aI v1, aI x1] σ1 Q
  refine s_aload_n 0 d_Layout_span_6 rfl rfl ?_
  refine s_iconst d_Layout_span_7 ?_
  refine s_callV (as := [aI 0]) (ci := 2) d_Layout_span_8 ok_Layout_highAt lk_Layout_42 io_Layout_highAt so_Layout_highAt (by decide) rfl rfl rfl (Nat.le_of_ble_eq_true rfl) rfl (sf_23 hF1) (WM.mono h ?_)
  rintro _ σ2 ⟨v2, rfl, hp, h⟩
  show WP E m_Layout_span (d + 1) 11 [(0, aP 23), (1, aI x1)] [aI v2, aI v1, aI x1] σ2 Q
  obtain ⟨g3, h⟩ := h
  obtain ⟨g4, h⟩ := h
  refine s_mmax d_Layout_span_11 lm_Layout_45 lm_max_s lm_i lm_max_c (Nat.le_of_ble_eq_true rfl) g3 g4 ?_
  obtain ⟨g5, h⟩ := h
  obtain ⟨g6, h⟩ := h
  refine s_mmax d_Layout_span_14 lm_Layout_45 lm_max_s lm_i lm_max_c (Nat.le_of_ble_eq_true rfl) g5 g6 ?_
  exact s_ireturn d_Layout_span_17 rfl h
theorem e_Layout_span {E : EV} {d : Nat} {Q : Option AV → St → Prop} {σ : St} (x1 : Int) (hF : Fix σ) (h : (WMi E m_Layout_wideAt d [aP 23, aI 0] σ (fun v1 σ1 => Fix σ1 ∧ (WMi E m_Layout_highAt d [aP 23, aI 0] σ1 (fun v2 σ2 => (rI v1) ∧ (rI v2) ∧ (rI x1) ∧ (rI (max v1 v2)) ∧ Q (some (aI (max x1 (max v1 v2)))) σ2))))) : WM E m_Layout_span (d + 1) [aP 23, aI x1] σ Q := s_meth (by decide) (Nat.le_of_ble_eq_true rfl) rfl (b_Layout_span_0 x1 hF h)
theorem d_Layout_place_0 : decode m_Layout_place.2.1 0 = .ok (.aload_n 0, 1) := by decide +kernel
theorem d_Layout_place_1 : decode m_Layout_place.2.1 1 = .ok (.iload_n 3, 1) := by decide +kernel
theorem d_Layout_place_2 : decode m_Layout_place.2.1 2 = .ok (.invokevirtual 87, 3) := by decide +kernel
theorem d_Layout_place_5 : decode m_Layout_place.2.1 5 = .ok (.i2l, 1) := by decide +kernel
theorem d_Layout_place_6 : decode m_Layout_place.2.1 6 = .ok (.lstore 4, 2) := by decide +kernel
theorem d_Layout_place_8 : decode m_Layout_place.2.1 8 = .ok (.aload_n 0, 1) := by decide +kernel
theorem d_Layout_place_9 : decode m_Layout_place.2.1 9 = .ok (.iconst 0, 1) := by decide +kernel
theorem d_Layout_place_10 : decode m_Layout_place.2.1 10 = .ok (.iload_n 3, 1) := by decide +kernel
theorem d_Layout_place_11 : decode m_Layout_place.2.1 11 = .ok (.i2l, 1) := by decide +kernel
theorem d_Layout_place_12 : decode m_Layout_place.2.1 12 = .ok (.lload 4, 2) := by decide +kernel
theorem d_Layout_place_14 : decode m_Layout_place.2.1 14 = .ok (.iload_n 3, 1) := by decide +kernel
theorem d_Layout_place_15 : decode m_Layout_place.2.1 15 = .ok (.i2l, 1) := by decide +kernel
theorem d_Layout_place_16 : decode m_Layout_place.2.1 16 = .ok (.lload 4, 2) := by decide +kernel
theorem d_Layout_place_18 : decode m_Layout_place.2.1 18 = .ok (.lmul, 1) := by decide +kernel
theorem d_Layout_place_19 : decode m_Layout_place.2.1 19 = .ok (.iload_n 3, 1) := by decide +kernel
theorem d_Layout_place_20 : decode m_Layout_place.2.1 20 = .ok (.i2l, 1) := by decide +kernel
theorem d_Layout_place_21 : decode m_Layout_place.2.1 21 = .ok (.lload 4, 2) := by decide +kernel
theorem d_Layout_place_23 : decode m_Layout_place.2.1 23 = .ok (.lmul, 1) := by decide +kernel
theorem d_Layout_place_24 : decode m_Layout_place.2.1 24 = .ok (.invokevirtual 90, 3) := by decide +kernel
theorem d_Layout_place_27 : decode m_Layout_place.2.1 27 = .ok (.iconst 0, 1) := by decide +kernel
theorem d_Layout_place_28 : decode m_Layout_place.2.1 28 = .ok (.istore 6, 2) := by decide +kernel
theorem d_Layout_place_30 : decode m_Layout_place.2.1 30 = .ok (.iload 6, 2) := by decide +kernel
theorem d_Layout_place_32 : decode m_Layout_place.2.1 32 = .ok (.aload_n 0, 1) := by decide +kernel
theorem d_Layout_place_33 : decode m_Layout_place.2.1 33 = .ok (.getfield 34, 3) := by decide +kernel
theorem d_Layout_place_36 : decode m_Layout_place.2.1 36 = .ok (.if_icmp .ge 68, 3) := by decide +kernel
theorem d_Layout_place_39 : decode m_Layout_place.2.1 39 = .ok (.aload_n 1, 1) := by decide +kernel
theorem d_Layout_place_40 : decode m_Layout_place.2.1 40 = .ok (.iload 6, 2) := by decide +kernel
theorem d_Layout_place_42 : decode m_Layout_place.2.1 42 = .ok (.invokevirtual 59, 3) := by decide +kernel
theorem d_Layout_place_45 : decode m_Layout_place.2.1 45 = .ok (.istore 7, 2) := by decide +kernel
theorem d_Layout_place_47 : decode m_Layout_place.2.1 47 = .ok (.iload 7, 2) := by decide +kernel
theorem d_Layout_place_49 : decode m_Layout_place.2.1 49 = .ok (.invokestatic 62, 3) := by decide +kernel
theorem d_Layout_place_52 : decode m_Layout_place.2.1 52 = .ok (.ifCond .eq 14, 3) := by decide +kernel
theorem d_Layout_place_55 : decode m_Layout_place.2.1 55 = .ok (.aload_n 0, 1) := by decide +kernel
theorem d_Layout_place_56 : decode m_Layout_place.2.1 56 = .ok (.iload 6, 2) := by decide +kernel
theorem d_Layout_place_58 : decode m_Layout_place.2.1 58 = .ok (.iload 7, 2) := by decide +kernel
theorem d_Layout_place_60 : decode m_Layout_place.2.1 60 = .ok (.invokevirtual 94, 3) := by decide +kernel
theorem d_Layout_place_63 : decode m_Layout_place.2.1 63 = .ok (.goto 35, 3) := by decide +kernel
theorem d_Layout_place_66 : decode m_Layout_place.2.1 66 = .ok (.iload 7, 2) := by decide +kernel
theorem d_Layout_place_68 : decode m_Layout_place.2.1 68 = .ok (.invokestatic 81, 3) := by decide +kernel
theorem d_Layout_place_71 : decode m_Layout_place.2.1 71 = .ok (.ifCond .eq 27, 3) := by decide +kernel
theorem d_Layout_place_74 : decode m_Layout_place.2.1 74 = .ok (.aload_n 0, 1) := by decide +kernel
theorem d_Layout_place_75 : decode m_Layout_place.2.1 75 = .ok (.iload 6, 2) := by decide +kernel
theorem d_Layout_place_77 : decode m_Layout_place.2.1 77 = .ok (.aload_n 2, 1) := by decide +kernel
theorem d_Layout_place_78 : decode m_Layout_place.2.1 78 = .ok (.iload 7, 2) := by decide +kernel
theorem d_Layout_place_80 : decode m_Layout_place.2.1 80 = .ok (.invokestatic 70, 3) := by decide +kernel
theorem d_Layout_place_83 : decode m_Layout_place.2.1 83 = .ok (.invokevirtual 98, 3) := by decide +kernel
theorem d_Layout_place_86 : decode m_Layout_place.2.1 86 = .ok (.aload_n 2, 1) := by decide +kernel
theorem d_Layout_place_87 : decode m_Layout_place.2.1 87 = .ok (.iload 7, 2) := by decide +kernel
theorem d_Layout_place_89 : decode m_Layout_place.2.1 89 = .ok (.invokestatic 70, 3) := by decide +kernel
theorem d_Layout_place_92 : decode m_Layout_place.2.1 92 = .ok (.invokevirtual 101, 3) := by decide +kernel
theorem d_Layout_place_95 : decode m_Layout_place.2.1 95 = .ok (.invokevirtual 104, 3) := by decide +kernel
theorem d_Layout_place_98 : decode m_Layout_place.2.1 98 = .ok (.iinc 6 1, 3) := by decide +kernel
theorem d_Layout_place_101 : decode m_Layout_place.2.1 101 = .ok (.goto (-71), 3) := by decide +kernel
theorem d_Layout_place_104 : decode m_Layout_place.2.1 104 = .ok (.return_, 1) := by decide +kernel
theorem b_Layout_place_0 {E : EV} {d : Nat} {Q : Option AV → St → Prop} {σ : St} (x1 x2 x3 : Int) (hF : Fix σ) (h : (WMi E m_Layout_span d [aP 23, aI x3] σ (fun v1 σ1 => Fix σ1 ∧ (rI v1) ∧ (rI x3) ∧ (rI x3) ∧ (rI x3) ∧ (WMv E m_Layout_lay d [aP 23, aI 0, aL x3, aL v1, aL (x3 * v1), aL (x3 * v1)] σ1 (fun σ6 => WP E m_Layout_place (d + 1) 30 [(0, aP 23), (1, aP x1), (2, aP x2), (6, aI 0)] [] σ6 Q))))) : WP E m_Layout_place (d + 1) 0 [(0, aP 23), (1, aP x1), (2, aP x2), (3, aI x3)] [] σ Q := by
  refine s_aload_n 0 d_Layout_place_0 rfl rfl ?_
  refine s_iload_n 3 d_Layout_place_1 rfl rfl ?_
  refine s_callV (as := [aI x3]) (ci := 2) d_Layout_place_2 ok_Layout_span lk_Layout_87 io_Layout_span so_Layout_span (by decide) rfl rfl rfl (Nat.le_of_ble_eq_true rfl) rfl (sf_23 hF) (WM.mono h ?_)
  rintro _ σ1 ⟨v1, rfl, hp, h⟩
  obtain ⟨hF1, h⟩ := h
  show WP E m_Layout_place (d + 1) 5 [(0, aP 23), (1, aP x1), (2, aP x2), (3, aI x3)] [aI v1] σ1 Q
  obtain ⟨g2, h⟩ := h
  refine s_i2l d_Layout_place_5 g2 ?_
  refine s_lstore d_Layout_place_6 (by decide) rfl ?_
  refine s_aload_n 1 d_Layout_place_8 rfl rfl ?_
  refine s_iconst d_Layout_place_9 ?_
  refine s_iload_n 4 d_Layout_place_10 rfl rfl ?_
  obtain ⟨g3, h⟩ := h
  refine s_i2l d_Layout_place_11 g3 ?_
  refine s_lload 0 d_Layout_place_12 rfl ?_
  refine s_iload_n 4 d_Layout_place_14 rfl rfl ?_
  obtain ⟨g4, h⟩ := h
  refine s_i2l d_Layout_place_15 g4 ?_
  refine s_lload 0 d_Layout_place_16 rfl ?_
  refine s_lmul d_Layout_place_18 ?_
  refine s_iload_n 4 d_Layout_place_19 rfl rfl ?_
  obtain ⟨g5, h⟩ := h
  refine s_i2l d_Layout_place_20 g5 ?_
  refine s_lload 0 d_Layout_place_21 rfl ?_
  refine s_lmul d_Layout_place_23 ?_
  refine s_callV (as := [aI 0, aL x3, aL v1, aL (x3 * v1), aL (x3 * v1)]) (ci := 2) d_Layout_place_24 ok_Layout_lay lk_Layout_90 io_Layout_lay so_Layout_lay (by decide) rfl rfl rfl (Nat.le_of_ble_eq_true rfl) rfl (sf_23 hF1) (WM.mono h ?_)
  rintro _ σ6 ⟨rfl, hp, h⟩
  show WP E m_Layout_place (d + 1) 27 [(4, aL v1), (0, aP 23), (1, aP x1), (2, aP x2), (3, aI x3)] [] σ6 Q
  refine s_iconst d_Layout_place_27 ?_
  refine s_istore d_Layout_place_28 (by decide) rfl ?_
  refine wp_drop [2, 3, 4, 0] rfl ?_
  exact h
theorem e_Layout_place {E : EV} {d : Nat} {Q : Option AV → St → Prop} {σ : St} (x1 x2 x3 : Int) (hF : Fix σ) (h : (WMi E m_Layout_span d [aP 23, aI x3] σ (fun v1 σ1 => Fix σ1 ∧ (rI v1) ∧ (rI x3) ∧ (rI x3) ∧ (rI x3) ∧ (WMv E m_Layout_lay d [aP 23, aI 0, aL x3, aL v1, aL (x3 * v1), aL (x3 * v1)] σ1 (fun σ6 => WP E m_Layout_place (d + 1) 30 [(0, aP 23), (1, aP x1), (2, aP x2), (6, aI 0)] [] σ6 Q))))) : WM E m_Layout_place (d + 1) [aP 23, aP x1, aP x2, aI x3] σ Q := s_meth (by decide) (Nat.le_of_ble_eq_true rfl) rfl (b_Layout_place_0 x1 x2 x3 hF h)
theorem b_Layout_place_30 {E : EV} {d : Nat} {Q : Option AV → St → Prop} {σ : St} (x1 x2 x6 : Int) (hF : Fix σ) (h : (rI x6) ∧ (rI (σ.1 23 7)) ∧ (((σ.1 23 7) ≤ x6 → Q none σ) ∧ (¬ (σ.1 23 7) ≤ x6 → (sh σ x1 = some (7, 1)) ∧ (WMi E m_Sq_symbol d [aP x1, aI x6] σ (fun v3 σ3 => Fix σ3 ∧ (WMi E m_S_isJoint d [aI v3] σ3 (fun v5 σ5 => Fix σ5 ∧ (rI v5) ∧ ((v5 = 0 → (WMi E m_S_holds d [aI v3] σ5 (fun v7 σ7 => Fix σ7 ∧ (rI v7) ∧ ((v7 = 0 → WP E m_Layout_place (d + 1) 98 [(0, aP 23), (1, aP x1), (2, aP x2), (6, aI x6)] [] σ7 Q) ∧ (¬ v7 = 0 → (WMi E m_S_letterOf d [aI v3] σ7 (fun v9 σ9 => Fix σ9 ∧ (sh σ9 x2 = some (8, 4)) ∧ (WMi E m_Table_coreWideOf d [aP x2, aI v9] σ9 (fun v10 σ10 => Fix σ10 ∧ (WMi E m_S_letterOf d [aI v3] σ10 (fun v12 σ12 => Fix σ12 ∧ (sh σ12 x2 = some (8, 4)) ∧ (WMi E m_Table_coreHighOf d [aP x2, aI v12] σ12 (fun v13 σ13 => Fix σ13 ∧ (WMv E m_Layout_placeInside d [aP 23, aI x6, aI v10, aI v13] σ13 (fun σ15 => WP E m_Layout_place (d + 1) 98 [(0, aP 23), (1, aP x1), (2, aP x2), (6, aI x6)] [] σ15 Q))))))))))))))) ∧ (¬ v5 = 0 → (WMv E m_Layout_placeBoth d [aP 23, aI x6, aI v3] σ5 (fun σ16 => WP E m_Layout_place (d + 1) 98 [(0, aP 23), (1, aP x1), (2, aP x2), (6, aI x6)] [] σ16 Q))))))))))) : WP E m_Layout_place (d + 1) 30 [(0, aP 23), (1, aP x1), (2, aP x2), (6, aI x6)] [] σ Q := by
  refine s_iload 3 d_Layout_place_30 rfl ?_
  refine s_aload_n 0 d_Layout_place_32 rfl rfl ?_
  refine s_getF (v := σ.1 23 7) d_Layout_place_33 fl_Layout_34 rfl (sf_23 hF) rfl ?_
  obtain ⟨g1, h⟩ := h
  obtain ⟨g2, h⟩ := h
  refine s_icmp_ge d_Layout_place_36 rfl g1 g2 (fun c => ?_) (fun c => ?_)
  · have h := h.1 c
    exact s_return d_Layout_place_104 rfl h
  · have h := h.2 c
    refine s_aload_n 1 d_Layout_place_39 rfl rfl ?_
    refine s_iload 3 d_Layout_place_40 rfl ?_
    obtain ⟨g4, h⟩ := h
    refine s_callV (as := [aI x6]) (ci := 7) d_Layout_place_42 ok_Sq_symbol lk_Layout_59 io_Sq_symbol so_Sq_symbol (by decide) rfl rfl rfl (Nat.le_of_ble_eq_true rfl) rfl g4 (WM.mono h ?_)
    rintro _ σ3 ⟨v3, rfl, hp, h⟩
    obtain ⟨hF4, h⟩ := h
    show WP E m_Layout_place (d + 1) 45 [(0, aP 23), (1, aP x1), (2, aP x2), (6, aI x6)] [aI v3] σ3 Q
    refine s_istore d_Layout_place_45 (by decide) rfl ?_
    refine s_iload 0 d_Layout_place_47 rfl ?_
    refine s_callS (as := [aI v3]) d_Layout_place_49 ok_S_isJoint lk_Layout_62 to_S_isJoint rfl (Nat.le_of_ble_eq_true rfl) rfl (WM.mono h ?_)
    rintro _ σ5 ⟨v5, rfl, hp, h⟩
    obtain ⟨hF5, h⟩ := h
    show WP E m_Layout_place (d + 1) 52 [(7, aI v3), (0, aP 23), (1, aP x1), (2, aP x2), (6, aI x6)] [aI v5] σ5 Q
    obtain ⟨g6, h⟩ := h
    refine s_if_eq d_Layout_place_52 rfl g6 (fun c => ?_) (fun c => ?_)
    · have h := h.1 c
      refine s_iload 0 d_Layout_place_66 rfl ?_
      refine s_callS (as := [aI v3]) d_Layout_place_68 ok_S_holds lk_Layout_81 to_S_holds rfl (Nat.le_of_ble_eq_true rfl) rfl (WM.mono h ?_)
      rintro _ σ7 ⟨v7, rfl, hp, h⟩
      obtain ⟨hF7, h⟩ := h
      show WP E m_Layout_place (d + 1) 71 [(7, aI v3), (0, aP 23), (1, aP x1), (2, aP x2), (6, aI x6)] [aI v7] σ7 Q
      obtain ⟨g8, h⟩ := h
      refine s_if_eq d_Layout_place_71 rfl g8 (fun c => ?_) (fun c => ?_)
      · have h := h.1 c
        refine wp_drop [1, 2, 3, 4] rfl ?_
        exact h
      · have h := h.2 c
        refine s_aload_n 1 d_Layout_place_74 rfl rfl ?_
        refine s_iload 4 d_Layout_place_75 rfl ?_
        refine s_aload_n 3 d_Layout_place_77 rfl rfl ?_
        refine s_iload 0 d_Layout_place_78 rfl ?_
        refine s_callS (as := [aI v3]) d_Layout_place_80 ok_S_letterOf lk_Layout_70 to_S_letterOf rfl (Nat.le_of_ble_eq_true rfl) rfl (WM.mono h ?_)
        rintro _ σ9 ⟨v9, rfl, hp, h⟩
        obtain ⟨hF9, h⟩ := h
        show WP E m_Layout_place (d + 1) 83 [(7, aI v3), (0, aP 23), (1, aP x1), (2, aP x2), (6, aI x6)] [aI v9, aP x2, aI x6, aP 23] σ9 Q
        obtain ⟨g11, h⟩ := h
        refine s_callV (as := [aI v9]) (ci := 8) d_Layout_place_83 ok_Table_coreWideOf lk_Layout_98 io_Table_coreWideOf so_Table_coreWideOf (by decide) rfl rfl rfl (Nat.le_of_ble_eq_true rfl) rfl g11 (WM.mono h ?_)
        rintro _ σ10 ⟨v10, rfl, hp, h⟩
        obtain ⟨hF11, h⟩ := h
        show WP E m_Layout_place (d + 1) 86 [(7, aI v3), (0, aP 23), (1, aP x1), (2, aP x2), (6, aI x6)] [aI v10, aI x6, aP 23] σ10 Q
        refine s_aload_n 3 d_Layout_place_86 rfl rfl ?_
        refine s_iload 0 d_Layout_place_87 rfl ?_
        refine s_callS (as := [aI v3]) d_Layout_place_89 ok_S_letterOf lk_Layout_70 to_S_letterOf rfl (Nat.le_of_ble_eq_true rfl) rfl (WM.mono h ?_)
        rintro _ σ12 ⟨v12, rfl, hp, h⟩
        obtain ⟨hF12, h⟩ := h
        show WP E m_Layout_place (d + 1) 92 [(7, aI v3), (0, aP 23), (1, aP x1), (2, aP x2), (6, aI x6)] [aI v12, aP x2, aI v10, aI x6, aP 23] σ12 Q
        obtain ⟨g14, h⟩ := h
        refine s_callV (as := [aI v12]) (ci := 8) d_Layout_place_92 ok_Table_coreHighOf lk_Layout_101 io_Table_coreHighOf so_Table_coreHighOf (by decide) rfl rfl rfl (Nat.le_of_ble_eq_true rfl) rfl g14 (WM.mono h ?_)
        rintro _ σ13 ⟨v13, rfl, hp, h⟩
        obtain ⟨hF14, h⟩ := h
        show WP E m_Layout_place (d + 1) 95 [(7, aI v3), (0, aP 23), (1, aP x1), (2, aP x2), (6, aI x6)] [aI v13, aI v10, aI x6, aP 23] σ13 Q
        refine s_callV (as := [aI x6, aI v10, aI v13]) (ci := 2) d_Layout_place_95 ok_Layout_placeInside lk_Layout_104 io_Layout_placeInside so_Layout_placeInside (by decide) rfl rfl rfl (Nat.le_of_ble_eq_true rfl) rfl (sf_23 hF14) (WM.mono h ?_)
        rintro _ σ15 ⟨rfl, hp, h⟩
        show WP E m_Layout_place (d + 1) 98 [(7, aI v3), (0, aP 23), (1, aP x1), (2, aP x2), (6, aI x6)] [] σ15 Q
        refine wp_drop [1, 2, 3, 4] rfl ?_
        exact h
    · have h := h.2 c
      refine s_aload_n 1 d_Layout_place_55 rfl rfl ?_
      refine s_iload 4 d_Layout_place_56 rfl ?_
      refine s_iload 0 d_Layout_place_58 rfl ?_
      refine s_callV (as := [aI x6, aI v3]) (ci := 2) d_Layout_place_60 ok_Layout_placeBoth lk_Layout_94 io_Layout_placeBoth so_Layout_placeBoth (by decide) rfl rfl rfl (Nat.le_of_ble_eq_true rfl) rfl (sf_23 hF5) (WM.mono h ?_)
      rintro _ σ16 ⟨rfl, hp, h⟩
      show WP E m_Layout_place (d + 1) 63 [(7, aI v3), (0, aP 23), (1, aP x1), (2, aP x2), (6, aI x6)] [] σ16 Q
      refine s_goto d_Layout_place_63 rfl ?_
      refine wp_drop [1, 2, 3, 4] rfl ?_
      exact h
theorem b_Layout_place_98 {E : EV} {d : Nat} {Q : Option AV → St → Prop} {σ : St} (x1 x2 x6 : Int) (h : WP E m_Layout_place (d + 1) 30 [(0, aP 23), (1, aP x1), (2, aP x2), (6, aI (x6 + 1))] [] σ Q) : WP E m_Layout_place (d + 1) 98 [(0, aP 23), (1, aP x1), (2, aP x2), (6, aI x6)] [] σ Q := by
  refine s_iinc 3 d_Layout_place_98 rfl (by decide) rfl ?_
  refine s_goto d_Layout_place_101 rfl ?_
  refine wp_drop [1, 2, 3, 0] rfl ?_
  exact h
theorem d_Layout_lay_0 : decode m_Layout_lay.2.1 0 = .ok (.iload_n 1, 1) := by decide +kernel
theorem d_Layout_lay_1 : decode m_Layout_lay.2.1 1 = .ok (.ifCond .lt 42, 3) := by decide +kernel
theorem d_Layout_lay_4 : decode m_Layout_lay.2.1 4 = .ok (.iload_n 1, 1) := by decide +kernel
theorem d_Layout_lay_5 : decode m_Layout_lay.2.1 5 = .ok (.aload_n 0, 1) := by decide +kernel
theorem d_Layout_lay_6 : decode m_Layout_lay.2.1 6 = .ok (.getfield 34, 3) := by decide +kernel
theorem d_Layout_lay_9 : decode m_Layout_lay.2.1 9 = .ok (.if_icmp .ge 34, 3) := by decide +kernel
theorem d_Layout_lay_12 : decode m_Layout_lay.2.1 12 = .ok (.aload_n 0, 1) := by decide +kernel
theorem d_Layout_lay_13 : decode m_Layout_lay.2.1 13 = .ok (.getfield 21, 3) := by decide +kernel
theorem d_Layout_lay_16 : decode m_Layout_lay.2.1 16 = .ok (.iload_n 1, 1) := by decide +kernel
theorem d_Layout_lay_17 : decode m_Layout_lay.2.1 17 = .ok (.lload_n 2, 1) := by decide +kernel
theorem d_Layout_lay_18 : decode m_Layout_lay.2.1 18 = .ok (.lastore, 1) := by decide +kernel
theorem d_Layout_lay_19 : decode m_Layout_lay.2.1 19 = .ok (.aload_n 0, 1) := by decide +kernel
theorem d_Layout_lay_20 : decode m_Layout_lay.2.1 20 = .ok (.getfield 25, 3) := by decide +kernel
theorem d_Layout_lay_23 : decode m_Layout_lay.2.1 23 = .ok (.iload_n 1, 1) := by decide +kernel
theorem d_Layout_lay_24 : decode m_Layout_lay.2.1 24 = .ok (.lload 4, 2) := by decide +kernel
theorem d_Layout_lay_26 : decode m_Layout_lay.2.1 26 = .ok (.lastore, 1) := by decide +kernel
theorem d_Layout_lay_27 : decode m_Layout_lay.2.1 27 = .ok (.aload_n 0, 1) := by decide +kernel
theorem d_Layout_lay_28 : decode m_Layout_lay.2.1 28 = .ok (.getfield 28, 3) := by decide +kernel
theorem d_Layout_lay_31 : decode m_Layout_lay.2.1 31 = .ok (.iload_n 1, 1) := by decide +kernel
theorem d_Layout_lay_32 : decode m_Layout_lay.2.1 32 = .ok (.lload 6, 2) := by decide +kernel
theorem d_Layout_lay_34 : decode m_Layout_lay.2.1 34 = .ok (.lastore, 1) := by decide +kernel
theorem d_Layout_lay_35 : decode m_Layout_lay.2.1 35 = .ok (.aload_n 0, 1) := by decide +kernel
theorem d_Layout_lay_36 : decode m_Layout_lay.2.1 36 = .ok (.getfield 31, 3) := by decide +kernel
theorem d_Layout_lay_39 : decode m_Layout_lay.2.1 39 = .ok (.iload_n 1, 1) := by decide +kernel
theorem d_Layout_lay_40 : decode m_Layout_lay.2.1 40 = .ok (.lload 8, 2) := by decide +kernel
theorem d_Layout_lay_42 : decode m_Layout_lay.2.1 42 = .ok (.lastore, 1) := by decide +kernel
theorem d_Layout_lay_43 : decode m_Layout_lay.2.1 43 = .ok (.return_, 1) := by decide +kernel
theorem b_Layout_lay_0 {E : EV} {d : Nat} {Q : Option AV → St → Prop} {σ : St} (x1 x2 x4 x6 x8 : Int) (hF : Fix σ) (h : (rI x1) ∧ ((x1 < 0 → Q none σ) ∧ (¬ x1 < 0 → (rI x1) ∧ (rI (σ.1 23 7)) ∧ (((σ.1 23 7) ≤ x1 → Q none σ) ∧ (¬ (σ.1 23 7) ≤ x1 → (0 ≤ x1 ∧ x1 < 24) ∧ (0 ≤ x1 ∧ x1 < 24) ∧ (0 ≤ x1 ∧ x1 < 24) ∧ (0 ≤ x1 ∧ x1 < 24) ∧ Q none (wr (wr (wr (wr σ 27 x1 x2) 28 x1 x4) 29 x1 x6) 30 x1 x8)))))) : WP E m_Layout_lay d 0 [(0, aP 23), (1, aI x1), (2, aL x2), (4, aL x4), (6, aL x6), (8, aL x8)] [] σ Q := by
  refine s_iload_n 1 d_Layout_lay_0 rfl rfl ?_
  obtain ⟨g1, h⟩ := h
  refine s_if_lt d_Layout_lay_1 rfl g1 (fun c => ?_) (fun c => ?_)
  · have h := h.1 c
    exact s_return d_Layout_lay_43 rfl h
  · have h := h.2 c
    refine s_iload_n 1 d_Layout_lay_4 rfl rfl ?_
    refine s_aload_n 0 d_Layout_lay_5 rfl rfl ?_
    refine s_getF (v := σ.1 23 7) d_Layout_lay_6 fl_Layout_34 rfl (sf_23 hF) rfl ?_
    obtain ⟨g2, h⟩ := h
    obtain ⟨g3, h⟩ := h
    refine s_icmp_ge d_Layout_lay_9 rfl g2 g3 (fun c => ?_) (fun c => ?_)
    · have h := h.1 c
      exact s_return d_Layout_lay_43 rfl h
    · have h := h.2 c
      refine s_aload_n 0 d_Layout_lay_12 rfl rfl ?_
      refine s_getF (v := 27) d_Layout_lay_13 fl_Layout_21 rfl (sf_23 hF) (ff_15 hF) ?_
      refine s_iload_n 1 d_Layout_lay_16 rfl rfl ?_
      refine s_lload_n 2 d_Layout_lay_17 rfl rfl ?_
      obtain ⟨g4, h⟩ := h
      refine s_lastore d_Layout_lay_18 ⟨_, sf_27 hF, g4.1, g4.2, by have := g4.2; omega⟩ ?_
      refine s_aload_n 0 d_Layout_lay_19 rfl rfl ?_
      refine s_getF (v := 28) d_Layout_lay_20 fl_Layout_25 rfl (sf_23 (hF.wa (a := 27) (by decide))) (ff_16 (hF.wa (a := 27) (by decide))) ?_
      refine s_iload_n 1 d_Layout_lay_23 rfl rfl ?_
      refine s_lload 3 d_Layout_lay_24 rfl ?_
      obtain ⟨g5, h⟩ := h
      refine s_lastore d_Layout_lay_26 ⟨_, sf_28 (hF.wa (a := 27) (by decide)), g5.1, g5.2, by have := g5.2; omega⟩ ?_
      refine s_aload_n 0 d_Layout_lay_27 rfl rfl ?_
      refine s_getF (v := 29) d_Layout_lay_28 fl_Layout_28 rfl (sf_23 ((hF.wa (a := 27) (by decide)).wa (a := 28) (by decide))) (ff_17 ((hF.wa (a := 27) (by decide)).wa (a := 28) (by decide))) ?_
      refine s_iload_n 1 d_Layout_lay_31 rfl rfl ?_
      refine s_lload 4 d_Layout_lay_32 rfl ?_
      obtain ⟨g6, h⟩ := h
      refine s_lastore d_Layout_lay_34 ⟨_, sf_29 ((hF.wa (a := 27) (by decide)).wa (a := 28) (by decide)), g6.1, g6.2, by have := g6.2; omega⟩ ?_
      refine s_aload_n 0 d_Layout_lay_35 rfl rfl ?_
      refine s_getF (v := 30) d_Layout_lay_36 fl_Layout_31 rfl (sf_23 (((hF.wa (a := 27) (by decide)).wa (a := 28) (by decide)).wa (a := 29) (by decide))) (ff_18 (((hF.wa (a := 27) (by decide)).wa (a := 28) (by decide)).wa (a := 29) (by decide))) ?_
      refine s_iload_n 1 d_Layout_lay_39 rfl rfl ?_
      refine s_lload 5 d_Layout_lay_40 rfl ?_
      obtain ⟨g7, h⟩ := h
      refine s_lastore d_Layout_lay_42 ⟨_, sf_30 (((hF.wa (a := 27) (by decide)).wa (a := 28) (by decide)).wa (a := 29) (by decide)), g7.1, g7.2, by have := g7.2; omega⟩ ?_
      exact s_return d_Layout_lay_43 rfl h
theorem e_Layout_lay {E : EV} {d : Nat} {Q : Option AV → St → Prop} {σ : St} (x1 x2 x4 x6 x8 : Int) (hF : Fix σ) (h : (rI x1) ∧ ((x1 < 0 → Q none σ) ∧ (¬ x1 < 0 → (rI x1) ∧ (rI (σ.1 23 7)) ∧ (((σ.1 23 7) ≤ x1 → Q none σ) ∧ (¬ (σ.1 23 7) ≤ x1 → (0 ≤ x1 ∧ x1 < 24) ∧ (0 ≤ x1 ∧ x1 < 24) ∧ (0 ≤ x1 ∧ x1 < 24) ∧ (0 ≤ x1 ∧ x1 < 24) ∧ Q none (wr (wr (wr (wr σ 27 x1 x2) 28 x1 x4) 29 x1 x6) 30 x1 x8)))))) : WM E m_Layout_lay d [aP 23, aI x1, aL x2, aL x4, aL x6, aL x8] σ Q := s_meth (by decide) (Nat.le_of_ble_eq_true rfl) rfl (b_Layout_lay_0 x1 x2 x4 x6 x8 hF h)
theorem d_Layout_placeBoth_0 : decode m_Layout_placeBoth.2.1 0 = .ok (.iload_n 1, 1) := by decide +kernel
theorem d_Layout_placeBoth_1 : decode m_Layout_placeBoth.2.1 1 = .ok (.iconst 1, 1) := by decide +kernel
theorem d_Layout_placeBoth_2 : decode m_Layout_placeBoth.2.1 2 = .ok (.iadd, 1) := by decide +kernel
theorem d_Layout_placeBoth_3 : decode m_Layout_placeBoth.2.1 3 = .ok (.istore_n 3, 1) := by decide +kernel
theorem d_Layout_placeBoth_4 : decode m_Layout_placeBoth.2.1 4 = .ok (.aload_n 0, 1) := by decide +kernel
theorem d_Layout_placeBoth_5 : decode m_Layout_placeBoth.2.1 5 = .ok (.iload_n 3, 1) := by decide +kernel
theorem d_Layout_placeBoth_6 : decode m_Layout_placeBoth.2.1 6 = .ok (.invokevirtual 84, 3) := by decide +kernel
theorem d_Layout_placeBoth_9 : decode m_Layout_placeBoth.2.1 9 = .ok (.istore 4, 2) := by decide +kernel
theorem d_Layout_placeBoth_11 : decode m_Layout_placeBoth.2.1 11 = .ok (.iload_n 2, 1) := by decide +kernel
theorem d_Layout_placeBoth_12 : decode m_Layout_placeBoth.2.1 12 = .ok (.bipush 64, 2) := by decide +kernel
theorem d_Layout_placeBoth_14 : decode m_Layout_placeBoth.2.1 14 = .ok (.if_icmp .ne 12, 3) := by decide +kernel
theorem d_Layout_placeBoth_17 : decode m_Layout_placeBoth.2.1 17 = .ok (.aload_n 0, 1) := by decide +kernel
theorem d_Layout_placeBoth_18 : decode m_Layout_placeBoth.2.1 18 = .ok (.getfield 21, 3) := by decide +kernel
theorem d_Layout_placeBoth_21 : decode m_Layout_placeBoth.2.1 21 = .ok (.iload_n 1, 1) := by decide +kernel
theorem d_Layout_placeBoth_22 : decode m_Layout_placeBoth.2.1 22 = .ok (.laload, 1) := by decide +kernel
theorem d_Layout_placeBoth_23 : decode m_Layout_placeBoth.2.1 23 = .ok (.goto 4, 3) := by decide +kernel
theorem d_Layout_placeBoth_26 : decode m_Layout_placeBoth.2.1 26 = .ok (.lconst 0, 1) := by decide +kernel
theorem d_Layout_placeBoth_27 : decode m_Layout_placeBoth.2.1 27 = .ok (.lstore 5, 2) := by decide +kernel
theorem d_Layout_placeBoth_29 : decode m_Layout_placeBoth.2.1 29 = .ok (.iload_n 2, 1) := by decide +kernel
theorem d_Layout_placeBoth_30 : decode m_Layout_placeBoth.2.1 30 = .ok (.bipush 64, 2) := by decide +kernel
theorem d_Layout_placeBoth_32 : decode m_Layout_placeBoth.2.1 32 = .ok (.if_icmp .ne 7, 3) := by decide +kernel
theorem d_Layout_placeBoth_35 : decode m_Layout_placeBoth.2.1 35 = .ok (.lconst 0, 1) := by decide +kernel
theorem d_Layout_placeBoth_36 : decode m_Layout_placeBoth.2.1 36 = .ok (.goto 9, 3) := by decide +kernel
theorem d_Layout_placeBoth_39 : decode m_Layout_placeBoth.2.1 39 = .ok (.aload_n 0, 1) := by decide +kernel
theorem d_Layout_placeBoth_40 : decode m_Layout_placeBoth.2.1 40 = .ok (.getfield 21, 3) := by decide +kernel
theorem d_Layout_placeBoth_43 : decode m_Layout_placeBoth.2.1 43 = .ok (.iload_n 1, 1) := by decide +kernel
theorem d_Layout_placeBoth_44 : decode m_Layout_placeBoth.2.1 44 = .ok (.laload, 1) := by decide +kernel
theorem d_Layout_placeBoth_45 : decode m_Layout_placeBoth.2.1 45 = .ok (.lstore 7, 2) := by decide +kernel
theorem d_Layout_placeBoth_47 : decode m_Layout_placeBoth.2.1 47 = .ok (.aload_n 0, 1) := by decide +kernel
theorem d_Layout_placeBoth_48 : decode m_Layout_placeBoth.2.1 48 = .ok (.iload_n 3, 1) := by decide +kernel
theorem d_Layout_placeBoth_49 : decode m_Layout_placeBoth.2.1 49 = .ok (.aload_n 0, 1) := by decide +kernel
theorem d_Layout_placeBoth_50 : decode m_Layout_placeBoth.2.1 50 = .ok (.getfield 21, 3) := by decide +kernel
theorem d_Layout_placeBoth_53 : decode m_Layout_placeBoth.2.1 53 = .ok (.iload_n 1, 1) := by decide +kernel
theorem d_Layout_placeBoth_54 : decode m_Layout_placeBoth.2.1 54 = .ok (.laload, 1) := by decide +kernel
theorem d_Layout_placeBoth_55 : decode m_Layout_placeBoth.2.1 55 = .ok (.aload_n 0, 1) := by decide +kernel
theorem d_Layout_placeBoth_56 : decode m_Layout_placeBoth.2.1 56 = .ok (.getfield 25, 3) := by decide +kernel
theorem d_Layout_placeBoth_59 : decode m_Layout_placeBoth.2.1 59 = .ok (.iload_n 1, 1) := by decide +kernel
theorem d_Layout_placeBoth_60 : decode m_Layout_placeBoth.2.1 60 = .ok (.laload, 1) := by decide +kernel
theorem d_Layout_placeBoth_61 : decode m_Layout_placeBoth.2.1 61 = .ok (.aload_n 0, 1) := by decide +kernel
theorem d_Layout_placeBoth_62 : decode m_Layout_placeBoth.2.1 62 = .ok (.getfield 28, 3) := by decide +kernel
theorem d_Layout_placeBoth_65 : decode m_Layout_placeBoth.2.1 65 = .ok (.iload_n 1, 1) := by decide +kernel
theorem d_Layout_placeBoth_66 : decode m_Layout_placeBoth.2.1 66 = .ok (.laload, 1) := by decide +kernel
theorem d_Layout_placeBoth_67 : decode m_Layout_placeBoth.2.1 67 = .ok (.lload 5, 2) := by decide +kernel
theorem d_Layout_placeBoth_69 : decode m_Layout_placeBoth.2.1 69 = .ok (.aload_n 0, 1) := by decide +kernel
theorem d_Layout_placeBoth_70 : decode m_Layout_placeBoth.2.1 70 = .ok (.iload_n 3, 1) := by decide +kernel
theorem d_Layout_placeBoth_71 : decode m_Layout_placeBoth.2.1 71 = .ok (.invokevirtual 38, 3) := by decide +kernel
theorem d_Layout_placeBoth_74 : decode m_Layout_placeBoth.2.1 74 = .ok (.aload_n 0, 1) := by decide +kernel
theorem d_Layout_placeBoth_75 : decode m_Layout_placeBoth.2.1 75 = .ok (.getfield 15, 3) := by decide +kernel
theorem d_Layout_placeBoth_78 : decode m_Layout_placeBoth.2.1 78 = .ok (.iload_n 1, 1) := by decide +kernel
theorem d_Layout_placeBoth_79 : decode m_Layout_placeBoth.2.1 79 = .ok (.iaload, 1) := by decide +kernel
theorem d_Layout_placeBoth_80 : decode m_Layout_placeBoth.2.1 80 = .ok (.isub, 1) := by decide +kernel
theorem d_Layout_placeBoth_81 : decode m_Layout_placeBoth.2.1 81 = .ok (.i2l, 1) := by decide +kernel
theorem d_Layout_placeBoth_82 : decode m_Layout_placeBoth.2.1 82 = .ok (.lmul, 1) := by decide +kernel
theorem d_Layout_placeBoth_83 : decode m_Layout_placeBoth.2.1 83 = .ok (.ladd, 1) := by decide +kernel
theorem d_Layout_placeBoth_84 : decode m_Layout_placeBoth.2.1 84 = .ok (.aload_n 0, 1) := by decide +kernel
theorem d_Layout_placeBoth_85 : decode m_Layout_placeBoth.2.1 85 = .ok (.getfield 31, 3) := by decide +kernel
theorem d_Layout_placeBoth_88 : decode m_Layout_placeBoth.2.1 88 = .ok (.iload_n 1, 1) := by decide +kernel
theorem d_Layout_placeBoth_89 : decode m_Layout_placeBoth.2.1 89 = .ok (.laload, 1) := by decide +kernel
theorem d_Layout_placeBoth_90 : decode m_Layout_placeBoth.2.1 90 = .ok (.lload 7, 2) := by decide +kernel
theorem d_Layout_placeBoth_92 : decode m_Layout_placeBoth.2.1 92 = .ok (.aload_n 0, 1) := by decide +kernel
theorem d_Layout_placeBoth_93 : decode m_Layout_placeBoth.2.1 93 = .ok (.iload_n 3, 1) := by decide +kernel
theorem d_Layout_placeBoth_94 : decode m_Layout_placeBoth.2.1 94 = .ok (.invokevirtual 42, 3) := by decide +kernel
theorem d_Layout_placeBoth_97 : decode m_Layout_placeBoth.2.1 97 = .ok (.aload_n 0, 1) := by decide +kernel
theorem d_Layout_placeBoth_98 : decode m_Layout_placeBoth.2.1 98 = .ok (.getfield 18, 3) := by decide +kernel
theorem d_Layout_placeBoth_101 : decode m_Layout_placeBoth.2.1 101 = .ok (.iload_n 1, 1) := by decide +kernel
theorem d_Layout_placeBoth_102 : decode m_Layout_placeBoth.2.1 102 = .ok (.iaload, 1) := by decide +kernel
theorem d_Layout_placeBoth_103 : decode m_Layout_placeBoth.2.1 103 = .ok (.isub, 1) := by decide +kernel
theorem d_Layout_placeBoth_104 : decode m_Layout_placeBoth.2.1 104 = .ok (.i2l, 1) := by decide +kernel
theorem d_Layout_placeBoth_105 : decode m_Layout_placeBoth.2.1 105 = .ok (.lmul, 1) := by decide +kernel
theorem d_Layout_placeBoth_106 : decode m_Layout_placeBoth.2.1 106 = .ok (.ladd, 1) := by decide +kernel
theorem d_Layout_placeBoth_107 : decode m_Layout_placeBoth.2.1 107 = .ok (.invokevirtual 90, 3) := by decide +kernel
theorem d_Layout_placeBoth_110 : decode m_Layout_placeBoth.2.1 110 = .ok (.aload_n 0, 1) := by decide +kernel
theorem d_Layout_placeBoth_111 : decode m_Layout_placeBoth.2.1 111 = .ok (.iload 4, 2) := by decide +kernel
theorem d_Layout_placeBoth_113 : decode m_Layout_placeBoth.2.1 113 = .ok (.aload_n 0, 1) := by decide +kernel
theorem d_Layout_placeBoth_114 : decode m_Layout_placeBoth.2.1 114 = .ok (.getfield 21, 3) := by decide +kernel
theorem d_Layout_placeBoth_117 : decode m_Layout_placeBoth.2.1 117 = .ok (.iload_n 1, 1) := by decide +kernel
theorem d_Layout_placeBoth_118 : decode m_Layout_placeBoth.2.1 118 = .ok (.laload, 1) := by decide +kernel
theorem d_Layout_placeBoth_119 : decode m_Layout_placeBoth.2.1 119 = .ok (.aload_n 0, 1) := by decide +kernel
theorem d_Layout_placeBoth_120 : decode m_Layout_placeBoth.2.1 120 = .ok (.getfield 25, 3) := by decide +kernel
theorem d_Layout_placeBoth_123 : decode m_Layout_placeBoth.2.1 123 = .ok (.iload_n 1, 1) := by decide +kernel
theorem d_Layout_placeBoth_124 : decode m_Layout_placeBoth.2.1 124 = .ok (.laload, 1) := by decide +kernel
theorem d_Layout_placeBoth_125 : decode m_Layout_placeBoth.2.1 125 = .ok (.aload_n 0, 1) := by decide +kernel
theorem d_Layout_placeBoth_126 : decode m_Layout_placeBoth.2.1 126 = .ok (.getfield 28, 3) := by decide +kernel
theorem d_Layout_placeBoth_129 : decode m_Layout_placeBoth.2.1 129 = .ok (.iload_n 1, 1) := by decide +kernel
theorem d_Layout_placeBoth_130 : decode m_Layout_placeBoth.2.1 130 = .ok (.laload, 1) := by decide +kernel
theorem d_Layout_placeBoth_131 : decode m_Layout_placeBoth.2.1 131 = .ok (.lload 5, 2) := by decide +kernel
theorem d_Layout_placeBoth_133 : decode m_Layout_placeBoth.2.1 133 = .ok (.aload_n 0, 1) := by decide +kernel
theorem d_Layout_placeBoth_134 : decode m_Layout_placeBoth.2.1 134 = .ok (.getfield 15, 3) := by decide +kernel
theorem d_Layout_placeBoth_137 : decode m_Layout_placeBoth.2.1 137 = .ok (.iload_n 1, 1) := by decide +kernel
theorem d_Layout_placeBoth_138 : decode m_Layout_placeBoth.2.1 138 = .ok (.iaload, 1) := by decide +kernel
theorem d_Layout_placeBoth_139 : decode m_Layout_placeBoth.2.1 139 = .ok (.aload_n 0, 1) := by decide +kernel
theorem d_Layout_placeBoth_140 : decode m_Layout_placeBoth.2.1 140 = .ok (.iload 4, 2) := by decide +kernel
theorem d_Layout_placeBoth_142 : decode m_Layout_placeBoth.2.1 142 = .ok (.invokevirtual 38, 3) := by decide +kernel
theorem d_Layout_placeBoth_145 : decode m_Layout_placeBoth.2.1 145 = .ok (.isub, 1) := by decide +kernel
theorem d_Layout_placeBoth_146 : decode m_Layout_placeBoth.2.1 146 = .ok (.i2l, 1) := by decide +kernel
theorem d_Layout_placeBoth_147 : decode m_Layout_placeBoth.2.1 147 = .ok (.lmul, 1) := by decide +kernel
theorem d_Layout_placeBoth_148 : decode m_Layout_placeBoth.2.1 148 = .ok (.ladd, 1) := by decide +kernel
theorem d_Layout_placeBoth_149 : decode m_Layout_placeBoth.2.1 149 = .ok (.aload_n 0, 1) := by decide +kernel
theorem d_Layout_placeBoth_150 : decode m_Layout_placeBoth.2.1 150 = .ok (.getfield 31, 3) := by decide +kernel
theorem d_Layout_placeBoth_153 : decode m_Layout_placeBoth.2.1 153 = .ok (.iload_n 1, 1) := by decide +kernel
theorem d_Layout_placeBoth_154 : decode m_Layout_placeBoth.2.1 154 = .ok (.laload, 1) := by decide +kernel
theorem d_Layout_placeBoth_155 : decode m_Layout_placeBoth.2.1 155 = .ok (.lload 7, 2) := by decide +kernel
theorem d_Layout_placeBoth_157 : decode m_Layout_placeBoth.2.1 157 = .ok (.aload_n 0, 1) := by decide +kernel
theorem d_Layout_placeBoth_158 : decode m_Layout_placeBoth.2.1 158 = .ok (.getfield 18, 3) := by decide +kernel
theorem d_Layout_placeBoth_161 : decode m_Layout_placeBoth.2.1 161 = .ok (.iload_n 1, 1) := by decide +kernel
theorem d_Layout_placeBoth_162 : decode m_Layout_placeBoth.2.1 162 = .ok (.iaload, 1) := by decide +kernel
theorem d_Layout_placeBoth_163 : decode m_Layout_placeBoth.2.1 163 = .ok (.aload_n 0, 1) := by decide +kernel
theorem d_Layout_placeBoth_164 : decode m_Layout_placeBoth.2.1 164 = .ok (.iload 4, 2) := by decide +kernel
theorem d_Layout_placeBoth_166 : decode m_Layout_placeBoth.2.1 166 = .ok (.invokevirtual 42, 3) := by decide +kernel
theorem d_Layout_placeBoth_169 : decode m_Layout_placeBoth.2.1 169 = .ok (.isub, 1) := by decide +kernel
theorem d_Layout_placeBoth_170 : decode m_Layout_placeBoth.2.1 170 = .ok (.i2l, 1) := by decide +kernel
theorem d_Layout_placeBoth_171 : decode m_Layout_placeBoth.2.1 171 = .ok (.lmul, 1) := by decide +kernel
theorem d_Layout_placeBoth_172 : decode m_Layout_placeBoth.2.1 172 = .ok (.ladd, 1) := by decide +kernel
theorem d_Layout_placeBoth_173 : decode m_Layout_placeBoth.2.1 173 = .ok (.invokevirtual 90, 3) := by decide +kernel
theorem d_Layout_placeBoth_176 : decode m_Layout_placeBoth.2.1 176 = .ok (.return_, 1) := by decide +kernel
theorem b_Layout_placeBoth_0 {E : EV} {d : Nat} {Q : Option AV → St → Prop} {σ : St} (x1 x2 : Int) (hF : Fix σ) (h : (WMi E m_Layout_endAt d [aP 23, aI (x1 + 1)] σ (fun v1 σ1 => Fix σ1 ∧ (rI x2) ∧ ((¬ x2 = 64 → WP E m_Layout_placeBoth (d + 1) 27 [(0, aP 23), (1, aI x1), (2, aI x2), (3, aI (x1 + 1)), (4, aI v1)] [aL 0] σ1 Q) ∧ (x2 = 64 → (0 ≤ x1 ∧ x1 < 24) ∧ WP E m_Layout_placeBoth (d + 1) 27 [(0, aP 23), (1, aI x1), (2, aI x2), (3, aI (x1 + 1)), (4, aI v1)] [aL (σ1.1 27 x1)] σ1 Q))))) : WP E m_Layout_placeBoth (d + 1) 0 [(0, aP 23), (1, aI x1), (2, aI x2)] [] σ Q := by
  refine s_iload_n 1 d_Layout_placeBoth_0 rfl rfl ?_
  refine s_iconst d_Layout_placeBoth_1 ?_
  refine s_iadd d_Layout_placeBoth_2 ?_
  refine s_istore_n d_Layout_placeBoth_3 rfl (by decide) rfl ?_
  refine s_aload_n 1 d_Layout_placeBoth_4 rfl rfl ?_
  refine s_iload_n 0 d_Layout_placeBoth_5 rfl rfl ?_
  refine s_callV (as := [aI (x1 + 1)]) (ci := 2) d_Layout_placeBoth_6 ok_Layout_endAt lk_Layout_84 io_Layout_endAt so_Layout_endAt (by decide) rfl rfl rfl (Nat.le_of_ble_eq_true rfl) rfl (sf_23 hF) (WM.mono h ?_)
  rintro _ σ1 ⟨v1, rfl, hp, h⟩
  obtain ⟨hF1, h⟩ := h
  show WP E m_Layout_placeBoth (d + 1) 9 [(3, aI (x1 + 1)), (0, aP 23), (1, aI x1), (2, aI x2)] [aI v1] σ1 Q
  refine s_istore d_Layout_placeBoth_9 (by decide) rfl ?_
  refine s_iload_n 4 d_Layout_placeBoth_11 rfl rfl ?_
  refine s_bipush d_Layout_placeBoth_12 (by decide) ?_
  obtain ⟨g2, h⟩ := h
  refine s_icmp_ne d_Layout_placeBoth_14 rfl g2 (by decide) (fun c => ?_) (fun c => ?_)
  · have h := h.1 c
    refine s_lconst (v := 0) d_Layout_placeBoth_26 rfl ?_
    refine wp_drop [2, 3, 4, 1, 0] rfl ?_
    exact h
  · have h := h.2 c
    refine s_aload_n 2 d_Layout_placeBoth_17 rfl rfl ?_
    refine s_getF (v := 27) d_Layout_placeBoth_18 fl_Layout_21 rfl (sf_23 hF1) (ff_15 hF1) ?_
    refine s_iload_n 3 d_Layout_placeBoth_21 rfl rfl ?_
    obtain ⟨g3, h⟩ := h
    refine s_laloadv (v := σ1.1 27 x1) d_Layout_placeBoth_22 ⟨_, sf_27 hF1, g3.1, g3.2, by have := g3.2; omega⟩ rfl ?_
    refine s_goto d_Layout_placeBoth_23 rfl ?_
    refine wp_drop [2, 3, 4, 1, 0] rfl ?_
    exact h
theorem e_Layout_placeBoth {E : EV} {d : Nat} {Q : Option AV → St → Prop} {σ : St} (x1 x2 : Int) (hF : Fix σ) (h : (WMi E m_Layout_endAt d [aP 23, aI (x1 + 1)] σ (fun v1 σ1 => Fix σ1 ∧ (rI x2) ∧ ((¬ x2 = 64 → WP E m_Layout_placeBoth (d + 1) 27 [(0, aP 23), (1, aI x1), (2, aI x2), (3, aI (x1 + 1)), (4, aI v1)] [aL 0] σ1 Q) ∧ (x2 = 64 → (0 ≤ x1 ∧ x1 < 24) ∧ WP E m_Layout_placeBoth (d + 1) 27 [(0, aP 23), (1, aI x1), (2, aI x2), (3, aI (x1 + 1)), (4, aI v1)] [aL (σ1.1 27 x1)] σ1 Q))))) : WM E m_Layout_placeBoth (d + 1) [aP 23, aI x1, aI x2] σ Q := s_meth (by decide) (Nat.le_of_ble_eq_true rfl) rfl (b_Layout_placeBoth_0 x1 x2 hF h)
theorem b_Layout_placeBoth_27 {E : EV} {d : Nat} {Q : Option AV → St → Prop} {σ : St} (x1 x2 x3 x4 s0 : Int) (hF : Fix σ) (h : (rI x2) ∧ ((¬ x2 = 64 → (0 ≤ x1 ∧ x1 < 24) ∧ WP E m_Layout_placeBoth (d + 1) 45 [(0, aP 23), (1, aI x1), (3, aI x3), (4, aI x4), (5, aL s0)] [aL (σ.1 27 x1)] σ Q) ∧ (x2 = 64 → WP E m_Layout_placeBoth (d + 1) 45 [(0, aP 23), (1, aI x1), (3, aI x3), (4, aI x4), (5, aL s0)] [aL 0] σ Q))) : WP E m_Layout_placeBoth (d + 1) 27 [(0, aP 23), (1, aI x1), (2, aI x2), (3, aI x3), (4, aI x4)] [aL s0] σ Q := by
  refine s_lstore d_Layout_placeBoth_27 (by decide) rfl ?_
  refine s_iload_n 3 d_Layout_placeBoth_29 rfl rfl ?_
  refine s_bipush d_Layout_placeBoth_30 (by decide) ?_
  obtain ⟨g1, h⟩ := h
  refine s_icmp_ne d_Layout_placeBoth_32 rfl g1 (by decide) (fun c => ?_) (fun c => ?_)
  · have h := h.1 c
    refine s_aload_n 1 d_Layout_placeBoth_39 rfl rfl ?_
    refine s_getF (v := 27) d_Layout_placeBoth_40 fl_Layout_21 rfl (sf_23 hF) (ff_15 hF) ?_
    refine s_iload_n 2 d_Layout_placeBoth_43 rfl rfl ?_
    obtain ⟨g2, h⟩ := h
    refine s_laloadv (v := σ.1 27 x1) d_Layout_placeBoth_44 ⟨_, sf_27 hF, g2.1, g2.2, by have := g2.2; omega⟩ rfl ?_
    refine wp_drop [1, 2, 4, 5, 0] rfl ?_
    exact h
  · have h := h.2 c
    refine s_lconst (v := 0) d_Layout_placeBoth_35 rfl ?_
    refine s_goto d_Layout_placeBoth_36 rfl ?_
    refine wp_drop [1, 2, 4, 5, 0] rfl ?_
    exact h
theorem b_Layout_placeBoth_45 {E : EV} {d : Nat} {Q : Option AV → St → Prop} {σ : St} (x1 x3 x4 x5 s0 : Int) (hF : Fix σ) (h : (0 ≤ x1 ∧ x1 < 24) ∧ (0 ≤ x1 ∧ x1 < 24) ∧ (0 ≤ x1 ∧ x1 < 24) ∧ (WMi E m_Layout_wideAt d [aP 23, aI x3] σ (fun v4 σ4 => Fix σ4 ∧ (0 ≤ x1 ∧ x1 < 24) ∧ (rI (v4 - (σ4.1 25 x1))) ∧ (0 ≤ x1 ∧ x1 < 24) ∧ (WMi E m_Layout_highAt d [aP 23, aI x3] σ4 (fun v8 σ8 => Fix σ8 ∧ (0 ≤ x1 ∧ x1 < 24) ∧ (rI (v8 - (σ8.1 26 x1))) ∧ (WMv E m_Layout_lay d [aP 23, aI x3, aL (σ.1 27 x1), aL (σ.1 28 x1), aL ((σ.1 29 x1) + (x5 * (v4 - (σ4.1 25 x1)))), aL ((σ4.1 30 x1) + (s0 * (v8 - (σ8.1 26 x1))))] σ8 (fun σ11 => Fix σ11 ∧ (0 ≤ x1 ∧ x1 < 24) ∧ (0 ≤ x1 ∧ x1 < 24) ∧ (0 ≤ x1 ∧ x1 < 24) ∧ (0 ≤ x1 ∧ x1 < 24) ∧ (WMi E m_Layout_wideAt d [aP 23, aI x4] σ11 (fun v16 σ16 => Fix σ16 ∧ (rI ((σ11.1 25 x1) - v16)) ∧ (0 ≤ x1 ∧ x1 < 24) ∧ (0 ≤ x1 ∧ x1 < 24) ∧ (WMi E m_Layout_highAt d [aP 23, aI x4] σ16 (fun v20 σ20 => Fix σ20 ∧ (rI ((σ16.1 26 x1) - v20)) ∧ (WMv E m_Layout_lay d [aP 23, aI x4, aL (σ11.1 27 x1), aL (σ11.1 28 x1), aL ((σ11.1 29 x1) + (x5 * ((σ11.1 25 x1) - v16))), aL ((σ16.1 30 x1) + (s0 * ((σ16.1 26 x1) - v20)))] σ20 (fun σ22 => Q none σ22))))))))))))) : WP E m_Layout_placeBoth (d + 1) 45 [(0, aP 23), (1, aI x1), (3, aI x3), (4, aI x4), (5, aL x5)] [aL s0] σ Q := by
  refine s_lstore d_Layout_placeBoth_45 (by decide) rfl ?_
  refine s_aload_n 1 d_Layout_placeBoth_47 rfl rfl ?_
  refine s_iload_n 3 d_Layout_placeBoth_48 rfl rfl ?_
  refine s_aload_n 1 d_Layout_placeBoth_49 rfl rfl ?_
  refine s_getF (v := 27) d_Layout_placeBoth_50 fl_Layout_21 rfl (sf_23 hF) (ff_15 hF) ?_
  refine s_iload_n 2 d_Layout_placeBoth_53 rfl rfl ?_
  obtain ⟨g1, h⟩ := h
  refine s_laloadv (v := σ.1 27 x1) d_Layout_placeBoth_54 ⟨_, sf_27 hF, g1.1, g1.2, by have := g1.2; omega⟩ rfl ?_
  refine s_aload_n 1 d_Layout_placeBoth_55 rfl rfl ?_
  refine s_getF (v := 28) d_Layout_placeBoth_56 fl_Layout_25 rfl (sf_23 hF) (ff_16 hF) ?_
  refine s_iload_n 2 d_Layout_placeBoth_59 rfl rfl ?_
  obtain ⟨g2, h⟩ := h
  refine s_laloadv (v := σ.1 28 x1) d_Layout_placeBoth_60 ⟨_, sf_28 hF, g2.1, g2.2, by have := g2.2; omega⟩ rfl ?_
  refine s_aload_n 1 d_Layout_placeBoth_61 rfl rfl ?_
  refine s_getF (v := 29) d_Layout_placeBoth_62 fl_Layout_28 rfl (sf_23 hF) (ff_17 hF) ?_
  refine s_iload_n 2 d_Layout_placeBoth_65 rfl rfl ?_
  obtain ⟨g3, h⟩ := h
  refine s_laloadv (v := σ.1 29 x1) d_Layout_placeBoth_66 ⟨_, sf_29 hF, g3.1, g3.2, by have := g3.2; omega⟩ rfl ?_
  refine s_lload 5 d_Layout_placeBoth_67 rfl ?_
  refine s_aload_n 1 d_Layout_placeBoth_69 rfl rfl ?_
  refine s_iload_n 3 d_Layout_placeBoth_70 rfl rfl ?_
  refine s_callW (as := [aI x3]) (ci := 2) d_Layout_placeBoth_71 ok_Layout_wideAt lw_Layout_38 io_Layout_wideAt so_Layout_wideAt (by decide) rfl rfl rfl (Nat.le_of_ble_eq_true rfl) rfl (sf_23 hF) (WM.mono h ?_)
  rintro _ σ4 ⟨v4, rfl, hp, h⟩
  obtain ⟨hF4, h⟩ := h
  show WP E m_Layout_placeBoth (d + 1) 74 [(7, aL s0), (0, aP 23), (1, aI x1), (3, aI x3), (4, aI x4), (5, aL x5)] [aI v4, aL x5, aL (σ.1 29 x1), aL (σ.1 28 x1), aL (σ.1 27 x1), aI x3, aP 23] σ4 Q
  refine s_aload_n 1 d_Layout_placeBoth_74 rfl rfl ?_
  refine s_getF (v := 25) d_Layout_placeBoth_75 fl_Layout_15 rfl (sf_23 hF4) (ff_13 hF4) ?_
  refine s_iload_n 2 d_Layout_placeBoth_78 rfl rfl ?_
  obtain ⟨g5, h⟩ := h
  refine s_ialoadv (v := σ4.1 25 x1) d_Layout_placeBoth_79 ⟨_, sf_25 hF4, g5.1, g5.2, by have := g5.2; omega⟩ rfl ?_
  refine s_isub d_Layout_placeBoth_80 ?_
  obtain ⟨g6, h⟩ := h
  refine s_i2l d_Layout_placeBoth_81 g6 ?_
  refine s_lmul d_Layout_placeBoth_82 ?_
  refine s_ladd d_Layout_placeBoth_83 ?_
  refine s_aload_n 1 d_Layout_placeBoth_84 rfl rfl ?_
  refine s_getF (v := 30) d_Layout_placeBoth_85 fl_Layout_31 rfl (sf_23 hF4) (ff_18 hF4) ?_
  refine s_iload_n 2 d_Layout_placeBoth_88 rfl rfl ?_
  obtain ⟨g7, h⟩ := h
  refine s_laloadv (v := σ4.1 30 x1) d_Layout_placeBoth_89 ⟨_, sf_30 hF4, g7.1, g7.2, by have := g7.2; omega⟩ rfl ?_
  refine s_lload 0 d_Layout_placeBoth_90 rfl ?_
  refine s_aload_n 1 d_Layout_placeBoth_92 rfl rfl ?_
  refine s_iload_n 3 d_Layout_placeBoth_93 rfl rfl ?_
  refine s_callW (as := [aI x3]) (ci := 2) d_Layout_placeBoth_94 ok_Layout_highAt lw_Layout_42 io_Layout_highAt so_Layout_highAt (by decide) rfl rfl rfl (Nat.le_of_ble_eq_true rfl) rfl (sf_23 hF4) (WM.mono h ?_)
  rintro _ σ8 ⟨v8, rfl, hp, h⟩
  obtain ⟨hF8, h⟩ := h
  show WP E m_Layout_placeBoth (d + 1) 97 [(7, aL s0), (0, aP 23), (1, aI x1), (3, aI x3), (4, aI x4), (5, aL x5)] [aI v8, aL s0, aL (σ4.1 30 x1), aL ((σ.1 29 x1) + (x5 * (v4 - (σ4.1 25 x1)))), aL (σ.1 28 x1), aL (σ.1 27 x1), aI x3, aP 23] σ8 Q
  refine s_aload_n 1 d_Layout_placeBoth_97 rfl rfl ?_
  refine s_getF (v := 26) d_Layout_placeBoth_98 fl_Layout_18 rfl (sf_23 hF8) (ff_14 hF8) ?_
  refine s_iload_n 2 d_Layout_placeBoth_101 rfl rfl ?_
  obtain ⟨g9, h⟩ := h
  refine s_ialoadv (v := σ8.1 26 x1) d_Layout_placeBoth_102 ⟨_, sf_26 hF8, g9.1, g9.2, by have := g9.2; omega⟩ rfl ?_
  refine s_isub d_Layout_placeBoth_103 ?_
  obtain ⟨g10, h⟩ := h
  refine s_i2l d_Layout_placeBoth_104 g10 ?_
  refine s_lmul d_Layout_placeBoth_105 ?_
  refine s_ladd d_Layout_placeBoth_106 ?_
  refine s_callV (as := [aI x3, aL (σ.1 27 x1), aL (σ.1 28 x1), aL ((σ.1 29 x1) + (x5 * (v4 - (σ4.1 25 x1)))), aL ((σ4.1 30 x1) + (s0 * (v8 - (σ8.1 26 x1))))]) (ci := 2) d_Layout_placeBoth_107 ok_Layout_lay lk_Layout_90 io_Layout_lay so_Layout_lay (by decide) rfl rfl rfl (Nat.le_of_ble_eq_true rfl) rfl (sf_23 hF8) (WM.mono h ?_)
  rintro _ σ11 ⟨rfl, hp, h⟩
  obtain ⟨hF11, h⟩ := h
  show WP E m_Layout_placeBoth (d + 1) 110 [(7, aL s0), (0, aP 23), (1, aI x1), (3, aI x3), (4, aI x4), (5, aL x5)] [] σ11 Q
  refine s_aload_n 1 d_Layout_placeBoth_110 rfl rfl ?_
  refine s_iload 4 d_Layout_placeBoth_111 rfl ?_
  refine s_aload_n 1 d_Layout_placeBoth_113 rfl rfl ?_
  refine s_getF (v := 27) d_Layout_placeBoth_114 fl_Layout_21 rfl (sf_23 hF11) (ff_15 hF11) ?_
  refine s_iload_n 2 d_Layout_placeBoth_117 rfl rfl ?_
  obtain ⟨g12, h⟩ := h
  refine s_laloadv (v := σ11.1 27 x1) d_Layout_placeBoth_118 ⟨_, sf_27 hF11, g12.1, g12.2, by have := g12.2; omega⟩ rfl ?_
  refine s_aload_n 1 d_Layout_placeBoth_119 rfl rfl ?_
  refine s_getF (v := 28) d_Layout_placeBoth_120 fl_Layout_25 rfl (sf_23 hF11) (ff_16 hF11) ?_
  refine s_iload_n 2 d_Layout_placeBoth_123 rfl rfl ?_
  obtain ⟨g13, h⟩ := h
  refine s_laloadv (v := σ11.1 28 x1) d_Layout_placeBoth_124 ⟨_, sf_28 hF11, g13.1, g13.2, by have := g13.2; omega⟩ rfl ?_
  refine s_aload_n 1 d_Layout_placeBoth_125 rfl rfl ?_
  refine s_getF (v := 29) d_Layout_placeBoth_126 fl_Layout_28 rfl (sf_23 hF11) (ff_17 hF11) ?_
  refine s_iload_n 2 d_Layout_placeBoth_129 rfl rfl ?_
  obtain ⟨g14, h⟩ := h
  refine s_laloadv (v := σ11.1 29 x1) d_Layout_placeBoth_130 ⟨_, sf_29 hF11, g14.1, g14.2, by have := g14.2; omega⟩ rfl ?_
  refine s_lload 5 d_Layout_placeBoth_131 rfl ?_
  refine s_aload_n 1 d_Layout_placeBoth_133 rfl rfl ?_
  refine s_getF (v := 25) d_Layout_placeBoth_134 fl_Layout_15 rfl (sf_23 hF11) (ff_13 hF11) ?_
  refine s_iload_n 2 d_Layout_placeBoth_137 rfl rfl ?_
  obtain ⟨g15, h⟩ := h
  refine s_ialoadv (v := σ11.1 25 x1) d_Layout_placeBoth_138 ⟨_, sf_25 hF11, g15.1, g15.2, by have := g15.2; omega⟩ rfl ?_
  refine s_aload_n 1 d_Layout_placeBoth_139 rfl rfl ?_
  refine s_iload 4 d_Layout_placeBoth_140 rfl ?_
  refine s_callW (as := [aI x4]) (ci := 2) d_Layout_placeBoth_142 ok_Layout_wideAt lw_Layout_38 io_Layout_wideAt so_Layout_wideAt (by decide) rfl rfl rfl (Nat.le_of_ble_eq_true rfl) rfl (sf_23 hF11) (WM.mono h ?_)
  rintro _ σ16 ⟨v16, rfl, hp, h⟩
  obtain ⟨hF16, h⟩ := h
  show WP E m_Layout_placeBoth (d + 1) 145 [(7, aL s0), (0, aP 23), (1, aI x1), (3, aI x3), (4, aI x4), (5, aL x5)] [aI v16, aI (σ11.1 25 x1), aL x5, aL (σ11.1 29 x1), aL (σ11.1 28 x1), aL (σ11.1 27 x1), aI x4, aP 23] σ16 Q
  refine s_isub d_Layout_placeBoth_145 ?_
  obtain ⟨g17, h⟩ := h
  refine s_i2l d_Layout_placeBoth_146 g17 ?_
  refine s_lmul d_Layout_placeBoth_147 ?_
  refine s_ladd d_Layout_placeBoth_148 ?_
  refine s_aload_n 1 d_Layout_placeBoth_149 rfl rfl ?_
  refine s_getF (v := 30) d_Layout_placeBoth_150 fl_Layout_31 rfl (sf_23 hF16) (ff_18 hF16) ?_
  refine s_iload_n 2 d_Layout_placeBoth_153 rfl rfl ?_
  obtain ⟨g18, h⟩ := h
  refine s_laloadv (v := σ16.1 30 x1) d_Layout_placeBoth_154 ⟨_, sf_30 hF16, g18.1, g18.2, by have := g18.2; omega⟩ rfl ?_
  refine s_lload 0 d_Layout_placeBoth_155 rfl ?_
  refine s_aload_n 1 d_Layout_placeBoth_157 rfl rfl ?_
  refine s_getF (v := 26) d_Layout_placeBoth_158 fl_Layout_18 rfl (sf_23 hF16) (ff_14 hF16) ?_
  refine s_iload_n 2 d_Layout_placeBoth_161 rfl rfl ?_
  obtain ⟨g19, h⟩ := h
  refine s_ialoadv (v := σ16.1 26 x1) d_Layout_placeBoth_162 ⟨_, sf_26 hF16, g19.1, g19.2, by have := g19.2; omega⟩ rfl ?_
  refine s_aload_n 1 d_Layout_placeBoth_163 rfl rfl ?_
  refine s_iload 4 d_Layout_placeBoth_164 rfl ?_
  refine s_callW (as := [aI x4]) (ci := 2) d_Layout_placeBoth_166 ok_Layout_highAt lw_Layout_42 io_Layout_highAt so_Layout_highAt (by decide) rfl rfl rfl (Nat.le_of_ble_eq_true rfl) rfl (sf_23 hF16) (WM.mono h ?_)
  rintro _ σ20 ⟨v20, rfl, hp, h⟩
  obtain ⟨hF20, h⟩ := h
  show WP E m_Layout_placeBoth (d + 1) 169 [(7, aL s0), (0, aP 23), (1, aI x1), (3, aI x3), (4, aI x4), (5, aL x5)] [aI v20, aI (σ16.1 26 x1), aL s0, aL (σ16.1 30 x1), aL ((σ11.1 29 x1) + (x5 * ((σ11.1 25 x1) - v16))), aL (σ11.1 28 x1), aL (σ11.1 27 x1), aI x4, aP 23] σ20 Q
  refine s_isub d_Layout_placeBoth_169 ?_
  obtain ⟨g21, h⟩ := h
  refine s_i2l d_Layout_placeBoth_170 g21 ?_
  refine s_lmul d_Layout_placeBoth_171 ?_
  refine s_ladd d_Layout_placeBoth_172 ?_
  refine s_callV (as := [aI x4, aL (σ11.1 27 x1), aL (σ11.1 28 x1), aL ((σ11.1 29 x1) + (x5 * ((σ11.1 25 x1) - v16))), aL ((σ16.1 30 x1) + (s0 * ((σ16.1 26 x1) - v20)))]) (ci := 2) d_Layout_placeBoth_173 ok_Layout_lay lk_Layout_90 io_Layout_lay so_Layout_lay (by decide) rfl rfl rfl (Nat.le_of_ble_eq_true rfl) rfl (sf_23 hF20) (WM.mono h ?_)
  rintro _ σ22 ⟨rfl, hp, h⟩
  show WP E m_Layout_placeBoth (d + 1) 176 [(7, aL s0), (0, aP 23), (1, aI x1), (3, aI x3), (4, aI x4), (5, aL x5)] [] σ22 Q
  exact s_return d_Layout_placeBoth_176 rfl h
theorem d_Layout_placeInside_0 : decode m_Layout_placeInside.2.1 0 = .ok (.iload_n 1, 1) := by decide +kernel
theorem d_Layout_placeInside_1 : decode m_Layout_placeInside.2.1 1 = .ok (.iconst 1, 1) := by decide +kernel
theorem d_Layout_placeInside_2 : decode m_Layout_placeInside.2.1 2 = .ok (.iadd, 1) := by decide +kernel
theorem d_Layout_placeInside_3 : decode m_Layout_placeInside.2.1 3 = .ok (.istore 4, 2) := by decide +kernel
theorem d_Layout_placeInside_5 : decode m_Layout_placeInside.2.1 5 = .ok (.lconst 1, 1) := by decide +kernel
theorem d_Layout_placeInside_6 : decode m_Layout_placeInside.2.1 6 = .ok (.lstore 5, 2) := by decide +kernel
theorem d_Layout_placeInside_8 : decode m_Layout_placeInside.2.1 8 = .ok (.lconst 1, 1) := by decide +kernel
theorem d_Layout_placeInside_9 : decode m_Layout_placeInside.2.1 9 = .ok (.lstore 7, 2) := by decide +kernel
theorem d_Layout_placeInside_11 : decode m_Layout_placeInside.2.1 11 = .ok (.iload_n 2, 1) := by decide +kernel
theorem d_Layout_placeInside_12 : decode m_Layout_placeInside.2.1 12 = .ok (.aload_n 0, 1) := by decide +kernel
theorem d_Layout_placeInside_13 : decode m_Layout_placeInside.2.1 13 = .ok (.iload 4, 2) := by decide +kernel
theorem d_Layout_placeInside_15 : decode m_Layout_placeInside.2.1 15 = .ok (.invokevirtual 38, 3) := by decide +kernel
theorem d_Layout_placeInside_18 : decode m_Layout_placeInside.2.1 18 = .ok (.if_icmp .ge 16, 3) := by decide +kernel
theorem d_Layout_placeInside_21 : decode m_Layout_placeInside.2.1 21 = .ok (.iload_n 2, 1) := by decide +kernel
theorem d_Layout_placeInside_22 : decode m_Layout_placeInside.2.1 22 = .ok (.i2l, 1) := by decide +kernel
theorem d_Layout_placeInside_23 : decode m_Layout_placeInside.2.1 23 = .ok (.lstore 5, 2) := by decide +kernel
theorem d_Layout_placeInside_25 : decode m_Layout_placeInside.2.1 25 = .ok (.aload_n 0, 1) := by decide +kernel
theorem d_Layout_placeInside_26 : decode m_Layout_placeInside.2.1 26 = .ok (.iload 4, 2) := by decide +kernel
theorem d_Layout_placeInside_28 : decode m_Layout_placeInside.2.1 28 = .ok (.invokevirtual 38, 3) := by decide +kernel
theorem d_Layout_placeInside_31 : decode m_Layout_placeInside.2.1 31 = .ok (.i2l, 1) := by decide +kernel
theorem d_Layout_placeInside_32 : decode m_Layout_placeInside.2.1 32 = .ok (.lstore 7, 2) := by decide +kernel
theorem d_Layout_placeInside_34 : decode m_Layout_placeInside.2.1 34 = .ok (.iload_n 3, 1) := by decide +kernel
theorem d_Layout_placeInside_35 : decode m_Layout_placeInside.2.1 35 = .ok (.i2l, 1) := by decide +kernel
theorem d_Layout_placeInside_36 : decode m_Layout_placeInside.2.1 36 = .ok (.lload 7, 2) := by decide +kernel
theorem d_Layout_placeInside_38 : decode m_Layout_placeInside.2.1 38 = .ok (.lmul, 1) := by decide +kernel
theorem d_Layout_placeInside_39 : decode m_Layout_placeInside.2.1 39 = .ok (.lload 5, 2) := by decide +kernel
theorem d_Layout_placeInside_41 : decode m_Layout_placeInside.2.1 41 = .ok (.aload_n 0, 1) := by decide +kernel
theorem d_Layout_placeInside_42 : decode m_Layout_placeInside.2.1 42 = .ok (.iload 4, 2) := by decide +kernel
theorem d_Layout_placeInside_44 : decode m_Layout_placeInside.2.1 44 = .ok (.invokevirtual 42, 3) := by decide +kernel
theorem d_Layout_placeInside_47 : decode m_Layout_placeInside.2.1 47 = .ok (.i2l, 1) := by decide +kernel
theorem d_Layout_placeInside_48 : decode m_Layout_placeInside.2.1 48 = .ok (.lmul, 1) := by decide +kernel
theorem d_Layout_placeInside_49 : decode m_Layout_placeInside.2.1 49 = .ok (.lcmp, 1) := by decide +kernel
theorem d_Layout_placeInside_50 : decode m_Layout_placeInside.2.1 50 = .ok (.ifCond .ge 16, 3) := by decide +kernel
theorem d_Layout_placeInside_53 : decode m_Layout_placeInside.2.1 53 = .ok (.iload_n 3, 1) := by decide +kernel
theorem d_Layout_placeInside_54 : decode m_Layout_placeInside.2.1 54 = .ok (.i2l, 1) := by decide +kernel
theorem d_Layout_placeInside_55 : decode m_Layout_placeInside.2.1 55 = .ok (.lstore 5, 2) := by decide +kernel
theorem d_Layout_placeInside_57 : decode m_Layout_placeInside.2.1 57 = .ok (.aload_n 0, 1) := by decide +kernel
theorem d_Layout_placeInside_58 : decode m_Layout_placeInside.2.1 58 = .ok (.iload 4, 2) := by decide +kernel
theorem d_Layout_placeInside_60 : decode m_Layout_placeInside.2.1 60 = .ok (.invokevirtual 42, 3) := by decide +kernel
theorem d_Layout_placeInside_63 : decode m_Layout_placeInside.2.1 63 = .ok (.i2l, 1) := by decide +kernel
theorem d_Layout_placeInside_64 : decode m_Layout_placeInside.2.1 64 = .ok (.lstore 7, 2) := by decide +kernel
theorem d_Layout_placeInside_66 : decode m_Layout_placeInside.2.1 66 = .ok (.aload_n 0, 1) := by decide +kernel
theorem d_Layout_placeInside_67 : decode m_Layout_placeInside.2.1 67 = .ok (.iload 4, 2) := by decide +kernel
theorem d_Layout_placeInside_69 : decode m_Layout_placeInside.2.1 69 = .ok (.aload_n 0, 1) := by decide +kernel
theorem d_Layout_placeInside_70 : decode m_Layout_placeInside.2.1 70 = .ok (.getfield 21, 3) := by decide +kernel
theorem d_Layout_placeInside_73 : decode m_Layout_placeInside.2.1 73 = .ok (.iload_n 1, 1) := by decide +kernel
theorem d_Layout_placeInside_74 : decode m_Layout_placeInside.2.1 74 = .ok (.laload, 1) := by decide +kernel
theorem d_Layout_placeInside_75 : decode m_Layout_placeInside.2.1 75 = .ok (.lload 5, 2) := by decide +kernel
theorem d_Layout_placeInside_77 : decode m_Layout_placeInside.2.1 77 = .ok (.lmul, 1) := by decide +kernel
theorem d_Layout_placeInside_78 : decode m_Layout_placeInside.2.1 78 = .ok (.aload_n 0, 1) := by decide +kernel
theorem d_Layout_placeInside_79 : decode m_Layout_placeInside.2.1 79 = .ok (.getfield 25, 3) := by decide +kernel
theorem d_Layout_placeInside_82 : decode m_Layout_placeInside.2.1 82 = .ok (.iload_n 1, 1) := by decide +kernel
theorem d_Layout_placeInside_83 : decode m_Layout_placeInside.2.1 83 = .ok (.laload, 1) := by decide +kernel
theorem d_Layout_placeInside_84 : decode m_Layout_placeInside.2.1 84 = .ok (.lload 7, 2) := by decide +kernel
theorem d_Layout_placeInside_86 : decode m_Layout_placeInside.2.1 86 = .ok (.lmul, 1) := by decide +kernel
theorem d_Layout_placeInside_87 : decode m_Layout_placeInside.2.1 87 = .ok (.aload_n 0, 1) := by decide +kernel
theorem d_Layout_placeInside_88 : decode m_Layout_placeInside.2.1 88 = .ok (.getfield 28, 3) := by decide +kernel
theorem d_Layout_placeInside_91 : decode m_Layout_placeInside.2.1 91 = .ok (.iload_n 1, 1) := by decide +kernel
theorem d_Layout_placeInside_92 : decode m_Layout_placeInside.2.1 92 = .ok (.laload, 1) := by decide +kernel
theorem d_Layout_placeInside_93 : decode m_Layout_placeInside.2.1 93 = .ok (.lload 7, 2) := by decide +kernel
theorem d_Layout_placeInside_95 : decode m_Layout_placeInside.2.1 95 = .ok (.lmul, 1) := by decide +kernel
theorem d_Layout_placeInside_96 : decode m_Layout_placeInside.2.1 96 = .ok (.aload_n 0, 1) := by decide +kernel
theorem d_Layout_placeInside_97 : decode m_Layout_placeInside.2.1 97 = .ok (.getfield 31, 3) := by decide +kernel
theorem d_Layout_placeInside_100 : decode m_Layout_placeInside.2.1 100 = .ok (.iload_n 1, 1) := by decide +kernel
theorem d_Layout_placeInside_101 : decode m_Layout_placeInside.2.1 101 = .ok (.laload, 1) := by decide +kernel
theorem d_Layout_placeInside_102 : decode m_Layout_placeInside.2.1 102 = .ok (.lload 7, 2) := by decide +kernel
theorem d_Layout_placeInside_104 : decode m_Layout_placeInside.2.1 104 = .ok (.lmul, 1) := by decide +kernel
theorem d_Layout_placeInside_105 : decode m_Layout_placeInside.2.1 105 = .ok (.invokevirtual 90, 3) := by decide +kernel
theorem d_Layout_placeInside_108 : decode m_Layout_placeInside.2.1 108 = .ok (.return_, 1) := by decide +kernel
theorem b_Layout_placeInside_0 {E : EV} {d : Nat} {Q : Option AV → St → Prop} {σ : St} (x1 x2 x3 : Int) (hF : Fix σ) (h : (WMi E m_Layout_wideAt d [aP 23, aI (x1 + 1)] σ (fun v1 σ1 => Fix σ1 ∧ (rI x2) ∧ (rI v1) ∧ ((v1 ≤ x2 → WP E m_Layout_placeInside (d + 1) 34 [(0, aP 23), (1, aI x1), (3, aI x3), (4, aI (x1 + 1)), (5, aL 1), (7, aL 1)] [] σ1 Q) ∧ (¬ v1 ≤ x2 → (rI x2) ∧ (WMi E m_Layout_wideAt d [aP 23, aI (x1 + 1)] σ1 (fun v5 σ5 => (rI v5) ∧ WP E m_Layout_placeInside (d + 1) 34 [(0, aP 23), (1, aI x1), (3, aI x3), (4, aI (x1 + 1)), (5, aL x2), (7, aL v5)] [] σ5 Q))))))) : WP E m_Layout_placeInside (d + 1) 0 [(0, aP 23), (1, aI x1), (2, aI x2), (3, aI x3)] [] σ Q := by
  refine s_iload_n 1 d_Layout_placeInside_0 rfl rfl ?_
  refine s_iconst d_Layout_placeInside_1 ?_
  refine s_iadd d_Layout_placeInside_2 ?_
  refine s_istore d_Layout_placeInside_3 (by decide) rfl ?_
  refine s_lconst (v := 1) d_Layout_placeInside_5 rfl ?_
  refine s_lstore d_Layout_placeInside_6 (by decide) rfl ?_
  refine s_lconst (v := 1) d_Layout_placeInside_8 rfl ?_
  refine s_lstore d_Layout_placeInside_9 (by decide) rfl ?_
  refine s_iload_n 5 d_Layout_placeInside_11 rfl rfl ?_
  refine s_aload_n 3 d_Layout_placeInside_12 rfl rfl ?_
  refine s_iload 2 d_Layout_placeInside_13 rfl ?_
  refine s_callV (as := [aI (x1 + 1)]) (ci := 2) d_Layout_placeInside_15 ok_Layout_wideAt lk_Layout_38 io_Layout_wideAt so_Layout_wideAt (by decide) rfl rfl rfl (Nat.le_of_ble_eq_true rfl) rfl (sf_23 hF) (WM.mono h ?_)
  rintro _ σ1 ⟨v1, rfl, hp, h⟩
  obtain ⟨hF1, h⟩ := h
  show WP E m_Layout_placeInside (d + 1) 18 [(7, aL 1), (5, aL 1), (4, aI (x1 + 1)), (0, aP 23), (1, aI x1), (2, aI x2), (3, aI x3)] [aI v1, aI x2] σ1 Q
  obtain ⟨g2, h⟩ := h
  obtain ⟨g3, h⟩ := h
  refine s_icmp_ge d_Layout_placeInside_18 rfl g2 g3 (fun c => ?_) (fun c => ?_)
  · have h := h.1 c
    refine wp_drop [3, 4, 6, 2, 1, 0] rfl ?_
    exact h
  · have h := h.2 c
    refine s_iload_n 5 d_Layout_placeInside_21 rfl rfl ?_
    obtain ⟨g4, h⟩ := h
    refine s_i2l d_Layout_placeInside_22 g4 ?_
    refine s_lstore d_Layout_placeInside_23 (by decide) rfl ?_
    refine s_aload_n 3 d_Layout_placeInside_25 rfl rfl ?_
    refine s_iload 2 d_Layout_placeInside_26 rfl ?_
    refine s_callV (as := [aI (x1 + 1)]) (ci := 2) d_Layout_placeInside_28 ok_Layout_wideAt lk_Layout_38 io_Layout_wideAt so_Layout_wideAt (by decide) rfl rfl rfl (Nat.le_of_ble_eq_true rfl) rfl (sf_23 hF1) (WM.mono h ?_)
    rintro _ σ5 ⟨v5, rfl, hp, h⟩
    show WP E m_Layout_placeInside (d + 1) 31 [(5, aL x2), (7, aL 1), (4, aI (x1 + 1)), (0, aP 23), (1, aI x1), (2, aI x2), (3, aI x3)] [aI v5] σ5 Q
    obtain ⟨g6, h⟩ := h
    refine s_i2l d_Layout_placeInside_31 g6 ?_
    refine s_lstore d_Layout_placeInside_32 (by decide) rfl ?_
    refine wp_drop [3, 4, 6, 2, 1, 0] rfl ?_
    exact h
theorem e_Layout_placeInside {E : EV} {d : Nat} {Q : Option AV → St → Prop} {σ : St} (x1 x2 x3 : Int) (hF : Fix σ) (h : (WMi E m_Layout_wideAt d [aP 23, aI (x1 + 1)] σ (fun v1 σ1 => Fix σ1 ∧ (rI x2) ∧ (rI v1) ∧ ((v1 ≤ x2 → WP E m_Layout_placeInside (d + 1) 34 [(0, aP 23), (1, aI x1), (3, aI x3), (4, aI (x1 + 1)), (5, aL 1), (7, aL 1)] [] σ1 Q) ∧ (¬ v1 ≤ x2 → (rI x2) ∧ (WMi E m_Layout_wideAt d [aP 23, aI (x1 + 1)] σ1 (fun v5 σ5 => (rI v5) ∧ WP E m_Layout_placeInside (d + 1) 34 [(0, aP 23), (1, aI x1), (3, aI x3), (4, aI (x1 + 1)), (5, aL x2), (7, aL v5)] [] σ5 Q))))))) : WM E m_Layout_placeInside (d + 1) [aP 23, aI x1, aI x2, aI x3] σ Q := s_meth (by decide) (Nat.le_of_ble_eq_true rfl) rfl (b_Layout_placeInside_0 x1 x2 x3 hF h)
theorem b_Layout_placeInside_34 {E : EV} {d : Nat} {Q : Option AV → St → Prop} {σ : St} (x1 x3 x4 x5 x7 : Int) (hF : Fix σ) (h : (rI x3) ∧ (WMi E m_Layout_highAt d [aP 23, aI x4] σ (fun v2 σ2 => Fix σ2 ∧ (rI v2) ∧ (rL (x3 * x7)) ∧ (rL (x5 * v2)) ∧ (((x5 * v2) ≤ (x3 * x7) → WP E m_Layout_placeInside (d + 1) 66 [(0, aP 23), (1, aI x1), (4, aI x4), (5, aL x5), (7, aL x7)] [] σ2 Q) ∧ (¬ (x5 * v2) ≤ (x3 * x7) → (rI x3) ∧ (WMi E m_Layout_highAt d [aP 23, aI x4] σ2 (fun v7 σ7 => (rI v7) ∧ WP E m_Layout_placeInside (d + 1) 66 [(0, aP 23), (1, aI x1), (4, aI x4), (5, aL x3), (7, aL v7)] [] σ7 Q))))))) : WP E m_Layout_placeInside (d + 1) 34 [(0, aP 23), (1, aI x1), (3, aI x3), (4, aI x4), (5, aL x5), (7, aL x7)] [] σ Q := by
  refine s_iload_n 2 d_Layout_placeInside_34 rfl rfl ?_
  obtain ⟨g1, h⟩ := h
  refine s_i2l d_Layout_placeInside_35 g1 ?_
  refine s_lload 5 d_Layout_placeInside_36 rfl ?_
  refine s_lmul d_Layout_placeInside_38 ?_
  refine s_lload 4 d_Layout_placeInside_39 rfl ?_
  refine s_aload_n 0 d_Layout_placeInside_41 rfl rfl ?_
  refine s_iload 3 d_Layout_placeInside_42 rfl ?_
  refine s_callV (as := [aI x4]) (ci := 2) d_Layout_placeInside_44 ok_Layout_highAt lk_Layout_42 io_Layout_highAt so_Layout_highAt (by decide) rfl rfl rfl (Nat.le_of_ble_eq_true rfl) rfl (sf_23 hF) (WM.mono h ?_)
  rintro _ σ2 ⟨v2, rfl, hp, h⟩
  obtain ⟨hF2, h⟩ := h
  show WP E m_Layout_placeInside (d + 1) 47 [(0, aP 23), (1, aI x1), (3, aI x3), (4, aI x4), (5, aL x5), (7, aL x7)] [aI v2, aL x5, aL (x3 * x7)] σ2 Q
  obtain ⟨g3, h⟩ := h
  refine s_i2l d_Layout_placeInside_47 g3 ?_
  refine s_lmul d_Layout_placeInside_48 ?_
  obtain ⟨g4, h⟩ := h
  obtain ⟨g5, h⟩ := h
  refine s_lcmp d_Layout_placeInside_49 g4 g5 ?_
  refine s_if_ge d_Layout_placeInside_50 rfl (lcmp_r _ _) (fun c => ?_) (fun c => ?_)
  · have h := h.1 (lcmp_ge.mp c)
    refine wp_drop [0, 1, 3, 4, 5] rfl ?_
    exact h
  · have h := h.2 (nlcmp_ge c)
    refine s_iload_n 2 d_Layout_placeInside_53 rfl rfl ?_
    obtain ⟨g6, h⟩ := h
    refine s_i2l d_Layout_placeInside_54 g6 ?_
    refine s_lstore d_Layout_placeInside_55 (by decide) rfl ?_
    refine s_aload_n 1 d_Layout_placeInside_57 rfl rfl ?_
    refine s_iload 4 d_Layout_placeInside_58 rfl ?_
    refine s_callV (as := [aI x4]) (ci := 2) d_Layout_placeInside_60 ok_Layout_highAt lk_Layout_42 io_Layout_highAt so_Layout_highAt (by decide) rfl rfl rfl (Nat.le_of_ble_eq_true rfl) rfl (sf_23 hF2) (WM.mono h ?_)
    rintro _ σ7 ⟨v7, rfl, hp, h⟩
    show WP E m_Layout_placeInside (d + 1) 63 [(5, aL x3), (0, aP 23), (1, aI x1), (3, aI x3), (4, aI x4), (7, aL x7)] [aI v7] σ7 Q
    obtain ⟨g8, h⟩ := h
    refine s_i2l d_Layout_placeInside_63 g8 ?_
    refine s_lstore d_Layout_placeInside_64 (by decide) rfl ?_
    refine wp_drop [2, 3, 5, 1, 0] rfl ?_
    exact h
theorem b_Layout_placeInside_66 {E : EV} {d : Nat} {Q : Option AV → St → Prop} {σ : St} (x1 x4 x5 x7 : Int) (hF : Fix σ) (h : (0 ≤ x1 ∧ x1 < 24) ∧ (0 ≤ x1 ∧ x1 < 24) ∧ (0 ≤ x1 ∧ x1 < 24) ∧ (0 ≤ x1 ∧ x1 < 24) ∧ (WMv E m_Layout_lay d [aP 23, aI x4, aL ((σ.1 27 x1) * x5), aL ((σ.1 28 x1) * x7), aL ((σ.1 29 x1) * x7), aL ((σ.1 30 x1) * x7)] σ (fun σ5 => Q none σ5))) : WP E m_Layout_placeInside (d + 1) 66 [(0, aP 23), (1, aI x1), (4, aI x4), (5, aL x5), (7, aL x7)] [] σ Q := by
  refine s_aload_n 0 d_Layout_placeInside_66 rfl rfl ?_
  refine s_iload 2 d_Layout_placeInside_67 rfl ?_
  refine s_aload_n 0 d_Layout_placeInside_69 rfl rfl ?_
  refine s_getF (v := 27) d_Layout_placeInside_70 fl_Layout_21 rfl (sf_23 hF) (ff_15 hF) ?_
  refine s_iload_n 1 d_Layout_placeInside_73 rfl rfl ?_
  obtain ⟨g1, h⟩ := h
  refine s_laloadv (v := σ.1 27 x1) d_Layout_placeInside_74 ⟨_, sf_27 hF, g1.1, g1.2, by have := g1.2; omega⟩ rfl ?_
  refine s_lload 3 d_Layout_placeInside_75 rfl ?_
  refine s_lmul d_Layout_placeInside_77 ?_
  refine s_aload_n 0 d_Layout_placeInside_78 rfl rfl ?_
  refine s_getF (v := 28) d_Layout_placeInside_79 fl_Layout_25 rfl (sf_23 hF) (ff_16 hF) ?_
  refine s_iload_n 1 d_Layout_placeInside_82 rfl rfl ?_
  obtain ⟨g2, h⟩ := h
  refine s_laloadv (v := σ.1 28 x1) d_Layout_placeInside_83 ⟨_, sf_28 hF, g2.1, g2.2, by have := g2.2; omega⟩ rfl ?_
  refine s_lload 4 d_Layout_placeInside_84 rfl ?_
  refine s_lmul d_Layout_placeInside_86 ?_
  refine s_aload_n 0 d_Layout_placeInside_87 rfl rfl ?_
  refine s_getF (v := 29) d_Layout_placeInside_88 fl_Layout_28 rfl (sf_23 hF) (ff_17 hF) ?_
  refine s_iload_n 1 d_Layout_placeInside_91 rfl rfl ?_
  obtain ⟨g3, h⟩ := h
  refine s_laloadv (v := σ.1 29 x1) d_Layout_placeInside_92 ⟨_, sf_29 hF, g3.1, g3.2, by have := g3.2; omega⟩ rfl ?_
  refine s_lload 4 d_Layout_placeInside_93 rfl ?_
  refine s_lmul d_Layout_placeInside_95 ?_
  refine s_aload_n 0 d_Layout_placeInside_96 rfl rfl ?_
  refine s_getF (v := 30) d_Layout_placeInside_97 fl_Layout_31 rfl (sf_23 hF) (ff_18 hF) ?_
  refine s_iload_n 1 d_Layout_placeInside_100 rfl rfl ?_
  obtain ⟨g4, h⟩ := h
  refine s_laloadv (v := σ.1 30 x1) d_Layout_placeInside_101 ⟨_, sf_30 hF, g4.1, g4.2, by have := g4.2; omega⟩ rfl ?_
  refine s_lload 4 d_Layout_placeInside_102 rfl ?_
  refine s_lmul d_Layout_placeInside_104 ?_
  refine s_callV (as := [aI x4, aL ((σ.1 27 x1) * x5), aL ((σ.1 28 x1) * x7), aL ((σ.1 29 x1) * x7), aL ((σ.1 30 x1) * x7)]) (ci := 2) d_Layout_placeInside_105 ok_Layout_lay lk_Layout_90 io_Layout_lay so_Layout_lay (by decide) rfl rfl rfl (Nat.le_of_ble_eq_true rfl) rfl (sf_23 hF) (WM.mono h ?_)
  rintro _ σ5 ⟨rfl, hp, h⟩
  show WP E m_Layout_placeInside (d + 1) 108 [(0, aP 23), (1, aI x1), (4, aI x4), (5, aL x5), (7, aL x7)] [] σ5 Q
  exact s_return d_Layout_placeInside_108 rfl h
theorem d_Layout_mirrorAll_0 : decode m_Layout_mirrorAll.2.1 0 = .ok (.iconst 0, 1) := by decide +kernel
theorem d_Layout_mirrorAll_1 : decode m_Layout_mirrorAll.2.1 1 = .ok (.istore_n 2, 1) := by decide +kernel
theorem d_Layout_mirrorAll_2 : decode m_Layout_mirrorAll.2.1 2 = .ok (.iload_n 2, 1) := by decide +kernel
theorem d_Layout_mirrorAll_3 : decode m_Layout_mirrorAll.2.1 3 = .ok (.aload_n 0, 1) := by decide +kernel
theorem d_Layout_mirrorAll_4 : decode m_Layout_mirrorAll.2.1 4 = .ok (.getfield 34, 3) := by decide +kernel
theorem d_Layout_mirrorAll_7 : decode m_Layout_mirrorAll.2.1 7 = .ok (.if_icmp .ge 33, 3) := by decide +kernel
theorem d_Layout_mirrorAll_10 : decode m_Layout_mirrorAll.2.1 10 = .ok (.aload_n 0, 1) := by decide +kernel
theorem d_Layout_mirrorAll_11 : decode m_Layout_mirrorAll.2.1 11 = .ok (.getfield 28, 3) := by decide +kernel
theorem d_Layout_mirrorAll_14 : decode m_Layout_mirrorAll.2.1 14 = .ok (.iload_n 2, 1) := by decide +kernel
theorem d_Layout_mirrorAll_15 : decode m_Layout_mirrorAll.2.1 15 = .ok (.iconst 2, 1) := by decide +kernel
theorem d_Layout_mirrorAll_16 : decode m_Layout_mirrorAll.2.1 16 = .ok (.iload_n 1, 1) := by decide +kernel
theorem d_Layout_mirrorAll_17 : decode m_Layout_mirrorAll.2.1 17 = .ok (.imul, 1) := by decide +kernel
theorem d_Layout_mirrorAll_18 : decode m_Layout_mirrorAll.2.1 18 = .ok (.i2l, 1) := by decide +kernel
theorem d_Layout_mirrorAll_19 : decode m_Layout_mirrorAll.2.1 19 = .ok (.aload_n 0, 1) := by decide +kernel
theorem d_Layout_mirrorAll_20 : decode m_Layout_mirrorAll.2.1 20 = .ok (.getfield 25, 3) := by decide +kernel
theorem d_Layout_mirrorAll_23 : decode m_Layout_mirrorAll.2.1 23 = .ok (.iload_n 2, 1) := by decide +kernel
theorem d_Layout_mirrorAll_24 : decode m_Layout_mirrorAll.2.1 24 = .ok (.laload, 1) := by decide +kernel
theorem d_Layout_mirrorAll_25 : decode m_Layout_mirrorAll.2.1 25 = .ok (.lmul, 1) := by decide +kernel
theorem d_Layout_mirrorAll_26 : decode m_Layout_mirrorAll.2.1 26 = .ok (.aload_n 0, 1) := by decide +kernel
theorem d_Layout_mirrorAll_27 : decode m_Layout_mirrorAll.2.1 27 = .ok (.getfield 28, 3) := by decide +kernel
theorem d_Layout_mirrorAll_30 : decode m_Layout_mirrorAll.2.1 30 = .ok (.iload_n 2, 1) := by decide +kernel
theorem d_Layout_mirrorAll_31 : decode m_Layout_mirrorAll.2.1 31 = .ok (.laload, 1) := by decide +kernel
theorem d_Layout_mirrorAll_32 : decode m_Layout_mirrorAll.2.1 32 = .ok (.lsub, 1) := by decide +kernel
theorem d_Layout_mirrorAll_33 : decode m_Layout_mirrorAll.2.1 33 = .ok (.lastore, 1) := by decide +kernel
theorem d_Layout_mirrorAll_34 : decode m_Layout_mirrorAll.2.1 34 = .ok (.iinc 2 1, 3) := by decide +kernel
theorem d_Layout_mirrorAll_37 : decode m_Layout_mirrorAll.2.1 37 = .ok (.goto (-35), 3) := by decide +kernel
theorem d_Layout_mirrorAll_40 : decode m_Layout_mirrorAll.2.1 40 = .ok (.return_, 1) := by decide +kernel
theorem b_Layout_mirrorAll_0 {E : EV} {d : Nat} {Q : Option AV → St → Prop} {σ : St} (x1 : Int) (h : WP E m_Layout_mirrorAll d 2 [(0, aP 23), (1, aI x1), (2, aI 0)] [] σ Q) : WP E m_Layout_mirrorAll d 0 [(0, aP 23), (1, aI x1)] [] σ Q := by
  refine s_iconst d_Layout_mirrorAll_0 ?_
  refine s_istore_n d_Layout_mirrorAll_1 rfl (by decide) rfl ?_
  refine wp_drop [1, 2, 0] rfl ?_
  exact h
theorem e_Layout_mirrorAll {E : EV} {d : Nat} {Q : Option AV → St → Prop} {σ : St} (x1 : Int) (h : WP E m_Layout_mirrorAll d 2 [(0, aP 23), (1, aI x1), (2, aI 0)] [] σ Q) : WM E m_Layout_mirrorAll d [aP 23, aI x1] σ Q := s_meth (by decide) (Nat.le_of_ble_eq_true rfl) rfl (b_Layout_mirrorAll_0 x1 h)
theorem b_Layout_mirrorAll_2 {E : EV} {d : Nat} {Q : Option AV → St → Prop} {σ : St} (x1 x2 : Int) (hF : Fix σ) (h : (rI x2) ∧ (rI (σ.1 23 7)) ∧ (((σ.1 23 7) ≤ x2 → Q none σ) ∧ (¬ (σ.1 23 7) ≤ x2 → (rI (2 * x1)) ∧ (0 ≤ x2 ∧ x2 < 24) ∧ (0 ≤ x2 ∧ x2 < 24) ∧ (0 ≤ x2 ∧ x2 < 24) ∧ WP E m_Layout_mirrorAll d 2 [(0, aP 23), (1, aI x1), (2, aI (x2 + 1))] [] (wr σ 29 x2 (((2 * x1) * (σ.1 28 x2)) - (σ.1 29 x2))) Q))) : WP E m_Layout_mirrorAll d 2 [(0, aP 23), (1, aI x1), (2, aI x2)] [] σ Q := by
  refine s_iload_n 2 d_Layout_mirrorAll_2 rfl rfl ?_
  refine s_aload_n 0 d_Layout_mirrorAll_3 rfl rfl ?_
  refine s_getF (v := σ.1 23 7) d_Layout_mirrorAll_4 fl_Layout_34 rfl (sf_23 hF) rfl ?_
  obtain ⟨g1, h⟩ := h
  obtain ⟨g2, h⟩ := h
  refine s_icmp_ge d_Layout_mirrorAll_7 rfl g1 g2 (fun c => ?_) (fun c => ?_)
  · have h := h.1 c
    exact s_return d_Layout_mirrorAll_40 rfl h
  · have h := h.2 c
    refine s_aload_n 0 d_Layout_mirrorAll_10 rfl rfl ?_
    refine s_getF (v := 29) d_Layout_mirrorAll_11 fl_Layout_28 rfl (sf_23 hF) (ff_17 hF) ?_
    refine s_iload_n 2 d_Layout_mirrorAll_14 rfl rfl ?_
    refine s_iconst d_Layout_mirrorAll_15 ?_
    refine s_iload_n 1 d_Layout_mirrorAll_16 rfl rfl ?_
    refine s_imul d_Layout_mirrorAll_17 ?_
    obtain ⟨g3, h⟩ := h
    refine s_i2l d_Layout_mirrorAll_18 g3 ?_
    refine s_aload_n 0 d_Layout_mirrorAll_19 rfl rfl ?_
    refine s_getF (v := 28) d_Layout_mirrorAll_20 fl_Layout_25 rfl (sf_23 hF) (ff_16 hF) ?_
    refine s_iload_n 2 d_Layout_mirrorAll_23 rfl rfl ?_
    obtain ⟨g4, h⟩ := h
    refine s_laloadv (v := σ.1 28 x2) d_Layout_mirrorAll_24 ⟨_, sf_28 hF, g4.1, g4.2, by have := g4.2; omega⟩ rfl ?_
    refine s_lmul d_Layout_mirrorAll_25 ?_
    refine s_aload_n 0 d_Layout_mirrorAll_26 rfl rfl ?_
    refine s_getF (v := 29) d_Layout_mirrorAll_27 fl_Layout_28 rfl (sf_23 hF) (ff_17 hF) ?_
    refine s_iload_n 2 d_Layout_mirrorAll_30 rfl rfl ?_
    obtain ⟨g5, h⟩ := h
    refine s_laloadv (v := σ.1 29 x2) d_Layout_mirrorAll_31 ⟨_, sf_29 hF, g5.1, g5.2, by have := g5.2; omega⟩ rfl ?_
    refine s_lsub d_Layout_mirrorAll_32 ?_
    obtain ⟨g6, h⟩ := h
    refine s_lastore d_Layout_mirrorAll_33 ⟨_, sf_29 hF, g6.1, g6.2, by have := g6.2; omega⟩ ?_
    refine s_iinc 2 d_Layout_mirrorAll_34 rfl (by decide) rfl ?_
    refine s_goto d_Layout_mirrorAll_37 rfl ?_
    refine wp_drop [1, 2, 0] rfl ?_
    exact h
theorem d_Layout_boxAbove_0 : decode m_Layout_boxAbove.2.1 0 = .ok (.iload_n 1, 1) := by decide +kernel
theorem d_Layout_boxAbove_1 : decode m_Layout_boxAbove.2.1 1 = .ok (.ifCond .lt 11, 3) := by decide +kernel
theorem d_Layout_boxAbove_4 : decode m_Layout_boxAbove.2.1 4 = .ok (.iload_n 1, 1) := by decide +kernel
theorem d_Layout_boxAbove_5 : decode m_Layout_boxAbove.2.1 5 = .ok (.aload_n 0, 1) := by decide +kernel
theorem d_Layout_boxAbove_6 : decode m_Layout_boxAbove.2.1 6 = .ok (.getfield 34, 3) := by decide +kernel
theorem d_Layout_boxAbove_9 : decode m_Layout_boxAbove.2.1 9 = .ok (.if_icmp .lt 5, 3) := by decide +kernel
theorem d_Layout_boxAbove_12 : decode m_Layout_boxAbove.2.1 12 = .ok (.lconst 0, 1) := by decide +kernel
theorem d_Layout_boxAbove_13 : decode m_Layout_boxAbove.2.1 13 = .ok (.lreturn, 1) := by decide +kernel
theorem d_Layout_boxAbove_14 : decode m_Layout_boxAbove.2.1 14 = .ok (.iload_n 2, 1) := by decide +kernel
theorem d_Layout_boxAbove_15 : decode m_Layout_boxAbove.2.1 15 = .ok (.tableswitch 103 0 3 #[29, 51, 73, 88], 29) := by decide +kernel
theorem d_Layout_boxAbove_44 : decode m_Layout_boxAbove.2.1 44 = .ok (.aload_n 0, 1) := by decide +kernel
theorem d_Layout_boxAbove_45 : decode m_Layout_boxAbove.2.1 45 = .ok (.getfield 28, 3) := by decide +kernel
theorem d_Layout_boxAbove_48 : decode m_Layout_boxAbove.2.1 48 = .ok (.iload_n 1, 1) := by decide +kernel
theorem d_Layout_boxAbove_49 : decode m_Layout_boxAbove.2.1 49 = .ok (.laload, 1) := by decide +kernel
theorem d_Layout_boxAbove_50 : decode m_Layout_boxAbove.2.1 50 = .ok (.aload_n 0, 1) := by decide +kernel
theorem d_Layout_boxAbove_51 : decode m_Layout_boxAbove.2.1 51 = .ok (.getfield 21, 3) := by decide +kernel
theorem d_Layout_boxAbove_54 : decode m_Layout_boxAbove.2.1 54 = .ok (.iload_n 1, 1) := by decide +kernel
theorem d_Layout_boxAbove_55 : decode m_Layout_boxAbove.2.1 55 = .ok (.laload, 1) := by decide +kernel
theorem d_Layout_boxAbove_56 : decode m_Layout_boxAbove.2.1 56 = .ok (.aload_n 0, 1) := by decide +kernel
theorem d_Layout_boxAbove_57 : decode m_Layout_boxAbove.2.1 57 = .ok (.getfield 15, 3) := by decide +kernel
theorem d_Layout_boxAbove_60 : decode m_Layout_boxAbove.2.1 60 = .ok (.iload_n 1, 1) := by decide +kernel
theorem d_Layout_boxAbove_61 : decode m_Layout_boxAbove.2.1 61 = .ok (.iaload, 1) := by decide +kernel
theorem d_Layout_boxAbove_62 : decode m_Layout_boxAbove.2.1 62 = .ok (.i2l, 1) := by decide +kernel
theorem d_Layout_boxAbove_63 : decode m_Layout_boxAbove.2.1 63 = .ok (.lmul, 1) := by decide +kernel
theorem d_Layout_boxAbove_64 : decode m_Layout_boxAbove.2.1 64 = .ok (.lsub, 1) := by decide +kernel
theorem d_Layout_boxAbove_65 : decode m_Layout_boxAbove.2.1 65 = .ok (.lreturn, 1) := by decide +kernel
theorem d_Layout_boxAbove_66 : decode m_Layout_boxAbove.2.1 66 = .ok (.aload_n 0, 1) := by decide +kernel
theorem d_Layout_boxAbove_67 : decode m_Layout_boxAbove.2.1 67 = .ok (.getfield 31, 3) := by decide +kernel
theorem d_Layout_boxAbove_70 : decode m_Layout_boxAbove.2.1 70 = .ok (.iload_n 1, 1) := by decide +kernel
theorem d_Layout_boxAbove_71 : decode m_Layout_boxAbove.2.1 71 = .ok (.laload, 1) := by decide +kernel
theorem d_Layout_boxAbove_72 : decode m_Layout_boxAbove.2.1 72 = .ok (.aload_n 0, 1) := by decide +kernel
theorem d_Layout_boxAbove_73 : decode m_Layout_boxAbove.2.1 73 = .ok (.getfield 21, 3) := by decide +kernel
theorem d_Layout_boxAbove_76 : decode m_Layout_boxAbove.2.1 76 = .ok (.iload_n 1, 1) := by decide +kernel
theorem d_Layout_boxAbove_77 : decode m_Layout_boxAbove.2.1 77 = .ok (.laload, 1) := by decide +kernel
theorem d_Layout_boxAbove_78 : decode m_Layout_boxAbove.2.1 78 = .ok (.aload_n 0, 1) := by decide +kernel
theorem d_Layout_boxAbove_79 : decode m_Layout_boxAbove.2.1 79 = .ok (.getfield 18, 3) := by decide +kernel
theorem d_Layout_boxAbove_82 : decode m_Layout_boxAbove.2.1 82 = .ok (.iload_n 1, 1) := by decide +kernel
theorem d_Layout_boxAbove_83 : decode m_Layout_boxAbove.2.1 83 = .ok (.iaload, 1) := by decide +kernel
theorem d_Layout_boxAbove_84 : decode m_Layout_boxAbove.2.1 84 = .ok (.i2l, 1) := by decide +kernel
theorem d_Layout_boxAbove_85 : decode m_Layout_boxAbove.2.1 85 = .ok (.lmul, 1) := by decide +kernel
theorem d_Layout_boxAbove_86 : decode m_Layout_boxAbove.2.1 86 = .ok (.lsub, 1) := by decide +kernel
theorem d_Layout_boxAbove_87 : decode m_Layout_boxAbove.2.1 87 = .ok (.lreturn, 1) := by decide +kernel
theorem d_Layout_boxAbove_88 : decode m_Layout_boxAbove.2.1 88 = .ok (.aload_n 0, 1) := by decide +kernel
theorem d_Layout_boxAbove_89 : decode m_Layout_boxAbove.2.1 89 = .ok (.getfield 21, 3) := by decide +kernel
theorem d_Layout_boxAbove_92 : decode m_Layout_boxAbove.2.1 92 = .ok (.iload_n 1, 1) := by decide +kernel
theorem d_Layout_boxAbove_93 : decode m_Layout_boxAbove.2.1 93 = .ok (.laload, 1) := by decide +kernel
theorem d_Layout_boxAbove_94 : decode m_Layout_boxAbove.2.1 94 = .ok (.aload_n 0, 1) := by decide +kernel
theorem d_Layout_boxAbove_95 : decode m_Layout_boxAbove.2.1 95 = .ok (.getfield 15, 3) := by decide +kernel
theorem d_Layout_boxAbove_98 : decode m_Layout_boxAbove.2.1 98 = .ok (.iload_n 1, 1) := by decide +kernel
theorem d_Layout_boxAbove_99 : decode m_Layout_boxAbove.2.1 99 = .ok (.iaload, 1) := by decide +kernel
theorem d_Layout_boxAbove_100 : decode m_Layout_boxAbove.2.1 100 = .ok (.i2l, 1) := by decide +kernel
theorem d_Layout_boxAbove_101 : decode m_Layout_boxAbove.2.1 101 = .ok (.lmul, 1) := by decide +kernel
theorem d_Layout_boxAbove_102 : decode m_Layout_boxAbove.2.1 102 = .ok (.lreturn, 1) := by decide +kernel
theorem d_Layout_boxAbove_103 : decode m_Layout_boxAbove.2.1 103 = .ok (.aload_n 0, 1) := by decide +kernel
theorem d_Layout_boxAbove_104 : decode m_Layout_boxAbove.2.1 104 = .ok (.getfield 21, 3) := by decide +kernel
theorem d_Layout_boxAbove_107 : decode m_Layout_boxAbove.2.1 107 = .ok (.iload_n 1, 1) := by decide +kernel
theorem d_Layout_boxAbove_108 : decode m_Layout_boxAbove.2.1 108 = .ok (.laload, 1) := by decide +kernel
theorem d_Layout_boxAbove_109 : decode m_Layout_boxAbove.2.1 109 = .ok (.aload_n 0, 1) := by decide +kernel
theorem d_Layout_boxAbove_110 : decode m_Layout_boxAbove.2.1 110 = .ok (.getfield 18, 3) := by decide +kernel
theorem d_Layout_boxAbove_113 : decode m_Layout_boxAbove.2.1 113 = .ok (.iload_n 1, 1) := by decide +kernel
theorem d_Layout_boxAbove_114 : decode m_Layout_boxAbove.2.1 114 = .ok (.iaload, 1) := by decide +kernel
theorem d_Layout_boxAbove_115 : decode m_Layout_boxAbove.2.1 115 = .ok (.i2l, 1) := by decide +kernel
theorem d_Layout_boxAbove_116 : decode m_Layout_boxAbove.2.1 116 = .ok (.lmul, 1) := by decide +kernel
theorem d_Layout_boxAbove_117 : decode m_Layout_boxAbove.2.1 117 = .ok (.lreturn, 1) := by decide +kernel
theorem d_Layout_boxAbove_118 : decode m_Layout_boxAbove.2.1 118 = .ok (.aload_n 0, 1) := by decide +kernel
theorem d_Layout_boxAbove_119 : decode m_Layout_boxAbove.2.1 119 = .ok (.getfield 21, 3) := by decide +kernel
theorem d_Layout_boxAbove_122 : decode m_Layout_boxAbove.2.1 122 = .ok (.iload_n 1, 1) := by decide +kernel
theorem d_Layout_boxAbove_123 : decode m_Layout_boxAbove.2.1 123 = .ok (.laload, 1) := by decide +kernel
theorem d_Layout_boxAbove_124 : decode m_Layout_boxAbove.2.1 124 = .ok (.lreturn, 1) := by decide +kernel
theorem b_Layout_boxAbove_0 {E : EV} {d : Nat} {Q : Option AV → St → Prop} {σ : St} (x1 x2 : Int) (hF : Fix σ) (h : (rI x1) ∧ ((x1 < 0 → Q (some (aL 0)) σ) ∧ (¬ x1 < 0 → (rI x1) ∧ (rI (σ.1 23 7)) ∧ ((x1 < (σ.1 23 7) → (rI x2) ∧ ((x2 = 0 → (0 ≤ x1 ∧ x1 < 24) ∧ (0 ≤ x1 ∧ x1 < 24) ∧ (0 ≤ x1 ∧ x1 < 24) ∧ (rI (σ.1 25 x1)) ∧ Q (some (aL ((σ.1 29 x1) - ((σ.1 27 x1) * (σ.1 25 x1))))) σ) ∧ (x2 = 1 → (0 ≤ x1 ∧ x1 < 24) ∧ (0 ≤ x1 ∧ x1 < 24) ∧ (0 ≤ x1 ∧ x1 < 24) ∧ (rI (σ.1 26 x1)) ∧ Q (some (aL ((σ.1 30 x1) - ((σ.1 27 x1) * (σ.1 26 x1))))) σ) ∧ (x2 = 2 → (0 ≤ x1 ∧ x1 < 24) ∧ (0 ≤ x1 ∧ x1 < 24) ∧ (rI (σ.1 25 x1)) ∧ Q (some (aL ((σ.1 27 x1) * (σ.1 25 x1)))) σ) ∧ (x2 = 3 → (0 ≤ x1 ∧ x1 < 24) ∧ (0 ≤ x1 ∧ x1 < 24) ∧ (rI (σ.1 26 x1)) ∧ Q (some (aL ((σ.1 27 x1) * (σ.1 26 x1)))) σ) ∧ (¬ (0 ≤ x2 ∧ x2 ≤ 3) → (0 ≤ x1 ∧ x1 < 24) ∧ Q (some (aL (σ.1 27 x1))) σ))) ∧ (¬ x1 < (σ.1 23 7) → Q (some (aL 0)) σ))))) : WP E m_Layout_boxAbove d 0 [(0, aP 23), (1, aI x1), (2, aI x2)] [] σ Q := by
  refine s_iload_n 1 d_Layout_boxAbove_0 rfl rfl ?_
  obtain ⟨g1, h⟩ := h
  refine s_if_lt d_Layout_boxAbove_1 rfl g1 (fun c => ?_) (fun c => ?_)
  · have h := h.1 c
    refine s_lconst (v := 0) d_Layout_boxAbove_12 rfl ?_
    exact s_lreturn d_Layout_boxAbove_13 rfl h
  · have h := h.2 c
    refine s_iload_n 1 d_Layout_boxAbove_4 rfl rfl ?_
    refine s_aload_n 0 d_Layout_boxAbove_5 rfl rfl ?_
    refine s_getF (v := σ.1 23 7) d_Layout_boxAbove_6 fl_Layout_34 rfl (sf_23 hF) rfl ?_
    obtain ⟨g2, h⟩ := h
    obtain ⟨g3, h⟩ := h
    refine s_icmp_lt d_Layout_boxAbove_9 rfl g2 g3 (fun c => ?_) (fun c => ?_)
    · have h := h.1 c
      refine s_iload_n 2 d_Layout_boxAbove_14 rfl rfl ?_
      obtain ⟨g4, h⟩ := h
      by_cases c0 : x2 = 0
      · have h := h.1 c0
        refine s_tableIn d_Layout_boxAbove_15 g4 (by rw [c0]; decide) (by rw [c0]; rfl) (tgt := 44) rfl ?_
        refine s_aload_n 0 d_Layout_boxAbove_44 rfl rfl ?_
        refine s_getF (v := 29) d_Layout_boxAbove_45 fl_Layout_28 rfl (sf_23 hF) (ff_17 hF) ?_
        refine s_iload_n 1 d_Layout_boxAbove_48 rfl rfl ?_
        obtain ⟨g5, h⟩ := h
        refine s_laloadv (v := σ.1 29 x1) d_Layout_boxAbove_49 ⟨_, sf_29 hF, g5.1, g5.2, by have := g5.2; omega⟩ rfl ?_
        refine s_aload_n 0 d_Layout_boxAbove_50 rfl rfl ?_
        refine s_getF (v := 27) d_Layout_boxAbove_51 fl_Layout_21 rfl (sf_23 hF) (ff_15 hF) ?_
        refine s_iload_n 1 d_Layout_boxAbove_54 rfl rfl ?_
        obtain ⟨g6, h⟩ := h
        refine s_laloadv (v := σ.1 27 x1) d_Layout_boxAbove_55 ⟨_, sf_27 hF, g6.1, g6.2, by have := g6.2; omega⟩ rfl ?_
        refine s_aload_n 0 d_Layout_boxAbove_56 rfl rfl ?_
        refine s_getF (v := 25) d_Layout_boxAbove_57 fl_Layout_15 rfl (sf_23 hF) (ff_13 hF) ?_
        refine s_iload_n 1 d_Layout_boxAbove_60 rfl rfl ?_
        obtain ⟨g7, h⟩ := h
        refine s_ialoadv (v := σ.1 25 x1) d_Layout_boxAbove_61 ⟨_, sf_25 hF, g7.1, g7.2, by have := g7.2; omega⟩ rfl ?_
        obtain ⟨g8, h⟩ := h
        refine s_i2l d_Layout_boxAbove_62 g8 ?_
        refine s_lmul d_Layout_boxAbove_63 ?_
        refine s_lsub d_Layout_boxAbove_64 ?_
        exact s_lreturn d_Layout_boxAbove_65 rfl h
      by_cases c1 : x2 = 1
      · have h := h.2.1 c1
        refine s_tableIn d_Layout_boxAbove_15 g4 (by rw [c1]; decide) (by rw [c1]; rfl) (tgt := 66) rfl ?_
        refine s_aload_n 0 d_Layout_boxAbove_66 rfl rfl ?_
        refine s_getF (v := 30) d_Layout_boxAbove_67 fl_Layout_31 rfl (sf_23 hF) (ff_18 hF) ?_
        refine s_iload_n 1 d_Layout_boxAbove_70 rfl rfl ?_
        obtain ⟨g9, h⟩ := h
        refine s_laloadv (v := σ.1 30 x1) d_Layout_boxAbove_71 ⟨_, sf_30 hF, g9.1, g9.2, by have := g9.2; omega⟩ rfl ?_
        refine s_aload_n 0 d_Layout_boxAbove_72 rfl rfl ?_
        refine s_getF (v := 27) d_Layout_boxAbove_73 fl_Layout_21 rfl (sf_23 hF) (ff_15 hF) ?_
        refine s_iload_n 1 d_Layout_boxAbove_76 rfl rfl ?_
        obtain ⟨g10, h⟩ := h
        refine s_laloadv (v := σ.1 27 x1) d_Layout_boxAbove_77 ⟨_, sf_27 hF, g10.1, g10.2, by have := g10.2; omega⟩ rfl ?_
        refine s_aload_n 0 d_Layout_boxAbove_78 rfl rfl ?_
        refine s_getF (v := 26) d_Layout_boxAbove_79 fl_Layout_18 rfl (sf_23 hF) (ff_14 hF) ?_
        refine s_iload_n 1 d_Layout_boxAbove_82 rfl rfl ?_
        obtain ⟨g11, h⟩ := h
        refine s_ialoadv (v := σ.1 26 x1) d_Layout_boxAbove_83 ⟨_, sf_26 hF, g11.1, g11.2, by have := g11.2; omega⟩ rfl ?_
        obtain ⟨g12, h⟩ := h
        refine s_i2l d_Layout_boxAbove_84 g12 ?_
        refine s_lmul d_Layout_boxAbove_85 ?_
        refine s_lsub d_Layout_boxAbove_86 ?_
        exact s_lreturn d_Layout_boxAbove_87 rfl h
      by_cases c2 : x2 = 2
      · have h := h.2.2.1 c2
        refine s_tableIn d_Layout_boxAbove_15 g4 (by rw [c2]; decide) (by rw [c2]; rfl) (tgt := 88) rfl ?_
        refine s_aload_n 0 d_Layout_boxAbove_88 rfl rfl ?_
        refine s_getF (v := 27) d_Layout_boxAbove_89 fl_Layout_21 rfl (sf_23 hF) (ff_15 hF) ?_
        refine s_iload_n 1 d_Layout_boxAbove_92 rfl rfl ?_
        obtain ⟨g13, h⟩ := h
        refine s_laloadv (v := σ.1 27 x1) d_Layout_boxAbove_93 ⟨_, sf_27 hF, g13.1, g13.2, by have := g13.2; omega⟩ rfl ?_
        refine s_aload_n 0 d_Layout_boxAbove_94 rfl rfl ?_
        refine s_getF (v := 25) d_Layout_boxAbove_95 fl_Layout_15 rfl (sf_23 hF) (ff_13 hF) ?_
        refine s_iload_n 1 d_Layout_boxAbove_98 rfl rfl ?_
        obtain ⟨g14, h⟩ := h
        refine s_ialoadv (v := σ.1 25 x1) d_Layout_boxAbove_99 ⟨_, sf_25 hF, g14.1, g14.2, by have := g14.2; omega⟩ rfl ?_
        obtain ⟨g15, h⟩ := h
        refine s_i2l d_Layout_boxAbove_100 g15 ?_
        refine s_lmul d_Layout_boxAbove_101 ?_
        exact s_lreturn d_Layout_boxAbove_102 rfl h
      by_cases c3 : x2 = 3
      · have h := h.2.2.2.1 c3
        refine s_tableIn d_Layout_boxAbove_15 g4 (by rw [c3]; decide) (by rw [c3]; rfl) (tgt := 103) rfl ?_
        refine s_aload_n 0 d_Layout_boxAbove_103 rfl rfl ?_
        refine s_getF (v := 27) d_Layout_boxAbove_104 fl_Layout_21 rfl (sf_23 hF) (ff_15 hF) ?_
        refine s_iload_n 1 d_Layout_boxAbove_107 rfl rfl ?_
        obtain ⟨g16, h⟩ := h
        refine s_laloadv (v := σ.1 27 x1) d_Layout_boxAbove_108 ⟨_, sf_27 hF, g16.1, g16.2, by have := g16.2; omega⟩ rfl ?_
        refine s_aload_n 0 d_Layout_boxAbove_109 rfl rfl ?_
        refine s_getF (v := 26) d_Layout_boxAbove_110 fl_Layout_18 rfl (sf_23 hF) (ff_14 hF) ?_
        refine s_iload_n 1 d_Layout_boxAbove_113 rfl rfl ?_
        obtain ⟨g17, h⟩ := h
        refine s_ialoadv (v := σ.1 26 x1) d_Layout_boxAbove_114 ⟨_, sf_26 hF, g17.1, g17.2, by have := g17.2; omega⟩ rfl ?_
        obtain ⟨g18, h⟩ := h
        refine s_i2l d_Layout_boxAbove_115 g18 ?_
        refine s_lmul d_Layout_boxAbove_116 ?_
        exact s_lreturn d_Layout_boxAbove_117 rfl h
      have c : ¬ (0 ≤ x2 ∧ x2 ≤ 3) := by omega
      have h := h.2.2.2.2 c
      refine s_tableOut d_Layout_boxAbove_15 g4 c (tgt := 118) rfl ?_
      refine s_aload_n 0 d_Layout_boxAbove_118 rfl rfl ?_
      refine s_getF (v := 27) d_Layout_boxAbove_119 fl_Layout_21 rfl (sf_23 hF) (ff_15 hF) ?_
      refine s_iload_n 1 d_Layout_boxAbove_122 rfl rfl ?_
      obtain ⟨g19, h⟩ := h
      refine s_laloadv (v := σ.1 27 x1) d_Layout_boxAbove_123 ⟨_, sf_27 hF, g19.1, g19.2, by have := g19.2; omega⟩ rfl ?_
      exact s_lreturn d_Layout_boxAbove_124 rfl h
    · have h := h.2 c
      refine s_lconst (v := 0) d_Layout_boxAbove_12 rfl ?_
      exact s_lreturn d_Layout_boxAbove_13 rfl h
theorem e_Layout_boxAbove {E : EV} {d : Nat} {Q : Option AV → St → Prop} {σ : St} (x1 x2 : Int) (hF : Fix σ) (h : (rI x1) ∧ ((x1 < 0 → Q (some (aL 0)) σ) ∧ (¬ x1 < 0 → (rI x1) ∧ (rI (σ.1 23 7)) ∧ ((x1 < (σ.1 23 7) → (rI x2) ∧ ((x2 = 0 → (0 ≤ x1 ∧ x1 < 24) ∧ (0 ≤ x1 ∧ x1 < 24) ∧ (0 ≤ x1 ∧ x1 < 24) ∧ (rI (σ.1 25 x1)) ∧ Q (some (aL ((σ.1 29 x1) - ((σ.1 27 x1) * (σ.1 25 x1))))) σ) ∧ (x2 = 1 → (0 ≤ x1 ∧ x1 < 24) ∧ (0 ≤ x1 ∧ x1 < 24) ∧ (0 ≤ x1 ∧ x1 < 24) ∧ (rI (σ.1 26 x1)) ∧ Q (some (aL ((σ.1 30 x1) - ((σ.1 27 x1) * (σ.1 26 x1))))) σ) ∧ (x2 = 2 → (0 ≤ x1 ∧ x1 < 24) ∧ (0 ≤ x1 ∧ x1 < 24) ∧ (rI (σ.1 25 x1)) ∧ Q (some (aL ((σ.1 27 x1) * (σ.1 25 x1)))) σ) ∧ (x2 = 3 → (0 ≤ x1 ∧ x1 < 24) ∧ (0 ≤ x1 ∧ x1 < 24) ∧ (rI (σ.1 26 x1)) ∧ Q (some (aL ((σ.1 27 x1) * (σ.1 26 x1)))) σ) ∧ (¬ (0 ≤ x2 ∧ x2 ≤ 3) → (0 ≤ x1 ∧ x1 < 24) ∧ Q (some (aL (σ.1 27 x1))) σ))) ∧ (¬ x1 < (σ.1 23 7) → Q (some (aL 0)) σ))))) : WM E m_Layout_boxAbove d [aP 23, aI x1, aI x2] σ Q := s_meth (by decide) (Nat.le_of_ble_eq_true rfl) rfl (b_Layout_boxAbove_0 x1 x2 hF h)
theorem d_Layout_boxBelow_0 : decode m_Layout_boxBelow.2.1 0 = .ok (.iload_n 1, 1) := by decide +kernel
theorem d_Layout_boxBelow_1 : decode m_Layout_boxBelow.2.1 1 = .ok (.ifCond .lt 11, 3) := by decide +kernel
theorem d_Layout_boxBelow_4 : decode m_Layout_boxBelow.2.1 4 = .ok (.iload_n 1, 1) := by decide +kernel
theorem d_Layout_boxBelow_5 : decode m_Layout_boxBelow.2.1 5 = .ok (.aload_n 0, 1) := by decide +kernel
theorem d_Layout_boxBelow_6 : decode m_Layout_boxBelow.2.1 6 = .ok (.getfield 34, 3) := by decide +kernel
theorem d_Layout_boxBelow_9 : decode m_Layout_boxBelow.2.1 9 = .ok (.if_icmp .lt 5, 3) := by decide +kernel
theorem d_Layout_boxBelow_12 : decode m_Layout_boxBelow.2.1 12 = .ok (.lconst 1, 1) := by decide +kernel
theorem d_Layout_boxBelow_13 : decode m_Layout_boxBelow.2.1 13 = .ok (.lreturn, 1) := by decide +kernel
theorem d_Layout_boxBelow_14 : decode m_Layout_boxBelow.2.1 14 = .ok (.iload_n 2, 1) := by decide +kernel
theorem d_Layout_boxBelow_15 : decode m_Layout_boxBelow.2.1 15 = .ok (.iconst 2, 1) := by decide +kernel
theorem d_Layout_boxBelow_16 : decode m_Layout_boxBelow.2.1 16 = .ok (.if_icmp .ge 16, 3) := by decide +kernel
theorem d_Layout_boxBelow_19 : decode m_Layout_boxBelow.2.1 19 = .ok (.ldc2_w 107, 3) := by decide +kernel
theorem d_Layout_boxBelow_22 : decode m_Layout_boxBelow.2.1 22 = .ok (.aload_n 0, 1) := by decide +kernel
theorem d_Layout_boxBelow_23 : decode m_Layout_boxBelow.2.1 23 = .ok (.getfield 25, 3) := by decide +kernel
theorem d_Layout_boxBelow_26 : decode m_Layout_boxBelow.2.1 26 = .ok (.iload_n 1, 1) := by decide +kernel
theorem d_Layout_boxBelow_27 : decode m_Layout_boxBelow.2.1 27 = .ok (.laload, 1) := by decide +kernel
theorem d_Layout_boxBelow_28 : decode m_Layout_boxBelow.2.1 28 = .ok (.lmul, 1) := by decide +kernel
theorem d_Layout_boxBelow_29 : decode m_Layout_boxBelow.2.1 29 = .ok (.goto 9, 3) := by decide +kernel
theorem d_Layout_boxBelow_32 : decode m_Layout_boxBelow.2.1 32 = .ok (.aload_n 0, 1) := by decide +kernel
theorem d_Layout_boxBelow_33 : decode m_Layout_boxBelow.2.1 33 = .ok (.getfield 25, 3) := by decide +kernel
theorem d_Layout_boxBelow_36 : decode m_Layout_boxBelow.2.1 36 = .ok (.iload_n 1, 1) := by decide +kernel
theorem d_Layout_boxBelow_37 : decode m_Layout_boxBelow.2.1 37 = .ok (.laload, 1) := by decide +kernel
theorem d_Layout_boxBelow_38 : decode m_Layout_boxBelow.2.1 38 = .ok (.lreturn, 1) := by decide +kernel
theorem b_Layout_boxBelow_0 {E : EV} {d : Nat} {Q : Option AV → St → Prop} {σ : St} (x1 x2 : Int) (hF : Fix σ) (h : (rI x1) ∧ ((x1 < 0 → Q (some (aL 1)) σ) ∧ (¬ x1 < 0 → (rI x1) ∧ (rI (σ.1 23 7)) ∧ ((x1 < (σ.1 23 7) → (rI x2) ∧ ((2 ≤ x2 → (0 ≤ x1 ∧ x1 < 24) ∧ Q (some (aL (σ.1 28 x1))) σ) ∧ (¬ 2 ≤ x2 → (0 ≤ x1 ∧ x1 < 24) ∧ Q (some (aL (2 * (σ.1 28 x1)))) σ))) ∧ (¬ x1 < (σ.1 23 7) → Q (some (aL 1)) σ))))) : WP E m_Layout_boxBelow d 0 [(0, aP 23), (1, aI x1), (2, aI x2)] [] σ Q := by
  refine s_iload_n 1 d_Layout_boxBelow_0 rfl rfl ?_
  obtain ⟨g1, h⟩ := h
  refine s_if_lt d_Layout_boxBelow_1 rfl g1 (fun c => ?_) (fun c => ?_)
  · have h := h.1 c
    refine s_lconst (v := 1) d_Layout_boxBelow_12 rfl ?_
    exact s_lreturn d_Layout_boxBelow_13 rfl h
  · have h := h.2 c
    refine s_iload_n 1 d_Layout_boxBelow_4 rfl rfl ?_
    refine s_aload_n 0 d_Layout_boxBelow_5 rfl rfl ?_
    refine s_getF (v := σ.1 23 7) d_Layout_boxBelow_6 fl_Layout_34 rfl (sf_23 hF) rfl ?_
    obtain ⟨g2, h⟩ := h
    obtain ⟨g3, h⟩ := h
    refine s_icmp_lt d_Layout_boxBelow_9 rfl g2 g3 (fun c => ?_) (fun c => ?_)
    · have h := h.1 c
      refine s_iload_n 2 d_Layout_boxBelow_14 rfl rfl ?_
      refine s_iconst d_Layout_boxBelow_15 ?_
      obtain ⟨g4, h⟩ := h
      refine s_icmp_ge d_Layout_boxBelow_16 rfl g4 (by decide) (fun c => ?_) (fun c => ?_)
      · have h := h.1 c
        refine s_aload_n 0 d_Layout_boxBelow_32 rfl rfl ?_
        refine s_getF (v := 28) d_Layout_boxBelow_33 fl_Layout_25 rfl (sf_23 hF) (ff_16 hF) ?_
        refine s_iload_n 1 d_Layout_boxBelow_36 rfl rfl ?_
        obtain ⟨g5, h⟩ := h
        refine s_laloadv (v := σ.1 28 x1) d_Layout_boxBelow_37 ⟨_, sf_28 hF, g5.1, g5.2, by have := g5.2; omega⟩ rfl ?_
        exact s_lreturn d_Layout_boxBelow_38 rfl h
      · have h := h.2 c
        refine s_ldc2 (v := 2) d_Layout_boxBelow_19 ll_Layout_107 (by decide) ?_
        refine s_aload_n 0 d_Layout_boxBelow_22 rfl rfl ?_
        refine s_getF (v := 28) d_Layout_boxBelow_23 fl_Layout_25 rfl (sf_23 hF) (ff_16 hF) ?_
        refine s_iload_n 1 d_Layout_boxBelow_26 rfl rfl ?_
        obtain ⟨g6, h⟩ := h
        refine s_laloadv (v := σ.1 28 x1) d_Layout_boxBelow_27 ⟨_, sf_28 hF, g6.1, g6.2, by have := g6.2; omega⟩ rfl ?_
        refine s_lmul d_Layout_boxBelow_28 ?_
        refine s_goto d_Layout_boxBelow_29 rfl ?_
        exact s_lreturn d_Layout_boxBelow_38 rfl h
    · have h := h.2 c
      refine s_lconst (v := 1) d_Layout_boxBelow_12 rfl ?_
      exact s_lreturn d_Layout_boxBelow_13 rfl h
theorem e_Layout_boxBelow {E : EV} {d : Nat} {Q : Option AV → St → Prop} {σ : St} (x1 x2 : Int) (hF : Fix σ) (h : (rI x1) ∧ ((x1 < 0 → Q (some (aL 1)) σ) ∧ (¬ x1 < 0 → (rI x1) ∧ (rI (σ.1 23 7)) ∧ ((x1 < (σ.1 23 7) → (rI x2) ∧ ((2 ≤ x2 → (0 ≤ x1 ∧ x1 < 24) ∧ Q (some (aL (σ.1 28 x1))) σ) ∧ (¬ 2 ≤ x2 → (0 ≤ x1 ∧ x1 < 24) ∧ Q (some (aL (2 * (σ.1 28 x1)))) σ))) ∧ (¬ x1 < (σ.1 23 7) → Q (some (aL 1)) σ))))) : WM E m_Layout_boxBelow d [aP 23, aI x1, aI x2] σ Q := s_meth (by decide) (Nat.le_of_ble_eq_true rfl) rfl (b_Layout_boxBelow_0 x1 x2 hF h)
theorem d_Layout_reaches_0 : decode m_Layout_reaches.2.1 0 = .ok (.iload_n 1, 1) := by decide +kernel
theorem d_Layout_reaches_1 : decode m_Layout_reaches.2.1 1 = .ok (.ifCond .lt 11, 3) := by decide +kernel
theorem d_Layout_reaches_4 : decode m_Layout_reaches.2.1 4 = .ok (.iload_n 1, 1) := by decide +kernel
theorem d_Layout_reaches_5 : decode m_Layout_reaches.2.1 5 = .ok (.aload_n 0, 1) := by decide +kernel
theorem d_Layout_reaches_6 : decode m_Layout_reaches.2.1 6 = .ok (.getfield 34, 3) := by decide +kernel
theorem d_Layout_reaches_9 : decode m_Layout_reaches.2.1 9 = .ok (.if_icmp .lt 5, 3) := by decide +kernel
theorem d_Layout_reaches_12 : decode m_Layout_reaches.2.1 12 = .ok (.iconst 0, 1) := by decide +kernel
theorem d_Layout_reaches_13 : decode m_Layout_reaches.2.1 13 = .ok (.ireturn, 1) := by decide +kernel
theorem d_Layout_reaches_14 : decode m_Layout_reaches.2.1 14 = .ok (.ldc2_w 107, 3) := by decide +kernel
theorem d_Layout_reaches_17 : decode m_Layout_reaches.2.1 17 = .ok (.aload_n 0, 1) := by decide +kernel
theorem d_Layout_reaches_18 : decode m_Layout_reaches.2.1 18 = .ok (.getfield 25, 3) := by decide +kernel
theorem d_Layout_reaches_21 : decode m_Layout_reaches.2.1 21 = .ok (.iload_n 1, 1) := by decide +kernel
theorem d_Layout_reaches_22 : decode m_Layout_reaches.2.1 22 = .ok (.laload, 1) := by decide +kernel
theorem d_Layout_reaches_23 : decode m_Layout_reaches.2.1 23 = .ok (.lmul, 1) := by decide +kernel
theorem d_Layout_reaches_24 : decode m_Layout_reaches.2.1 24 = .ok (.iload_n 2, 1) := by decide +kernel
theorem d_Layout_reaches_25 : decode m_Layout_reaches.2.1 25 = .ok (.i2l, 1) := by decide +kernel
theorem d_Layout_reaches_26 : decode m_Layout_reaches.2.1 26 = .ok (.lmul, 1) := by decide +kernel
theorem d_Layout_reaches_27 : decode m_Layout_reaches.2.1 27 = .ok (.aload_n 0, 1) := by decide +kernel
theorem d_Layout_reaches_28 : decode m_Layout_reaches.2.1 28 = .ok (.getfield 28, 3) := by decide +kernel
theorem d_Layout_reaches_31 : decode m_Layout_reaches.2.1 31 = .ok (.iload_n 1, 1) := by decide +kernel
theorem d_Layout_reaches_32 : decode m_Layout_reaches.2.1 32 = .ok (.laload, 1) := by decide +kernel
theorem d_Layout_reaches_33 : decode m_Layout_reaches.2.1 33 = .ok (.iload 4, 2) := by decide +kernel
theorem d_Layout_reaches_35 : decode m_Layout_reaches.2.1 35 = .ok (.i2l, 1) := by decide +kernel
theorem d_Layout_reaches_36 : decode m_Layout_reaches.2.1 36 = .ok (.lmul, 1) := by decide +kernel
theorem d_Layout_reaches_37 : decode m_Layout_reaches.2.1 37 = .ok (.lsub, 1) := by decide +kernel
theorem d_Layout_reaches_38 : decode m_Layout_reaches.2.1 38 = .ok (.invokestatic 109, 3) := by decide +kernel
theorem d_Layout_reaches_41 : decode m_Layout_reaches.2.1 41 = .ok (.lstore 5, 2) := by decide +kernel
theorem d_Layout_reaches_43 : decode m_Layout_reaches.2.1 43 = .ok (.ldc2_w 107, 3) := by decide +kernel
theorem d_Layout_reaches_46 : decode m_Layout_reaches.2.1 46 = .ok (.aload_n 0, 1) := by decide +kernel
theorem d_Layout_reaches_47 : decode m_Layout_reaches.2.1 47 = .ok (.getfield 25, 3) := by decide +kernel
theorem d_Layout_reaches_50 : decode m_Layout_reaches.2.1 50 = .ok (.iload_n 1, 1) := by decide +kernel
theorem d_Layout_reaches_51 : decode m_Layout_reaches.2.1 51 = .ok (.laload, 1) := by decide +kernel
theorem d_Layout_reaches_52 : decode m_Layout_reaches.2.1 52 = .ok (.lmul, 1) := by decide +kernel
theorem d_Layout_reaches_53 : decode m_Layout_reaches.2.1 53 = .ok (.iload_n 3, 1) := by decide +kernel
theorem d_Layout_reaches_54 : decode m_Layout_reaches.2.1 54 = .ok (.i2l, 1) := by decide +kernel
theorem d_Layout_reaches_55 : decode m_Layout_reaches.2.1 55 = .ok (.lmul, 1) := by decide +kernel
theorem d_Layout_reaches_56 : decode m_Layout_reaches.2.1 56 = .ok (.aload_n 0, 1) := by decide +kernel
theorem d_Layout_reaches_57 : decode m_Layout_reaches.2.1 57 = .ok (.getfield 31, 3) := by decide +kernel
theorem d_Layout_reaches_60 : decode m_Layout_reaches.2.1 60 = .ok (.iload_n 1, 1) := by decide +kernel
theorem d_Layout_reaches_61 : decode m_Layout_reaches.2.1 61 = .ok (.laload, 1) := by decide +kernel
theorem d_Layout_reaches_62 : decode m_Layout_reaches.2.1 62 = .ok (.iload 4, 2) := by decide +kernel
theorem d_Layout_reaches_64 : decode m_Layout_reaches.2.1 64 = .ok (.i2l, 1) := by decide +kernel
theorem d_Layout_reaches_65 : decode m_Layout_reaches.2.1 65 = .ok (.lmul, 1) := by decide +kernel
theorem d_Layout_reaches_66 : decode m_Layout_reaches.2.1 66 = .ok (.lsub, 1) := by decide +kernel
theorem d_Layout_reaches_67 : decode m_Layout_reaches.2.1 67 = .ok (.invokestatic 109, 3) := by decide +kernel
theorem d_Layout_reaches_70 : decode m_Layout_reaches.2.1 70 = .ok (.lstore 7, 2) := by decide +kernel
theorem d_Layout_reaches_72 : decode m_Layout_reaches.2.1 72 = .ok (.lload 5, 2) := by decide +kernel
theorem d_Layout_reaches_74 : decode m_Layout_reaches.2.1 74 = .ok (.aload_n 0, 1) := by decide +kernel
theorem d_Layout_reaches_75 : decode m_Layout_reaches.2.1 75 = .ok (.getfield 21, 3) := by decide +kernel
theorem d_Layout_reaches_78 : decode m_Layout_reaches.2.1 78 = .ok (.iload_n 1, 1) := by decide +kernel
theorem d_Layout_reaches_79 : decode m_Layout_reaches.2.1 79 = .ok (.laload, 1) := by decide +kernel
theorem d_Layout_reaches_80 : decode m_Layout_reaches.2.1 80 = .ok (.aload_n 0, 1) := by decide +kernel
theorem d_Layout_reaches_81 : decode m_Layout_reaches.2.1 81 = .ok (.getfield 15, 3) := by decide +kernel
theorem d_Layout_reaches_84 : decode m_Layout_reaches.2.1 84 = .ok (.iload_n 1, 1) := by decide +kernel
theorem d_Layout_reaches_85 : decode m_Layout_reaches.2.1 85 = .ok (.iaload, 1) := by decide +kernel
theorem d_Layout_reaches_86 : decode m_Layout_reaches.2.1 86 = .ok (.i2l, 1) := by decide +kernel
theorem d_Layout_reaches_87 : decode m_Layout_reaches.2.1 87 = .ok (.lmul, 1) := by decide +kernel
theorem d_Layout_reaches_88 : decode m_Layout_reaches.2.1 88 = .ok (.iload 4, 2) := by decide +kernel
theorem d_Layout_reaches_90 : decode m_Layout_reaches.2.1 90 = .ok (.i2l, 1) := by decide +kernel
theorem d_Layout_reaches_91 : decode m_Layout_reaches.2.1 91 = .ok (.lmul, 1) := by decide +kernel
theorem d_Layout_reaches_92 : decode m_Layout_reaches.2.1 92 = .ok (.lcmp, 1) := by decide +kernel
theorem d_Layout_reaches_93 : decode m_Layout_reaches.2.1 93 = .ok (.ifCond .gt 31, 3) := by decide +kernel
theorem d_Layout_reaches_96 : decode m_Layout_reaches.2.1 96 = .ok (.lload 7, 2) := by decide +kernel
theorem d_Layout_reaches_98 : decode m_Layout_reaches.2.1 98 = .ok (.aload_n 0, 1) := by decide +kernel
theorem d_Layout_reaches_99 : decode m_Layout_reaches.2.1 99 = .ok (.getfield 21, 3) := by decide +kernel
theorem d_Layout_reaches_102 : decode m_Layout_reaches.2.1 102 = .ok (.iload_n 1, 1) := by decide +kernel
theorem d_Layout_reaches_103 : decode m_Layout_reaches.2.1 103 = .ok (.laload, 1) := by decide +kernel
theorem d_Layout_reaches_104 : decode m_Layout_reaches.2.1 104 = .ok (.aload_n 0, 1) := by decide +kernel
theorem d_Layout_reaches_105 : decode m_Layout_reaches.2.1 105 = .ok (.getfield 18, 3) := by decide +kernel
theorem d_Layout_reaches_108 : decode m_Layout_reaches.2.1 108 = .ok (.iload_n 1, 1) := by decide +kernel
theorem d_Layout_reaches_109 : decode m_Layout_reaches.2.1 109 = .ok (.iaload, 1) := by decide +kernel
theorem d_Layout_reaches_110 : decode m_Layout_reaches.2.1 110 = .ok (.i2l, 1) := by decide +kernel
theorem d_Layout_reaches_111 : decode m_Layout_reaches.2.1 111 = .ok (.lmul, 1) := by decide +kernel
theorem d_Layout_reaches_112 : decode m_Layout_reaches.2.1 112 = .ok (.iload 4, 2) := by decide +kernel
theorem d_Layout_reaches_114 : decode m_Layout_reaches.2.1 114 = .ok (.i2l, 1) := by decide +kernel
theorem d_Layout_reaches_115 : decode m_Layout_reaches.2.1 115 = .ok (.lmul, 1) := by decide +kernel
theorem d_Layout_reaches_116 : decode m_Layout_reaches.2.1 116 = .ok (.lcmp, 1) := by decide +kernel
theorem d_Layout_reaches_117 : decode m_Layout_reaches.2.1 117 = .ok (.ifCond .gt 7, 3) := by decide +kernel
theorem d_Layout_reaches_120 : decode m_Layout_reaches.2.1 120 = .ok (.iconst 1, 1) := by decide +kernel
theorem d_Layout_reaches_121 : decode m_Layout_reaches.2.1 121 = .ok (.goto 4, 3) := by decide +kernel
theorem d_Layout_reaches_124 : decode m_Layout_reaches.2.1 124 = .ok (.iconst 0, 1) := by decide +kernel
theorem d_Layout_reaches_125 : decode m_Layout_reaches.2.1 125 = .ok (.ireturn, 1) := by decide +kernel
theorem b_Layout_reaches_0 {E : EV} {d : Nat} {Q : Option AV → St → Prop} {σ : St} (x1 x2 x3 x4 : Int) (hF : Fix σ) (h : (rI x1) ∧ ((x1 < 0 → Q (some (aI 0)) σ) ∧ (¬ x1 < 0 → (rI x1) ∧ (rI (σ.1 23 7)) ∧ ((x1 < (σ.1 23 7) → (0 ≤ x1 ∧ x1 < 24) ∧ (rI x2) ∧ (0 ≤ x1 ∧ x1 < 24) ∧ (rI x4) ∧ (rL (((2 * (σ.1 28 x1)) * x2) - ((σ.1 29 x1) * x4))) ∧ (0 ≤ x1 ∧ x1 < 24) ∧ (rI x3) ∧ (0 ≤ x1 ∧ x1 < 24) ∧ (rI x4) ∧ (rL (((2 * (σ.1 28 x1)) * x3) - ((σ.1 30 x1) * x4))) ∧ (0 ≤ x1 ∧ x1 < 24) ∧ (0 ≤ x1 ∧ x1 < 24) ∧ (rI (σ.1 25 x1)) ∧ (rI x4) ∧ (rL (max (((2 * (σ.1 28 x1)) * x2) - ((σ.1 29 x1) * x4)) (-(((2 * (σ.1 28 x1)) * x2) - ((σ.1 29 x1) * x4))))) ∧ (rL (((σ.1 27 x1) * (σ.1 25 x1)) * x4)) ∧ (((((σ.1 27 x1) * (σ.1 25 x1)) * x4) < (max (((2 * (σ.1 28 x1)) * x2) - ((σ.1 29 x1) * x4)) (-(((2 * (σ.1 28 x1)) * x2) - ((σ.1 29 x1) * x4)))) → Q (some (aI 0)) σ) ∧ (¬ (((σ.1 27 x1) * (σ.1 25 x1)) * x4) < (max (((2 * (σ.1 28 x1)) * x2) - ((σ.1 29 x1) * x4)) (-(((2 * (σ.1 28 x1)) * x2) - ((σ.1 29 x1) * x4)))) → (0 ≤ x1 ∧ x1 < 24) ∧ (0 ≤ x1 ∧ x1 < 24) ∧ (rI (σ.1 26 x1)) ∧ (rI x4) ∧ (rL (max (((2 * (σ.1 28 x1)) * x3) - ((σ.1 30 x1) * x4)) (-(((2 * (σ.1 28 x1)) * x3) - ((σ.1 30 x1) * x4))))) ∧ (rL (((σ.1 27 x1) * (σ.1 26 x1)) * x4)) ∧ (((((σ.1 27 x1) * (σ.1 26 x1)) * x4) < (max (((2 * (σ.1 28 x1)) * x3) - ((σ.1 30 x1) * x4)) (-(((2 * (σ.1 28 x1)) * x3) - ((σ.1 30 x1) * x4)))) → Q (some (aI 0)) σ) ∧ (¬ (((σ.1 27 x1) * (σ.1 26 x1)) * x4) < (max (((2 * (σ.1 28 x1)) * x3) - ((σ.1 30 x1) * x4)) (-(((2 * (σ.1 28 x1)) * x3) - ((σ.1 30 x1) * x4)))) → Q (some (aI 1)) σ))))) ∧ (¬ x1 < (σ.1 23 7) → Q (some (aI 0)) σ))))) : WP E m_Layout_reaches (d + 1) 0 [(0, aP 23), (1, aI x1), (2, aI x2), (3, aI x3), (4, aI x4)] [] σ Q := by
  refine s_iload_n 1 d_Layout_reaches_0 rfl rfl ?_
  obtain ⟨g1, h⟩ := h
  refine s_if_lt d_Layout_reaches_1 rfl g1 (fun c => ?_) (fun c => ?_)
  · have h := h.1 c
    refine s_iconst d_Layout_reaches_12 ?_
    exact s_zreturn d_Layout_reaches_13 rfl (by decide) h
  · have h := h.2 c
    refine s_iload_n 1 d_Layout_reaches_4 rfl rfl ?_
    refine s_aload_n 0 d_Layout_reaches_5 rfl rfl ?_
    refine s_getF (v := σ.1 23 7) d_Layout_reaches_6 fl_Layout_34 rfl (sf_23 hF) rfl ?_
    obtain ⟨g2, h⟩ := h
    obtain ⟨g3, h⟩ := h
    refine s_icmp_lt d_Layout_reaches_9 rfl g2 g3 (fun c => ?_) (fun c => ?_)
    · have h := h.1 c
      refine s_ldc2 (v := 2) d_Layout_reaches_14 ll_Layout_107 (by decide) ?_
      refine s_aload_n 0 d_Layout_reaches_17 rfl rfl ?_
      refine s_getF (v := 28) d_Layout_reaches_18 fl_Layout_25 rfl (sf_23 hF) (ff_16 hF) ?_
      refine s_iload_n 1 d_Layout_reaches_21 rfl rfl ?_
      obtain ⟨g4, h⟩ := h
      refine s_laloadv (v := σ.1 28 x1) d_Layout_reaches_22 ⟨_, sf_28 hF, g4.1, g4.2, by have := g4.2; omega⟩ rfl ?_
      refine s_lmul d_Layout_reaches_23 ?_
      refine s_iload_n 2 d_Layout_reaches_24 rfl rfl ?_
      obtain ⟨g5, h⟩ := h
      refine s_i2l d_Layout_reaches_25 g5 ?_
      refine s_lmul d_Layout_reaches_26 ?_
      refine s_aload_n 0 d_Layout_reaches_27 rfl rfl ?_
      refine s_getF (v := 29) d_Layout_reaches_28 fl_Layout_28 rfl (sf_23 hF) (ff_17 hF) ?_
      refine s_iload_n 1 d_Layout_reaches_31 rfl rfl ?_
      obtain ⟨g6, h⟩ := h
      refine s_laloadv (v := σ.1 29 x1) d_Layout_reaches_32 ⟨_, sf_29 hF, g6.1, g6.2, by have := g6.2; omega⟩ rfl ?_
      refine s_iload 4 d_Layout_reaches_33 rfl ?_
      obtain ⟨g7, h⟩ := h
      refine s_i2l d_Layout_reaches_35 g7 ?_
      refine s_lmul d_Layout_reaches_36 ?_
      refine s_lsub d_Layout_reaches_37 ?_
      obtain ⟨g8, h⟩ := h
      refine s_mabs d_Layout_reaches_38 lm_Layout_109 lm_abs_s lm_i lm_abs_c (Nat.le_of_ble_eq_true rfl) g8 ?_
      refine s_lstore d_Layout_reaches_41 (by decide) rfl ?_
      refine s_ldc2 (v := 2) d_Layout_reaches_43 ll_Layout_107 (by decide) ?_
      refine s_aload_n 1 d_Layout_reaches_46 rfl rfl ?_
      refine s_getF (v := 28) d_Layout_reaches_47 fl_Layout_25 rfl (sf_23 hF) (ff_16 hF) ?_
      refine s_iload_n 2 d_Layout_reaches_50 rfl rfl ?_
      obtain ⟨g9, h⟩ := h
      refine s_laloadv (v := σ.1 28 x1) d_Layout_reaches_51 ⟨_, sf_28 hF, g9.1, g9.2, by have := g9.2; omega⟩ rfl ?_
      refine s_lmul d_Layout_reaches_52 ?_
      refine s_iload_n 4 d_Layout_reaches_53 rfl rfl ?_
      obtain ⟨g10, h⟩ := h
      refine s_i2l d_Layout_reaches_54 g10 ?_
      refine s_lmul d_Layout_reaches_55 ?_
      refine s_aload_n 1 d_Layout_reaches_56 rfl rfl ?_
      refine s_getF (v := 30) d_Layout_reaches_57 fl_Layout_31 rfl (sf_23 hF) (ff_18 hF) ?_
      refine s_iload_n 2 d_Layout_reaches_60 rfl rfl ?_
      obtain ⟨g11, h⟩ := h
      refine s_laloadv (v := σ.1 30 x1) d_Layout_reaches_61 ⟨_, sf_30 hF, g11.1, g11.2, by have := g11.2; omega⟩ rfl ?_
      refine s_iload 5 d_Layout_reaches_62 rfl ?_
      obtain ⟨g12, h⟩ := h
      refine s_i2l d_Layout_reaches_64 g12 ?_
      refine s_lmul d_Layout_reaches_65 ?_
      refine s_lsub d_Layout_reaches_66 ?_
      obtain ⟨g13, h⟩ := h
      refine s_mabs d_Layout_reaches_67 lm_Layout_109 lm_abs_s lm_i lm_abs_c (Nat.le_of_ble_eq_true rfl) g13 ?_
      refine s_lstore d_Layout_reaches_70 (by decide) rfl ?_
      refine s_lload 1 d_Layout_reaches_72 rfl ?_
      refine s_aload_n 2 d_Layout_reaches_74 rfl rfl ?_
      refine s_getF (v := 27) d_Layout_reaches_75 fl_Layout_21 rfl (sf_23 hF) (ff_15 hF) ?_
      refine s_iload_n 3 d_Layout_reaches_78 rfl rfl ?_
      obtain ⟨g14, h⟩ := h
      refine s_laloadv (v := σ.1 27 x1) d_Layout_reaches_79 ⟨_, sf_27 hF, g14.1, g14.2, by have := g14.2; omega⟩ rfl ?_
      refine s_aload_n 2 d_Layout_reaches_80 rfl rfl ?_
      refine s_getF (v := 25) d_Layout_reaches_81 fl_Layout_15 rfl (sf_23 hF) (ff_13 hF) ?_
      refine s_iload_n 3 d_Layout_reaches_84 rfl rfl ?_
      obtain ⟨g15, h⟩ := h
      refine s_ialoadv (v := σ.1 25 x1) d_Layout_reaches_85 ⟨_, sf_25 hF, g15.1, g15.2, by have := g15.2; omega⟩ rfl ?_
      obtain ⟨g16, h⟩ := h
      refine s_i2l d_Layout_reaches_86 g16 ?_
      refine s_lmul d_Layout_reaches_87 ?_
      refine s_iload 6 d_Layout_reaches_88 rfl ?_
      obtain ⟨g17, h⟩ := h
      refine s_i2l d_Layout_reaches_90 g17 ?_
      refine s_lmul d_Layout_reaches_91 ?_
      obtain ⟨g18, h⟩ := h
      obtain ⟨g19, h⟩ := h
      refine s_lcmp d_Layout_reaches_92 g18 g19 ?_
      refine s_if_gt d_Layout_reaches_93 rfl (lcmp_r _ _) (fun c => ?_) (fun c => ?_)
      · have h := h.1 (lcmp_gt.mp c)
        refine s_iconst d_Layout_reaches_124 ?_
        exact s_zreturn d_Layout_reaches_125 rfl (by decide) h
      · have h := h.2 (nlcmp_gt c)
        refine s_lload 0 d_Layout_reaches_96 rfl ?_
        refine s_aload_n 2 d_Layout_reaches_98 rfl rfl ?_
        refine s_getF (v := 27) d_Layout_reaches_99 fl_Layout_21 rfl (sf_23 hF) (ff_15 hF) ?_
        refine s_iload_n 3 d_Layout_reaches_102 rfl rfl ?_
        obtain ⟨g20, h⟩ := h
        refine s_laloadv (v := σ.1 27 x1) d_Layout_reaches_103 ⟨_, sf_27 hF, g20.1, g20.2, by have := g20.2; omega⟩ rfl ?_
        refine s_aload_n 2 d_Layout_reaches_104 rfl rfl ?_
        refine s_getF (v := 26) d_Layout_reaches_105 fl_Layout_18 rfl (sf_23 hF) (ff_14 hF) ?_
        refine s_iload_n 3 d_Layout_reaches_108 rfl rfl ?_
        obtain ⟨g21, h⟩ := h
        refine s_ialoadv (v := σ.1 26 x1) d_Layout_reaches_109 ⟨_, sf_26 hF, g21.1, g21.2, by have := g21.2; omega⟩ rfl ?_
        obtain ⟨g22, h⟩ := h
        refine s_i2l d_Layout_reaches_110 g22 ?_
        refine s_lmul d_Layout_reaches_111 ?_
        refine s_iload 6 d_Layout_reaches_112 rfl ?_
        obtain ⟨g23, h⟩ := h
        refine s_i2l d_Layout_reaches_114 g23 ?_
        refine s_lmul d_Layout_reaches_115 ?_
        obtain ⟨g24, h⟩ := h
        obtain ⟨g25, h⟩ := h
        refine s_lcmp d_Layout_reaches_116 g24 g25 ?_
        refine s_if_gt d_Layout_reaches_117 rfl (lcmp_r _ _) (fun c => ?_) (fun c => ?_)
        · have h := h.1 (lcmp_gt.mp c)
          refine s_iconst d_Layout_reaches_124 ?_
          exact s_zreturn d_Layout_reaches_125 rfl (by decide) h
        · have h := h.2 (nlcmp_gt c)
          refine s_iconst d_Layout_reaches_120 ?_
          refine s_goto d_Layout_reaches_121 rfl ?_
          exact s_zreturn d_Layout_reaches_125 rfl (by decide) h
    · have h := h.2 c
      refine s_iconst d_Layout_reaches_12 ?_
      exact s_zreturn d_Layout_reaches_13 rfl (by decide) h
theorem e_Layout_reaches {E : EV} {d : Nat} {Q : Option AV → St → Prop} {σ : St} (x1 x2 x3 x4 : Int) (hF : Fix σ) (h : (rI x1) ∧ ((x1 < 0 → Q (some (aI 0)) σ) ∧ (¬ x1 < 0 → (rI x1) ∧ (rI (σ.1 23 7)) ∧ ((x1 < (σ.1 23 7) → (0 ≤ x1 ∧ x1 < 24) ∧ (rI x2) ∧ (0 ≤ x1 ∧ x1 < 24) ∧ (rI x4) ∧ (rL (((2 * (σ.1 28 x1)) * x2) - ((σ.1 29 x1) * x4))) ∧ (0 ≤ x1 ∧ x1 < 24) ∧ (rI x3) ∧ (0 ≤ x1 ∧ x1 < 24) ∧ (rI x4) ∧ (rL (((2 * (σ.1 28 x1)) * x3) - ((σ.1 30 x1) * x4))) ∧ (0 ≤ x1 ∧ x1 < 24) ∧ (0 ≤ x1 ∧ x1 < 24) ∧ (rI (σ.1 25 x1)) ∧ (rI x4) ∧ (rL (max (((2 * (σ.1 28 x1)) * x2) - ((σ.1 29 x1) * x4)) (-(((2 * (σ.1 28 x1)) * x2) - ((σ.1 29 x1) * x4))))) ∧ (rL (((σ.1 27 x1) * (σ.1 25 x1)) * x4)) ∧ (((((σ.1 27 x1) * (σ.1 25 x1)) * x4) < (max (((2 * (σ.1 28 x1)) * x2) - ((σ.1 29 x1) * x4)) (-(((2 * (σ.1 28 x1)) * x2) - ((σ.1 29 x1) * x4)))) → Q (some (aI 0)) σ) ∧ (¬ (((σ.1 27 x1) * (σ.1 25 x1)) * x4) < (max (((2 * (σ.1 28 x1)) * x2) - ((σ.1 29 x1) * x4)) (-(((2 * (σ.1 28 x1)) * x2) - ((σ.1 29 x1) * x4)))) → (0 ≤ x1 ∧ x1 < 24) ∧ (0 ≤ x1 ∧ x1 < 24) ∧ (rI (σ.1 26 x1)) ∧ (rI x4) ∧ (rL (max (((2 * (σ.1 28 x1)) * x3) - ((σ.1 30 x1) * x4)) (-(((2 * (σ.1 28 x1)) * x3) - ((σ.1 30 x1) * x4))))) ∧ (rL (((σ.1 27 x1) * (σ.1 26 x1)) * x4)) ∧ (((((σ.1 27 x1) * (σ.1 26 x1)) * x4) < (max (((2 * (σ.1 28 x1)) * x3) - ((σ.1 30 x1) * x4)) (-(((2 * (σ.1 28 x1)) * x3) - ((σ.1 30 x1) * x4)))) → Q (some (aI 0)) σ) ∧ (¬ (((σ.1 27 x1) * (σ.1 26 x1)) * x4) < (max (((2 * (σ.1 28 x1)) * x3) - ((σ.1 30 x1) * x4)) (-(((2 * (σ.1 28 x1)) * x3) - ((σ.1 30 x1) * x4)))) → Q (some (aI 1)) σ))))) ∧ (¬ x1 < (σ.1 23 7) → Q (some (aI 0)) σ))))) : WM E m_Layout_reaches (d + 1) [aP 23, aI x1, aI x2, aI x3, aI x4] σ Q := s_meth (by decide) (Nat.le_of_ble_eq_true rfl) rfl (b_Layout_reaches_0 x1 x2 x3 x4 hF h)
theorem d_Layout_smallestSigns_0 : decode m_Layout_smallestSigns.2.1 0 = .ok (.iconst 0, 1) := by decide +kernel
theorem d_Layout_smallestSigns_1 : decode m_Layout_smallestSigns.2.1 1 = .ok (.istore_n 2, 1) := by decide +kernel
theorem d_Layout_smallestSigns_2 : decode m_Layout_smallestSigns.2.1 2 = .ok (.iconst (-1), 1) := by decide +kernel
theorem d_Layout_smallestSigns_3 : decode m_Layout_smallestSigns.2.1 3 = .ok (.istore_n 3, 1) := by decide +kernel
theorem d_Layout_smallestSigns_4 : decode m_Layout_smallestSigns.2.1 4 = .ok (.iconst 0, 1) := by decide +kernel
theorem d_Layout_smallestSigns_5 : decode m_Layout_smallestSigns.2.1 5 = .ok (.istore 4, 2) := by decide +kernel
theorem d_Layout_smallestSigns_7 : decode m_Layout_smallestSigns.2.1 7 = .ok (.iload 4, 2) := by decide +kernel
theorem d_Layout_smallestSigns_9 : decode m_Layout_smallestSigns.2.1 9 = .ok (.aload_n 0, 1) := by decide +kernel
theorem d_Layout_smallestSigns_10 : decode m_Layout_smallestSigns.2.1 10 = .ok (.getfield 34, 3) := by decide +kernel
theorem d_Layout_smallestSigns_13 : decode m_Layout_smallestSigns.2.1 13 = .ok (.if_icmp .ge 65, 3) := by decide +kernel
theorem d_Layout_smallestSigns_16 : decode m_Layout_smallestSigns.2.1 16 = .ok (.aload_n 1, 1) := by decide +kernel
theorem d_Layout_smallestSigns_17 : decode m_Layout_smallestSigns.2.1 17 = .ok (.iload 4, 2) := by decide +kernel
theorem d_Layout_smallestSigns_19 : decode m_Layout_smallestSigns.2.1 19 = .ok (.invokevirtual 59, 3) := by decide +kernel
theorem d_Layout_smallestSigns_22 : decode m_Layout_smallestSigns.2.1 22 = .ok (.invokestatic 62, 3) := by decide +kernel
theorem d_Layout_smallestSigns_25 : decode m_Layout_smallestSigns.2.1 25 = .ok (.ifCond .eq 6, 3) := by decide +kernel
theorem d_Layout_smallestSigns_28 : decode m_Layout_smallestSigns.2.1 28 = .ok (.goto 44, 3) := by decide +kernel
theorem d_Layout_smallestSigns_31 : decode m_Layout_smallestSigns.2.1 31 = .ok (.iload_n 3, 1) := by decide +kernel
theorem d_Layout_smallestSigns_32 : decode m_Layout_smallestSigns.2.1 32 = .ok (.iconst (-1), 1) := by decide +kernel
theorem d_Layout_smallestSigns_33 : decode m_Layout_smallestSigns.2.1 33 = .ok (.if_icmp .ne 7, 3) := by decide +kernel
theorem d_Layout_smallestSigns_36 : decode m_Layout_smallestSigns.2.1 36 = .ok (.iconst (-1), 1) := by decide +kernel
theorem d_Layout_smallestSigns_37 : decode m_Layout_smallestSigns.2.1 37 = .ok (.goto 10, 3) := by decide +kernel
theorem d_Layout_smallestSigns_40 : decode m_Layout_smallestSigns.2.1 40 = .ok (.aload_n 0, 1) := by decide +kernel
theorem d_Layout_smallestSigns_41 : decode m_Layout_smallestSigns.2.1 41 = .ok (.iload 4, 2) := by decide +kernel
theorem d_Layout_smallestSigns_43 : decode m_Layout_smallestSigns.2.1 43 = .ok (.iload_n 3, 1) := by decide +kernel
theorem d_Layout_smallestSigns_44 : decode m_Layout_smallestSigns.2.1 44 = .ok (.invokevirtual 113, 3) := by decide +kernel
theorem d_Layout_smallestSigns_47 : decode m_Layout_smallestSigns.2.1 47 = .ok (.istore 5, 2) := by decide +kernel
theorem d_Layout_smallestSigns_49 : decode m_Layout_smallestSigns.2.1 49 = .ok (.iload 5, 2) := by decide +kernel
theorem d_Layout_smallestSigns_51 : decode m_Layout_smallestSigns.2.1 51 = .ok (.ifCond .ge 8, 3) := by decide +kernel
theorem d_Layout_smallestSigns_54 : decode m_Layout_smallestSigns.2.1 54 = .ok (.iload 4, 2) := by decide +kernel
theorem d_Layout_smallestSigns_56 : decode m_Layout_smallestSigns.2.1 56 = .ok (.istore_n 3, 1) := by decide +kernel
theorem d_Layout_smallestSigns_57 : decode m_Layout_smallestSigns.2.1 57 = .ok (.iconst 0, 1) := by decide +kernel
theorem d_Layout_smallestSigns_58 : decode m_Layout_smallestSigns.2.1 58 = .ok (.istore_n 2, 1) := by decide +kernel
theorem d_Layout_smallestSigns_59 : decode m_Layout_smallestSigns.2.1 59 = .ok (.iload_n 2, 1) := by decide +kernel
theorem d_Layout_smallestSigns_60 : decode m_Layout_smallestSigns.2.1 60 = .ok (.iload 5, 2) := by decide +kernel
theorem d_Layout_smallestSigns_62 : decode m_Layout_smallestSigns.2.1 62 = .ok (.ifCond .gt 7, 3) := by decide +kernel
theorem d_Layout_smallestSigns_65 : decode m_Layout_smallestSigns.2.1 65 = .ok (.iconst 1, 1) := by decide +kernel
theorem d_Layout_smallestSigns_66 : decode m_Layout_smallestSigns.2.1 66 = .ok (.goto 4, 3) := by decide +kernel
theorem d_Layout_smallestSigns_69 : decode m_Layout_smallestSigns.2.1 69 = .ok (.iconst 0, 1) := by decide +kernel
theorem d_Layout_smallestSigns_70 : decode m_Layout_smallestSigns.2.1 70 = .ok (.iadd, 1) := by decide +kernel
theorem d_Layout_smallestSigns_71 : decode m_Layout_smallestSigns.2.1 71 = .ok (.istore_n 2, 1) := by decide +kernel
theorem d_Layout_smallestSigns_72 : decode m_Layout_smallestSigns.2.1 72 = .ok (.iinc 4 1, 3) := by decide +kernel
theorem d_Layout_smallestSigns_75 : decode m_Layout_smallestSigns.2.1 75 = .ok (.goto (-68), 3) := by decide +kernel
theorem d_Layout_smallestSigns_78 : decode m_Layout_smallestSigns.2.1 78 = .ok (.iload_n 2, 1) := by decide +kernel
theorem d_Layout_smallestSigns_79 : decode m_Layout_smallestSigns.2.1 79 = .ok (.ireturn, 1) := by decide +kernel
theorem b_Layout_smallestSigns_0 {E : EV} {d : Nat} {Q : Option AV → St → Prop} {σ : St} (x1 : Int) (h : WP E m_Layout_smallestSigns (d + 1) 7 [(0, aP 23), (1, aP x1), (2, aI 0), (3, aI (-1)), (4, aI 0)] [] σ Q) : WP E m_Layout_smallestSigns (d + 1) 0 [(0, aP 23), (1, aP x1)] [] σ Q := by
  refine s_iconst d_Layout_smallestSigns_0 ?_
  refine s_istore_n d_Layout_smallestSigns_1 rfl (by decide) rfl ?_
  refine s_iconst d_Layout_smallestSigns_2 ?_
  refine s_istore_n d_Layout_smallestSigns_3 rfl (by decide) rfl ?_
  refine s_iconst d_Layout_smallestSigns_4 ?_
  refine s_istore d_Layout_smallestSigns_5 (by decide) rfl ?_
  refine wp_drop [3, 4, 2, 1, 0] rfl ?_
  exact h
theorem e_Layout_smallestSigns {E : EV} {d : Nat} {Q : Option AV → St → Prop} {σ : St} (x1 : Int) (h : WP E m_Layout_smallestSigns (d + 1) 7 [(0, aP 23), (1, aP x1), (2, aI 0), (3, aI (-1)), (4, aI 0)] [] σ Q) : WM E m_Layout_smallestSigns (d + 1) [aP 23, aP x1] σ Q := s_meth (by decide) (Nat.le_of_ble_eq_true rfl) rfl (b_Layout_smallestSigns_0 x1 h)
theorem b_Layout_smallestSigns_7 {E : EV} {d : Nat} {Q : Option AV → St → Prop} {σ : St} (x1 x2 x3 x4 : Int) (hF : Fix σ) (h : (rI x4) ∧ (rI (σ.1 23 7)) ∧ (((σ.1 23 7) ≤ x4 → Q (some (aI x2)) σ) ∧ (¬ (σ.1 23 7) ≤ x4 → (sh σ x1 = some (7, 1)) ∧ (WMi E m_Sq_symbol d [aP x1, aI x4] σ (fun v3 σ3 => Fix σ3 ∧ (WMi E m_S_isJoint d [aI v3] σ3 (fun v5 σ5 => Fix σ5 ∧ (rI v5) ∧ ((v5 = 0 → (rI x3) ∧ ((¬ x3 = (-1) → (WMi E m_Layout_compareScales d [aP 23, aI x4, aI x3] σ5 (fun v8 σ8 => WP E m_Layout_smallestSigns (d + 1) 47 [(0, aP 23), (1, aP x1), (2, aI x2), (3, aI x3), (4, aI x4)] [aI v8] σ8 Q))) ∧ (x3 = (-1) → WP E m_Layout_smallestSigns (d + 1) 47 [(0, aP 23), (1, aP x1), (2, aI x2), (3, aI x3), (4, aI x4)] [aI (-1)] σ5 Q))) ∧ (¬ v5 = 0 → WP E m_Layout_smallestSigns (d + 1) 72 [(0, aP 23), (1, aP x1), (2, aI x2), (3, aI x3), (4, aI x4)] [] σ5 Q))))))))) : WP E m_Layout_smallestSigns (d + 1) 7 [(0, aP 23), (1, aP x1), (2, aI x2), (3, aI x3), (4, aI x4)] [] σ Q := by
  refine s_iload 4 d_Layout_smallestSigns_7 rfl ?_
  refine s_aload_n 0 d_Layout_smallestSigns_9 rfl rfl ?_
  refine s_getF (v := σ.1 23 7) d_Layout_smallestSigns_10 fl_Layout_34 rfl (sf_23 hF) rfl ?_
  obtain ⟨g1, h⟩ := h
  obtain ⟨g2, h⟩ := h
  refine s_icmp_ge d_Layout_smallestSigns_13 rfl g1 g2 (fun c => ?_) (fun c => ?_)
  · have h := h.1 c
    refine s_iload_n 2 d_Layout_smallestSigns_78 rfl rfl ?_
    exact s_ireturn d_Layout_smallestSigns_79 rfl h
  · have h := h.2 c
    refine s_aload_n 1 d_Layout_smallestSigns_16 rfl rfl ?_
    refine s_iload 4 d_Layout_smallestSigns_17 rfl ?_
    obtain ⟨g4, h⟩ := h
    refine s_callV (as := [aI x4]) (ci := 7) d_Layout_smallestSigns_19 ok_Sq_symbol lk_Layout_59 io_Sq_symbol so_Sq_symbol (by decide) rfl rfl rfl (Nat.le_of_ble_eq_true rfl) rfl g4 (WM.mono h ?_)
    rintro _ σ3 ⟨v3, rfl, hp, h⟩
    obtain ⟨hF4, h⟩ := h
    show WP E m_Layout_smallestSigns (d + 1) 22 [(0, aP 23), (1, aP x1), (2, aI x2), (3, aI x3), (4, aI x4)] [aI v3] σ3 Q
    refine s_callS (as := [aI v3]) d_Layout_smallestSigns_22 ok_S_isJoint lk_Layout_62 to_S_isJoint rfl (Nat.le_of_ble_eq_true rfl) rfl (WM.mono h ?_)
    rintro _ σ5 ⟨v5, rfl, hp, h⟩
    obtain ⟨hF5, h⟩ := h
    show WP E m_Layout_smallestSigns (d + 1) 25 [(0, aP 23), (1, aP x1), (2, aI x2), (3, aI x3), (4, aI x4)] [aI v5] σ5 Q
    obtain ⟨g6, h⟩ := h
    refine s_if_eq d_Layout_smallestSigns_25 rfl g6 (fun c => ?_) (fun c => ?_)
    · have h := h.1 c
      refine s_iload_n 3 d_Layout_smallestSigns_31 rfl rfl ?_
      refine s_iconst d_Layout_smallestSigns_32 ?_
      obtain ⟨g7, h⟩ := h
      refine s_icmp_ne d_Layout_smallestSigns_33 rfl g7 (by decide) (fun c => ?_) (fun c => ?_)
      · have h := h.1 c
        refine s_aload_n 0 d_Layout_smallestSigns_40 rfl rfl ?_
        refine s_iload 4 d_Layout_smallestSigns_41 rfl ?_
        refine s_iload_n 3 d_Layout_smallestSigns_43 rfl rfl ?_
        refine s_callV (as := [aI x4, aI x3]) (ci := 2) d_Layout_smallestSigns_44 ok_Layout_compareScales lk_Layout_113 io_Layout_compareScales so_Layout_compareScales (by decide) rfl rfl rfl (Nat.le_of_ble_eq_true rfl) rfl (sf_23 hF5) (WM.mono h ?_)
        rintro _ σ8 ⟨v8, rfl, hp, h⟩
        show WP E m_Layout_smallestSigns (d + 1) 47 [(0, aP 23), (1, aP x1), (2, aI x2), (3, aI x3), (4, aI x4)] [aI v8] σ8 Q
        exact h
      · have h := h.2 c
        refine s_iconst d_Layout_smallestSigns_36 ?_
        refine s_goto d_Layout_smallestSigns_37 rfl ?_
        exact h
    · have h := h.2 c
      refine s_goto d_Layout_smallestSigns_28 rfl ?_
      exact h
theorem b_Layout_smallestSigns_47 {E : EV} {d : Nat} {Q : Option AV → St → Prop} {σ : St} (x1 x2 x3 x4 s0 : Int) (h : (rI s0) ∧ ((0 ≤ s0 → WP E m_Layout_smallestSigns (d + 1) 59 [(0, aP 23), (1, aP x1), (2, aI x2), (3, aI x3), (4, aI x4), (5, aI s0)] [] σ Q) ∧ (¬ 0 ≤ s0 → WP E m_Layout_smallestSigns (d + 1) 59 [(0, aP 23), (1, aP x1), (2, aI 0), (3, aI x4), (4, aI x4), (5, aI s0)] [] σ Q))) : WP E m_Layout_smallestSigns (d + 1) 47 [(0, aP 23), (1, aP x1), (2, aI x2), (3, aI x3), (4, aI x4)] [aI s0] σ Q := by
  refine s_istore d_Layout_smallestSigns_47 (by decide) rfl ?_
  refine s_iload 0 d_Layout_smallestSigns_49 rfl ?_
  obtain ⟨g1, h⟩ := h
  refine s_if_ge d_Layout_smallestSigns_51 rfl g1 (fun c => ?_) (fun c => ?_)
  · have h := h.1 c
    refine wp_drop [1, 2, 3, 4, 5, 0] rfl ?_
    exact h
  · have h := h.2 c
    refine s_iload 5 d_Layout_smallestSigns_54 rfl ?_
    refine s_istore_n d_Layout_smallestSigns_56 rfl (by decide) rfl ?_
    refine s_iconst d_Layout_smallestSigns_57 ?_
    refine s_istore_n d_Layout_smallestSigns_58 rfl (by decide) rfl ?_
    refine wp_drop [3, 4, 0, 1, 5, 2] rfl ?_
    exact h
theorem b_Layout_smallestSigns_59 {E : EV} {d : Nat} {Q : Option AV → St → Prop} {σ : St} (x1 x2 x3 x4 x5 : Int) (h : (rI x5) ∧ ((0 < x5 → WP E m_Layout_smallestSigns (d + 1) 70 [(0, aP 23), (1, aP x1), (3, aI x3), (4, aI x4)] [aI 0, aI x2] σ Q) ∧ (¬ 0 < x5 → WP E m_Layout_smallestSigns (d + 1) 70 [(0, aP 23), (1, aP x1), (3, aI x3), (4, aI x4)] [aI 1, aI x2] σ Q))) : WP E m_Layout_smallestSigns (d + 1) 59 [(0, aP 23), (1, aP x1), (2, aI x2), (3, aI x3), (4, aI x4), (5, aI x5)] [] σ Q := by
  refine s_iload_n 2 d_Layout_smallestSigns_59 rfl rfl ?_
  refine s_iload 5 d_Layout_smallestSigns_60 rfl ?_
  obtain ⟨g1, h⟩ := h
  refine s_if_gt d_Layout_smallestSigns_62 rfl g1 (fun c => ?_) (fun c => ?_)
  · have h := h.1 c
    refine s_iconst d_Layout_smallestSigns_69 ?_
    refine wp_drop [0, 1, 3, 4] rfl ?_
    exact h
  · have h := h.2 c
    refine s_iconst d_Layout_smallestSigns_65 ?_
    refine s_goto d_Layout_smallestSigns_66 rfl ?_
    refine wp_drop [0, 1, 3, 4] rfl ?_
    exact h
theorem b_Layout_smallestSigns_70 {E : EV} {d : Nat} {Q : Option AV → St → Prop} {σ : St} (x1 x3 x4 s0 s1 : Int) (h : WP E m_Layout_smallestSigns (d + 1) 72 [(0, aP 23), (1, aP x1), (2, aI (s0 + s1)), (3, aI x3), (4, aI x4)] [] σ Q) : WP E m_Layout_smallestSigns (d + 1) 70 [(0, aP 23), (1, aP x1), (3, aI x3), (4, aI x4)] [aI s1, aI s0] σ Q := by
  refine s_iadd d_Layout_smallestSigns_70 ?_
  refine s_istore_n d_Layout_smallestSigns_71 rfl (by decide) rfl ?_
  refine wp_drop [1, 2, 0, 3, 4] rfl ?_
  exact h
theorem b_Layout_smallestSigns_72 {E : EV} {d : Nat} {Q : Option AV → St → Prop} {σ : St} (x1 x2 x3 x4 : Int) (h : WP E m_Layout_smallestSigns (d + 1) 7 [(0, aP 23), (1, aP x1), (2, aI x2), (3, aI x3), (4, aI (x4 + 1))] [] σ Q) : WP E m_Layout_smallestSigns (d + 1) 72 [(0, aP 23), (1, aP x1), (2, aI x2), (3, aI x3), (4, aI x4)] [] σ Q := by
  refine s_iinc 4 d_Layout_smallestSigns_72 rfl (by decide) rfl ?_
  refine s_goto d_Layout_smallestSigns_75 rfl ?_
  refine wp_drop [1, 2, 3, 4, 0] rfl ?_
  exact h
theorem d_Layout_compareScales_0 : decode m_Layout_compareScales.2.1 0 = .ok (.iload_n 1, 1) := by decide +kernel
theorem d_Layout_compareScales_1 : decode m_Layout_compareScales.2.1 1 = .ok (.ifCond .lt 23, 3) := by decide +kernel
theorem d_Layout_compareScales_4 : decode m_Layout_compareScales.2.1 4 = .ok (.iload_n 1, 1) := by decide +kernel
theorem d_Layout_compareScales_5 : decode m_Layout_compareScales.2.1 5 = .ok (.aload_n 0, 1) := by decide +kernel
theorem d_Layout_compareScales_6 : decode m_Layout_compareScales.2.1 6 = .ok (.getfield 34, 3) := by decide +kernel
theorem d_Layout_compareScales_9 : decode m_Layout_compareScales.2.1 9 = .ok (.if_icmp .ge 15, 3) := by decide +kernel
theorem d_Layout_compareScales_12 : decode m_Layout_compareScales.2.1 12 = .ok (.iload_n 2, 1) := by decide +kernel
theorem d_Layout_compareScales_13 : decode m_Layout_compareScales.2.1 13 = .ok (.ifCond .lt 11, 3) := by decide +kernel
theorem d_Layout_compareScales_16 : decode m_Layout_compareScales.2.1 16 = .ok (.iload_n 2, 1) := by decide +kernel
theorem d_Layout_compareScales_17 : decode m_Layout_compareScales.2.1 17 = .ok (.aload_n 0, 1) := by decide +kernel
theorem d_Layout_compareScales_18 : decode m_Layout_compareScales.2.1 18 = .ok (.getfield 34, 3) := by decide +kernel
theorem d_Layout_compareScales_21 : decode m_Layout_compareScales.2.1 21 = .ok (.if_icmp .lt 5, 3) := by decide +kernel
theorem d_Layout_compareScales_24 : decode m_Layout_compareScales.2.1 24 = .ok (.iconst 0, 1) := by decide +kernel
theorem d_Layout_compareScales_25 : decode m_Layout_compareScales.2.1 25 = .ok (.ireturn, 1) := by decide +kernel
theorem d_Layout_compareScales_26 : decode m_Layout_compareScales.2.1 26 = .ok (.aload_n 0, 1) := by decide +kernel
theorem d_Layout_compareScales_27 : decode m_Layout_compareScales.2.1 27 = .ok (.getfield 21, 3) := by decide +kernel
theorem d_Layout_compareScales_30 : decode m_Layout_compareScales.2.1 30 = .ok (.iload_n 1, 1) := by decide +kernel
theorem d_Layout_compareScales_31 : decode m_Layout_compareScales.2.1 31 = .ok (.laload, 1) := by decide +kernel
theorem d_Layout_compareScales_32 : decode m_Layout_compareScales.2.1 32 = .ok (.aload_n 0, 1) := by decide +kernel
theorem d_Layout_compareScales_33 : decode m_Layout_compareScales.2.1 33 = .ok (.getfield 25, 3) := by decide +kernel
theorem d_Layout_compareScales_36 : decode m_Layout_compareScales.2.1 36 = .ok (.iload_n 2, 1) := by decide +kernel
theorem d_Layout_compareScales_37 : decode m_Layout_compareScales.2.1 37 = .ok (.laload, 1) := by decide +kernel
theorem d_Layout_compareScales_38 : decode m_Layout_compareScales.2.1 38 = .ok (.lmul, 1) := by decide +kernel
theorem d_Layout_compareScales_39 : decode m_Layout_compareScales.2.1 39 = .ok (.aload_n 0, 1) := by decide +kernel
theorem d_Layout_compareScales_40 : decode m_Layout_compareScales.2.1 40 = .ok (.getfield 21, 3) := by decide +kernel
theorem d_Layout_compareScales_43 : decode m_Layout_compareScales.2.1 43 = .ok (.iload_n 2, 1) := by decide +kernel
theorem d_Layout_compareScales_44 : decode m_Layout_compareScales.2.1 44 = .ok (.laload, 1) := by decide +kernel
theorem d_Layout_compareScales_45 : decode m_Layout_compareScales.2.1 45 = .ok (.aload_n 0, 1) := by decide +kernel
theorem d_Layout_compareScales_46 : decode m_Layout_compareScales.2.1 46 = .ok (.getfield 25, 3) := by decide +kernel
theorem d_Layout_compareScales_49 : decode m_Layout_compareScales.2.1 49 = .ok (.iload_n 1, 1) := by decide +kernel
theorem d_Layout_compareScales_50 : decode m_Layout_compareScales.2.1 50 = .ok (.laload, 1) := by decide +kernel
theorem d_Layout_compareScales_51 : decode m_Layout_compareScales.2.1 51 = .ok (.lmul, 1) := by decide +kernel
theorem d_Layout_compareScales_52 : decode m_Layout_compareScales.2.1 52 = .ok (.invokestatic 116, 3) := by decide +kernel
theorem d_Layout_compareScales_55 : decode m_Layout_compareScales.2.1 55 = .ok (.ireturn, 1) := by decide +kernel
theorem b_Layout_compareScales_0 {E : EV} {d : Nat} {Q : Option AV → St → Prop} {σ : St} (x1 x2 : Int) (hF : Fix σ) (h : (rI x1) ∧ ((x1 < 0 → Q (some (aI 0)) σ) ∧ (¬ x1 < 0 → (rI x1) ∧ (rI (σ.1 23 7)) ∧ (((σ.1 23 7) ≤ x1 → Q (some (aI 0)) σ) ∧ (¬ (σ.1 23 7) ≤ x1 → (rI x2) ∧ ((x2 < 0 → Q (some (aI 0)) σ) ∧ (¬ x2 < 0 → (rI x2) ∧ (rI (σ.1 23 7)) ∧ ((x2 < (σ.1 23 7) → (0 ≤ x1 ∧ x1 < 24) ∧ (0 ≤ x2 ∧ x2 < 24) ∧ (0 ≤ x2 ∧ x2 < 24) ∧ (0 ≤ x1 ∧ x1 < 24) ∧ (WMi E m_Long_compare d [aL ((σ.1 27 x1) * (σ.1 28 x2)), aL ((σ.1 27 x2) * (σ.1 28 x1))] σ (fun v11 σ11 => Q (some (aI v11)) σ11))) ∧ (¬ x2 < (σ.1 23 7) → Q (some (aI 0)) σ))))))))) : WP E m_Layout_compareScales (d + 1) 0 [(0, aP 23), (1, aI x1), (2, aI x2)] [] σ Q := by
  refine s_iload_n 1 d_Layout_compareScales_0 rfl rfl ?_
  obtain ⟨g1, h⟩ := h
  refine s_if_lt d_Layout_compareScales_1 rfl g1 (fun c => ?_) (fun c => ?_)
  · have h := h.1 c
    refine s_iconst d_Layout_compareScales_24 ?_
    exact s_ireturn d_Layout_compareScales_25 rfl h
  · have h := h.2 c
    refine s_iload_n 1 d_Layout_compareScales_4 rfl rfl ?_
    refine s_aload_n 0 d_Layout_compareScales_5 rfl rfl ?_
    refine s_getF (v := σ.1 23 7) d_Layout_compareScales_6 fl_Layout_34 rfl (sf_23 hF) rfl ?_
    obtain ⟨g2, h⟩ := h
    obtain ⟨g3, h⟩ := h
    refine s_icmp_ge d_Layout_compareScales_9 rfl g2 g3 (fun c => ?_) (fun c => ?_)
    · have h := h.1 c
      refine s_iconst d_Layout_compareScales_24 ?_
      exact s_ireturn d_Layout_compareScales_25 rfl h
    · have h := h.2 c
      refine s_iload_n 2 d_Layout_compareScales_12 rfl rfl ?_
      obtain ⟨g4, h⟩ := h
      refine s_if_lt d_Layout_compareScales_13 rfl g4 (fun c => ?_) (fun c => ?_)
      · have h := h.1 c
        refine s_iconst d_Layout_compareScales_24 ?_
        exact s_ireturn d_Layout_compareScales_25 rfl h
      · have h := h.2 c
        refine s_iload_n 2 d_Layout_compareScales_16 rfl rfl ?_
        refine s_aload_n 0 d_Layout_compareScales_17 rfl rfl ?_
        refine s_getF (v := σ.1 23 7) d_Layout_compareScales_18 fl_Layout_34 rfl (sf_23 hF) rfl ?_
        obtain ⟨g5, h⟩ := h
        obtain ⟨g6, h⟩ := h
        refine s_icmp_lt d_Layout_compareScales_21 rfl g5 g6 (fun c => ?_) (fun c => ?_)
        · have h := h.1 c
          refine s_aload_n 0 d_Layout_compareScales_26 rfl rfl ?_
          refine s_getF (v := 27) d_Layout_compareScales_27 fl_Layout_21 rfl (sf_23 hF) (ff_15 hF) ?_
          refine s_iload_n 1 d_Layout_compareScales_30 rfl rfl ?_
          obtain ⟨g7, h⟩ := h
          refine s_laloadv (v := σ.1 27 x1) d_Layout_compareScales_31 ⟨_, sf_27 hF, g7.1, g7.2, by have := g7.2; omega⟩ rfl ?_
          refine s_aload_n 0 d_Layout_compareScales_32 rfl rfl ?_
          refine s_getF (v := 28) d_Layout_compareScales_33 fl_Layout_25 rfl (sf_23 hF) (ff_16 hF) ?_
          refine s_iload_n 2 d_Layout_compareScales_36 rfl rfl ?_
          obtain ⟨g8, h⟩ := h
          refine s_laloadv (v := σ.1 28 x2) d_Layout_compareScales_37 ⟨_, sf_28 hF, g8.1, g8.2, by have := g8.2; omega⟩ rfl ?_
          refine s_lmul d_Layout_compareScales_38 ?_
          refine s_aload_n 0 d_Layout_compareScales_39 rfl rfl ?_
          refine s_getF (v := 27) d_Layout_compareScales_40 fl_Layout_21 rfl (sf_23 hF) (ff_15 hF) ?_
          refine s_iload_n 2 d_Layout_compareScales_43 rfl rfl ?_
          obtain ⟨g9, h⟩ := h
          refine s_laloadv (v := σ.1 27 x2) d_Layout_compareScales_44 ⟨_, sf_27 hF, g9.1, g9.2, by have := g9.2; omega⟩ rfl ?_
          refine s_aload_n 0 d_Layout_compareScales_45 rfl rfl ?_
          refine s_getF (v := 28) d_Layout_compareScales_46 fl_Layout_25 rfl (sf_23 hF) (ff_16 hF) ?_
          refine s_iload_n 1 d_Layout_compareScales_49 rfl rfl ?_
          obtain ⟨g10, h⟩ := h
          refine s_laloadv (v := σ.1 28 x1) d_Layout_compareScales_50 ⟨_, sf_28 hF, g10.1, g10.2, by have := g10.2; omega⟩ rfl ?_
          refine s_lmul d_Layout_compareScales_51 ?_
          refine s_callS (as := [aL ((σ.1 27 x1) * (σ.1 28 x2)), aL ((σ.1 27 x2) * (σ.1 28 x1))]) d_Layout_compareScales_52 ok_Long_compare lk_Layout_116 to_Long_compare rfl (Nat.le_of_ble_eq_true rfl) rfl (WM.mono h ?_)
          rintro _ σ11 ⟨v11, rfl, hp, h⟩
          show WP E m_Layout_compareScales (d + 1) 55 [(0, aP 23), (1, aI x1), (2, aI x2)] [aI v11] σ11 Q
          exact s_ireturn d_Layout_compareScales_55 rfl h
        · have h := h.2 c
          refine s_iconst d_Layout_compareScales_24 ?_
          exact s_ireturn d_Layout_compareScales_25 rfl h
theorem e_Layout_compareScales {E : EV} {d : Nat} {Q : Option AV → St → Prop} {σ : St} (x1 x2 : Int) (hF : Fix σ) (h : (rI x1) ∧ ((x1 < 0 → Q (some (aI 0)) σ) ∧ (¬ x1 < 0 → (rI x1) ∧ (rI (σ.1 23 7)) ∧ (((σ.1 23 7) ≤ x1 → Q (some (aI 0)) σ) ∧ (¬ (σ.1 23 7) ≤ x1 → (rI x2) ∧ ((x2 < 0 → Q (some (aI 0)) σ) ∧ (¬ x2 < 0 → (rI x2) ∧ (rI (σ.1 23 7)) ∧ ((x2 < (σ.1 23 7) → (0 ≤ x1 ∧ x1 < 24) ∧ (0 ≤ x2 ∧ x2 < 24) ∧ (0 ≤ x2 ∧ x2 < 24) ∧ (0 ≤ x1 ∧ x1 < 24) ∧ (WMi E m_Long_compare d [aL ((σ.1 27 x1) * (σ.1 28 x2)), aL ((σ.1 27 x2) * (σ.1 28 x1))] σ (fun v11 σ11 => Q (some (aI v11)) σ11))) ∧ (¬ x2 < (σ.1 23 7) → Q (some (aI 0)) σ))))))))) : WM E m_Layout_compareScales (d + 1) [aP 23, aI x1, aI x2] σ Q := s_meth (by decide) (Nat.le_of_ble_eq_true rfl) rfl (b_Layout_compareScales_0 x1 x2 hF h)
