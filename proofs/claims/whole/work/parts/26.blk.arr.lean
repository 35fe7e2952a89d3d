theorem d_Arranger_init_0 : decode m_Arranger_init.2.1 0 = .ok (.aload_n 0, 1) := by decide +kernel
theorem d_Arranger_init_1 : decode m_Arranger_init.2.1 1 = .ok (.invokespecial 3, 3) := by decide +kernel
theorem d_Arranger_init_4 : decode m_Arranger_init.2.1 4 = .ok (.aload_n 0, 1) := by decide +kernel
theorem d_Arranger_init_5 : decode m_Arranger_init.2.1 5 = .ok (.sipush 680, 3) := by decide +kernel
theorem d_Arranger_init_8 : decode m_Arranger_init.2.1 8 = .ok (.newarray .int, 2) := by decide +kernel
theorem d_Arranger_init_10 : decode m_Arranger_init.2.1 10 = .ok (.putfield 11, 3) := by decide +kernel
theorem d_Arranger_init_13 : decode m_Arranger_init.2.1 13 = .ok (.aload_n 0, 1) := by decide +kernel
theorem d_Arranger_init_14 : decode m_Arranger_init.2.1 14 = .ok (.sipush 680, 3) := by decide +kernel
theorem d_Arranger_init_17 : decode m_Arranger_init.2.1 17 = .ok (.newarray .int, 2) := by decide +kernel
theorem d_Arranger_init_19 : decode m_Arranger_init.2.1 19 = .ok (.putfield 15, 3) := by decide +kernel
theorem d_Arranger_init_22 : decode m_Arranger_init.2.1 22 = .ok (.aload_n 0, 1) := by decide +kernel
theorem d_Arranger_init_23 : decode m_Arranger_init.2.1 23 = .ok (.sipush 680, 3) := by decide +kernel
theorem d_Arranger_init_26 : decode m_Arranger_init.2.1 26 = .ok (.newarray .int, 2) := by decide +kernel
theorem d_Arranger_init_28 : decode m_Arranger_init.2.1 28 = .ok (.putfield 18, 3) := by decide +kernel
theorem d_Arranger_init_31 : decode m_Arranger_init.2.1 31 = .ok (.aload_n 0, 1) := by decide +kernel
theorem d_Arranger_init_32 : decode m_Arranger_init.2.1 32 = .ok (.sipush 680, 3) := by decide +kernel
theorem d_Arranger_init_35 : decode m_Arranger_init.2.1 35 = .ok (.newarray .int, 2) := by decide +kernel
theorem d_Arranger_init_37 : decode m_Arranger_init.2.1 37 = .ok (.putfield 21, 3) := by decide +kernel
theorem d_Arranger_init_40 : decode m_Arranger_init.2.1 40 = .ok (.aload_n 0, 1) := by decide +kernel
theorem d_Arranger_init_41 : decode m_Arranger_init.2.1 41 = .ok (.sipush 680, 3) := by decide +kernel
theorem d_Arranger_init_44 : decode m_Arranger_init.2.1 44 = .ok (.newarray .int, 2) := by decide +kernel
theorem d_Arranger_init_46 : decode m_Arranger_init.2.1 46 = .ok (.putfield 24, 3) := by decide +kernel
theorem d_Arranger_init_49 : decode m_Arranger_init.2.1 49 = .ok (.aload_n 0, 1) := by decide +kernel
theorem d_Arranger_init_50 : decode m_Arranger_init.2.1 50 = .ok (.sipush 680, 3) := by decide +kernel
theorem d_Arranger_init_53 : decode m_Arranger_init.2.1 53 = .ok (.newarray .int, 2) := by decide +kernel
theorem d_Arranger_init_55 : decode m_Arranger_init.2.1 55 = .ok (.putfield 27, 3) := by decide +kernel
theorem d_Arranger_init_58 : decode m_Arranger_init.2.1 58 = .ok (.aload_n 0, 1) := by decide +kernel
theorem d_Arranger_init_59 : decode m_Arranger_init.2.1 59 = .ok (.sipush 680, 3) := by decide +kernel
theorem d_Arranger_init_62 : decode m_Arranger_init.2.1 62 = .ok (.newarray .long, 2) := by decide +kernel
theorem d_Arranger_init_64 : decode m_Arranger_init.2.1 64 = .ok (.putfield 30, 3) := by decide +kernel
theorem d_Arranger_init_67 : decode m_Arranger_init.2.1 67 = .ok (.aload_n 0, 1) := by decide +kernel
theorem d_Arranger_init_68 : decode m_Arranger_init.2.1 68 = .ok (.iconst 0, 1) := by decide +kernel
theorem d_Arranger_init_69 : decode m_Arranger_init.2.1 69 = .ok (.putfield 34, 3) := by decide +kernel
theorem d_Arranger_init_72 : decode m_Arranger_init.2.1 72 = .ok (.aload_n 0, 1) := by decide +kernel
theorem d_Arranger_init_73 : decode m_Arranger_init.2.1 73 = .ok (.bipush 49, 2) := by decide +kernel
theorem d_Arranger_init_75 : decode m_Arranger_init.2.1 75 = .ok (.newarray .int, 2) := by decide +kernel
theorem d_Arranger_init_77 : decode m_Arranger_init.2.1 77 = .ok (.putfield 38, 3) := by decide +kernel
theorem d_Arranger_init_80 : decode m_Arranger_init.2.1 80 = .ok (.aload_n 0, 1) := by decide +kernel
theorem d_Arranger_init_81 : decode m_Arranger_init.2.1 81 = .ok (.bipush 49, 2) := by decide +kernel
theorem d_Arranger_init_83 : decode m_Arranger_init.2.1 83 = .ok (.newarray .int, 2) := by decide +kernel
theorem d_Arranger_init_85 : decode m_Arranger_init.2.1 85 = .ok (.putfield 41, 3) := by decide +kernel
theorem d_Arranger_init_88 : decode m_Arranger_init.2.1 88 = .ok (.aload_n 0, 1) := by decide +kernel
theorem d_Arranger_init_89 : decode m_Arranger_init.2.1 89 = .ok (.aconst_null, 1) := by decide +kernel
theorem d_Arranger_init_90 : decode m_Arranger_init.2.1 90 = .ok (.putfield 44, 3) := by decide +kernel
theorem d_Arranger_init_93 : decode m_Arranger_init.2.1 93 = .ok (.aload_n 0, 1) := by decide +kernel
theorem d_Arranger_init_94 : decode m_Arranger_init.2.1 94 = .ok (.iconst 0, 1) := by decide +kernel
theorem d_Arranger_init_95 : decode m_Arranger_init.2.1 95 = .ok (.putfield 48, 3) := by decide +kernel
theorem d_Arranger_init_98 : decode m_Arranger_init.2.1 98 = .ok (.aload_n 0, 1) := by decide +kernel
theorem d_Arranger_init_99 : decode m_Arranger_init.2.1 99 = .ok (.iconst 0, 1) := by decide +kernel
theorem d_Arranger_init_100 : decode m_Arranger_init.2.1 100 = .ok (.putfield 51, 3) := by decide +kernel
theorem d_Arranger_init_103 : decode m_Arranger_init.2.1 103 = .ok (.aload_n 0, 1) := by decide +kernel
theorem d_Arranger_init_104 : decode m_Arranger_init.2.1 104 = .ok (.aconst_null, 1) := by decide +kernel
theorem d_Arranger_init_105 : decode m_Arranger_init.2.1 105 = .ok (.putfield 54, 3) := by decide +kernel
theorem d_Arranger_init_108 : decode m_Arranger_init.2.1 108 = .ok (.return_, 1) := by decide +kernel
theorem b_Arranger_init_0 {E : EV} {d : Nat} {Q : Option AV → St → Prop} {σ : St} (hF : Fix σ) (h : WP E m_Arranger_init (d + 1) 13 [(0, aP 32)] [] (wr (al σ 20 680) 32 0 (nx σ)) Q) : WP E m_Arranger_init (d + 1) 0 [(0, aP 32)] [] σ Q := by
  refine s_aload_n 0 d_Arranger_init_0 rfl rfl ?_
  refine s_objInit d_Arranger_init_1 lo_Arranger_3 lo_inst lo_code (by decide) (Nat.le_of_ble_eq_true rfl) ?_
  refine s_aload_n 0 d_Arranger_init_4 rfl rfl ?_
  refine s_sipush d_Arranger_init_5 (by decide) ?_
  refine s_newarray (kd := 20) d_Arranger_init_8 (by decide) ac_20 (by decide) ?_
  refine s_putf 0 rfl d_Arranger_init_10 fl_Arranger_11 (fun C T h => by cases h; exact Or.inr ⟨rfl, rfl, rfl, fk_Arranger_11⟩) rfl (Or.inr (Or.inr (Or.inr (Or.inr ⟨_, rfl⟩)))) (fun h => nomatch h) (sf_32 hF.al_) ?_
  exact h
theorem e_Arranger_init {E : EV} {d : Nat} {Q : Option AV → St → Prop} {σ : St} (hF : Fix σ) (h : WP E m_Arranger_init (d + 1) 13 [(0, aP 32)] [] (wr (al σ 20 680) 32 0 (nx σ)) Q) : WM E m_Arranger_init (d + 1) [aP 32] σ Q := s_meth (by decide) (Nat.le_of_ble_eq_true rfl) rfl (b_Arranger_init_0 hF h)
theorem b_Arranger_init_13 {E : EV} {d : Nat} {Q : Option AV → St → Prop} {σ : St} (hF : Fix σ) (h : WP E m_Arranger_init (d + 1) 22 [(0, aP 32)] [] (wr (al σ 20 680) 32 1 (nx σ)) Q) : WP E m_Arranger_init (d + 1) 13 [(0, aP 32)] [] σ Q := by
  refine s_aload_n 0 d_Arranger_init_13 rfl rfl ?_
  refine s_sipush d_Arranger_init_14 (by decide) ?_
  refine s_newarray (kd := 20) d_Arranger_init_17 (by decide) ac_20 (by decide) ?_
  refine s_putf 1 rfl d_Arranger_init_19 fl_Arranger_15 (fun C T h => by cases h; exact Or.inr ⟨rfl, rfl, rfl, fk_Arranger_15⟩) rfl (Or.inr (Or.inr (Or.inr (Or.inr ⟨_, rfl⟩)))) (fun h => nomatch h) (sf_32 hF.al_) ?_
  exact h
theorem b_Arranger_init_22 {E : EV} {d : Nat} {Q : Option AV → St → Prop} {σ : St} (hF : Fix σ) (h : WP E m_Arranger_init (d + 1) 31 [(0, aP 32)] [] (wr (al σ 20 680) 32 2 (nx σ)) Q) : WP E m_Arranger_init (d + 1) 22 [(0, aP 32)] [] σ Q := by
  refine s_aload_n 0 d_Arranger_init_22 rfl rfl ?_
  refine s_sipush d_Arranger_init_23 (by decide) ?_
  refine s_newarray (kd := 20) d_Arranger_init_26 (by decide) ac_20 (by decide) ?_
  refine s_putf 2 rfl d_Arranger_init_28 fl_Arranger_18 (fun C T h => by cases h; exact Or.inr ⟨rfl, rfl, rfl, fk_Arranger_18⟩) rfl (Or.inr (Or.inr (Or.inr (Or.inr ⟨_, rfl⟩)))) (fun h => nomatch h) (sf_32 hF.al_) ?_
  exact h
theorem b_Arranger_init_31 {E : EV} {d : Nat} {Q : Option AV → St → Prop} {σ : St} (hF : Fix σ) (h : WP E m_Arranger_init (d + 1) 40 [(0, aP 32)] [] (wr (al σ 20 680) 32 3 (nx σ)) Q) : WP E m_Arranger_init (d + 1) 31 [(0, aP 32)] [] σ Q := by
  refine s_aload_n 0 d_Arranger_init_31 rfl rfl ?_
  refine s_sipush d_Arranger_init_32 (by decide) ?_
  refine s_newarray (kd := 20) d_Arranger_init_35 (by decide) ac_20 (by decide) ?_
  refine s_putf 3 rfl d_Arranger_init_37 fl_Arranger_21 (fun C T h => by cases h; exact Or.inr ⟨rfl, rfl, rfl, fk_Arranger_21⟩) rfl (Or.inr (Or.inr (Or.inr (Or.inr ⟨_, rfl⟩)))) (fun h => nomatch h) (sf_32 hF.al_) ?_
  exact h
theorem b_Arranger_init_40 {E : EV} {d : Nat} {Q : Option AV → St → Prop} {σ : St} (hF : Fix σ) (h : WP E m_Arranger_init (d + 1) 49 [(0, aP 32)] [] (wr (al σ 20 680) 32 4 (nx σ)) Q) : WP E m_Arranger_init (d + 1) 40 [(0, aP 32)] [] σ Q := by
  refine s_aload_n 0 d_Arranger_init_40 rfl rfl ?_
  refine s_sipush d_Arranger_init_41 (by decide) ?_
  refine s_newarray (kd := 20) d_Arranger_init_44 (by decide) ac_20 (by decide) ?_
  refine s_putf 4 rfl d_Arranger_init_46 fl_Arranger_24 (fun C T h => by cases h; exact Or.inr ⟨rfl, rfl, rfl, fk_Arranger_24⟩) rfl (Or.inr (Or.inr (Or.inr (Or.inr ⟨_, rfl⟩)))) (fun h => nomatch h) (sf_32 hF.al_) ?_
  exact h
theorem b_Arranger_init_49 {E : EV} {d : Nat} {Q : Option AV → St → Prop} {σ : St} (hF : Fix σ) (h : WP E m_Arranger_init (d + 1) 58 [(0, aP 32)] [] (wr (al σ 20 680) 32 5 (nx σ)) Q) : WP E m_Arranger_init (d + 1) 49 [(0, aP 32)] [] σ Q := by
  refine s_aload_n 0 d_Arranger_init_49 rfl rfl ?_
  refine s_sipush d_Arranger_init_50 (by decide) ?_
  refine s_newarray (kd := 20) d_Arranger_init_53 (by decide) ac_20 (by decide) ?_
  refine s_putf 5 rfl d_Arranger_init_55 fl_Arranger_27 (fun C T h => by cases h; exact Or.inr ⟨rfl, rfl, rfl, fk_Arranger_27⟩) rfl (Or.inr (Or.inr (Or.inr (Or.inr ⟨_, rfl⟩)))) (fun h => nomatch h) (sf_32 hF.al_) ?_
  exact h
theorem b_Arranger_init_58 {E : EV} {d : Nat} {Q : Option AV → St → Prop} {σ : St} (hF : Fix σ) (h : WP E m_Arranger_init (d + 1) 67 [(0, aP 32)] [] (wr (al σ 22 680) 32 6 (nx σ)) Q) : WP E m_Arranger_init (d + 1) 58 [(0, aP 32)] [] σ Q := by
  refine s_aload_n 0 d_Arranger_init_58 rfl rfl ?_
  refine s_sipush d_Arranger_init_59 (by decide) ?_
  refine s_newarray (kd := 22) d_Arranger_init_62 (by decide) ac_22 (by decide) ?_
  refine s_putf 6 rfl d_Arranger_init_64 fl_Arranger_30 (fun C T h => by cases h; exact Or.inr ⟨rfl, rfl, rfl, fk_Arranger_30⟩) rfl (Or.inr (Or.inr (Or.inr (Or.inr ⟨_, rfl⟩)))) (fun h => nomatch h) (sf_32 hF.al_) ?_
  exact h
theorem b_Arranger_init_67 {E : EV} {d : Nat} {Q : Option AV → St → Prop} {σ : St} (hF : Fix σ) (h : WP E m_Arranger_init (d + 1) 72 [(0, aP 32)] [] (wr σ 32 7 0) Q) : WP E m_Arranger_init (d + 1) 67 [(0, aP 32)] [] σ Q := by
  refine s_aload_n 0 d_Arranger_init_67 rfl rfl ?_
  refine s_iconst d_Arranger_init_68 ?_
  refine s_putf 7 rfl d_Arranger_init_69 fl_Arranger_34 (fun C T h => by cases h; exact Or.inl rfl) rfl (Or.inl rfl) (fun h => nomatch h) (sf_32 hF) ?_
  exact h
theorem b_Arranger_init_72 {E : EV} {d : Nat} {Q : Option AV → St → Prop} {σ : St} (hF : Fix σ) (h : WP E m_Arranger_init (d + 1) 80 [(0, aP 32)] [] (wr (al σ 20 49) 32 8 (nx σ)) Q) : WP E m_Arranger_init (d + 1) 72 [(0, aP 32)] [] σ Q := by
  refine s_aload_n 0 d_Arranger_init_72 rfl rfl ?_
  refine s_bipush d_Arranger_init_73 (by decide) ?_
  refine s_newarray (kd := 20) d_Arranger_init_75 (by decide) ac_20 (by decide) ?_
  refine s_putf 8 rfl d_Arranger_init_77 fl_Arranger_38 (fun C T h => by cases h; exact Or.inr ⟨rfl, rfl, rfl, fk_Arranger_38⟩) rfl (Or.inr (Or.inr (Or.inr (Or.inr ⟨_, rfl⟩)))) (fun h => nomatch h) (sf_32 hF.al_) ?_
  exact h
theorem b_Arranger_init_80 {E : EV} {d : Nat} {Q : Option AV → St → Prop} {σ : St} (hF : Fix σ) (h : WP E m_Arranger_init (d + 1) 88 [(0, aP 32)] [] (wr (al σ 20 49) 32 9 (nx σ)) Q) : WP E m_Arranger_init (d + 1) 80 [(0, aP 32)] [] σ Q := by
  refine s_aload_n 0 d_Arranger_init_80 rfl rfl ?_
  refine s_bipush d_Arranger_init_81 (by decide) ?_
  refine s_newarray (kd := 20) d_Arranger_init_83 (by decide) ac_20 (by decide) ?_
  refine s_putf 9 rfl d_Arranger_init_85 fl_Arranger_41 (fun C T h => by cases h; exact Or.inr ⟨rfl, rfl, rfl, fk_Arranger_41⟩) rfl (Or.inr (Or.inr (Or.inr (Or.inr ⟨_, rfl⟩)))) (fun h => nomatch h) (sf_32 hF.al_) ?_
  exact h
theorem b_Arranger_init_88 {E : EV} {d : Nat} {Q : Option AV → St → Prop} {σ : St} (hF : Fix σ) (h : WP E m_Arranger_init (d + 1) 93 [(0, aP 32)] [] (wr σ 32 10 0) Q) : WP E m_Arranger_init (d + 1) 88 [(0, aP 32)] [] σ Q := by
  refine s_aload_n 0 d_Arranger_init_88 rfl rfl ?_
  refine s_null d_Arranger_init_89 ?_
  refine s_putf 10 rfl d_Arranger_init_90 fl_Arranger_44 (fun C T h => by cases h; exact Or.inl rfl) rfl (Or.inr (Or.inr (Or.inr (Or.inl ⟨_, rfl⟩)))) (fun h => nomatch h) (sf_32 hF) ?_
  exact h
theorem b_Arranger_init_93 {E : EV} {d : Nat} {Q : Option AV → St → Prop} {σ : St} (hF : Fix σ) (h : WP E m_Arranger_init (d + 1) 98 [(0, aP 32)] [] (wr σ 32 11 0) Q) : WP E m_Arranger_init (d + 1) 93 [(0, aP 32)] [] σ Q := by
  refine s_aload_n 0 d_Arranger_init_93 rfl rfl ?_
  refine s_iconst d_Arranger_init_94 ?_
  refine s_putf 11 rfl d_Arranger_init_95 fl_Arranger_48 (fun C T h => by cases h; exact Or.inl rfl) rfl (Or.inl rfl) (fun h => nomatch h) (sf_32 hF) ?_
  exact h
theorem b_Arranger_init_98 {E : EV} {d : Nat} {Q : Option AV → St → Prop} {σ : St} (hF : Fix σ) (h : WP E m_Arranger_init (d + 1) 103 [(0, aP 32)] [] (wr σ 32 12 0) Q) : WP E m_Arranger_init (d + 1) 98 [(0, aP 32)] [] σ Q := by
  refine s_aload_n 0 d_Arranger_init_98 rfl rfl ?_
  refine s_iconst d_Arranger_init_99 ?_
  refine s_putf 12 rfl d_Arranger_init_100 fl_Arranger_51 (fun C T h => by cases h; exact Or.inl rfl) rfl (Or.inl rfl) (fun h => nomatch h) (sf_32 hF) ?_
  exact h
theorem b_Arranger_init_103 {E : EV} {d : Nat} {Q : Option AV → St → Prop} {σ : St} (hF : Fix σ) (h : WP E m_Arranger_init (d + 1) 108 [] [] (wr σ 32 13 0) Q) : WP E m_Arranger_init (d + 1) 103 [(0, aP 32)] [] σ Q := by
  refine s_aload_n 0 d_Arranger_init_103 rfl rfl ?_
  refine s_null d_Arranger_init_104 ?_
  refine s_putf 13 rfl d_Arranger_init_105 fl_Arranger_54 (fun C T h => by cases h; exact Or.inl rfl) rfl (Or.inr (Or.inr (Or.inr (Or.inl ⟨_, rfl⟩)))) (fun h => nomatch h) (sf_32 hF) ?_
  refine wp_drop [] rfl ?_
  exact h
theorem b_Arranger_init_108 {E : EV} {d : Nat} {Q : Option AV → St → Prop} {σ : St} (h : Q none σ) : WP E m_Arranger_init (d + 1) 108 [] [] σ Q := by
  exact s_return d_Arranger_init_108 rfl h
theorem d_Arranger_knows_0 : decode m_Arranger_knows.2.1 0 = .ok (.aload_n 0, 1) := by decide +kernel
theorem d_Arranger_knows_1 : decode m_Arranger_knows.2.1 1 = .ok (.getfield 44, 3) := by decide +kernel
theorem d_Arranger_knows_4 : decode m_Arranger_knows.2.1 4 = .ok (.aload_n 1, 1) := by decide +kernel
theorem d_Arranger_knows_5 : decode m_Arranger_knows.2.1 5 = .ok (.if_acmp .ne 29, 3) := by decide +kernel
theorem d_Arranger_knows_8 : decode m_Arranger_knows.2.1 8 = .ok (.aload_n 0, 1) := by decide +kernel
theorem d_Arranger_knows_9 : decode m_Arranger_knows.2.1 9 = .ok (.getfield 48, 3) := by decide +kernel
theorem d_Arranger_knows_12 : decode m_Arranger_knows.2.1 12 = .ok (.aload_n 2, 1) := by decide +kernel
theorem d_Arranger_knows_13 : decode m_Arranger_knows.2.1 13 = .ok (.getfield 60, 3) := by decide +kernel
theorem d_Arranger_knows_16 : decode m_Arranger_knows.2.1 16 = .ok (.if_icmp .ne 18, 3) := by decide +kernel
theorem d_Arranger_knows_19 : decode m_Arranger_knows.2.1 19 = .ok (.aload_n 0, 1) := by decide +kernel
theorem d_Arranger_knows_20 : decode m_Arranger_knows.2.1 20 = .ok (.getfield 51, 3) := by decide +kernel
theorem d_Arranger_knows_23 : decode m_Arranger_knows.2.1 23 = .ok (.aload_n 2, 1) := by decide +kernel
theorem d_Arranger_knows_24 : decode m_Arranger_knows.2.1 24 = .ok (.getfield 65, 3) := by decide +kernel
theorem d_Arranger_knows_27 : decode m_Arranger_knows.2.1 27 = .ok (.if_icmp .ne 7, 3) := by decide +kernel
theorem d_Arranger_knows_30 : decode m_Arranger_knows.2.1 30 = .ok (.iconst 1, 1) := by decide +kernel
theorem d_Arranger_knows_31 : decode m_Arranger_knows.2.1 31 = .ok (.goto 4, 3) := by decide +kernel
theorem d_Arranger_knows_34 : decode m_Arranger_knows.2.1 34 = .ok (.iconst 0, 1) := by decide +kernel
theorem d_Arranger_knows_35 : decode m_Arranger_knows.2.1 35 = .ok (.ireturn, 1) := by decide +kernel
theorem b_Arranger_knows_0 {E : EV} {d : Nat} {Q : Option AV → St → Prop} {σ : St} (x1 x2 : Int) (hF : Fix σ) (h : (0 ≤ (σ.1 32 10)) ∧ (0 ≤ x1) ∧ ((¬ (σ.1 32 10) = x1 → Q (some (aI 0)) σ) ∧ ((σ.1 32 10) = x1 → (sh σ x2 = some (4, 3)) ∧ (rI (σ.1 32 11)) ∧ (rI (σ.1 x2 1)) ∧ ((¬ (σ.1 32 11) = (σ.1 x2 1) → Q (some (aI 0)) σ) ∧ ((σ.1 32 11) = (σ.1 x2 1) → (sh σ x2 = some (4, 3)) ∧ (rI (σ.1 32 12)) ∧ (rI (σ.1 x2 2)) ∧ ((¬ (σ.1 32 12) = (σ.1 x2 2) → Q (some (aI 0)) σ) ∧ ((σ.1 32 12) = (σ.1 x2 2) → Q (some (aI 1)) σ))))))) : WP E m_Arranger_knows d 0 [(0, aP 32), (1, aP x1), (2, aP x2)] [] σ Q := by
  refine s_aload_n 0 d_Arranger_knows_0 rfl rfl ?_
  refine s_getF (v := σ.1 32 10) d_Arranger_knows_1 fl_Arranger_44 rfl (sf_32 hF) rfl ?_
  refine s_aload_n 1 d_Arranger_knows_4 rfl rfl ?_
  obtain ⟨g1, h⟩ := h
  obtain ⟨g2, h⟩ := h
  refine s_acmp_ne d_Arranger_knows_5 rfl g1 g2 (fun c => ?_) (fun c => ?_)
  · have h := h.1 c
    refine s_iconst d_Arranger_knows_34 ?_
    exact s_zreturn d_Arranger_knows_35 rfl (by decide) h
  · have h := h.2 c
    refine s_aload_n 0 d_Arranger_knows_8 rfl rfl ?_
    refine s_getF (v := σ.1 32 11) d_Arranger_knows_9 fl_Arranger_48 rfl (sf_32 hF) rfl ?_
    refine s_aload_n 2 d_Arranger_knows_12 rfl rfl ?_
    obtain ⟨g3, h⟩ := h
    refine s_getF (v := σ.1 x2 1) d_Arranger_knows_13 fl_Arranger_60 rfl g3 rfl ?_
    obtain ⟨g4, h⟩ := h
    obtain ⟨g5, h⟩ := h
    refine s_icmp_ne d_Arranger_knows_16 rfl g4 g5 (fun c => ?_) (fun c => ?_)
    · have h := h.1 c
      refine s_iconst d_Arranger_knows_34 ?_
      exact s_zreturn d_Arranger_knows_35 rfl (by decide) h
    · have h := h.2 c
      refine s_aload_n 0 d_Arranger_knows_19 rfl rfl ?_
      refine s_getF (v := σ.1 32 12) d_Arranger_knows_20 fl_Arranger_51 rfl (sf_32 hF) rfl ?_
      refine s_aload_n 2 d_Arranger_knows_23 rfl rfl ?_
      obtain ⟨g6, h⟩ := h
      refine s_getF (v := σ.1 x2 2) d_Arranger_knows_24 fl_Arranger_65 rfl g6 rfl ?_
      obtain ⟨g7, h⟩ := h
      obtain ⟨g8, h⟩ := h
      refine s_icmp_ne d_Arranger_knows_27 rfl g7 g8 (fun c => ?_) (fun c => ?_)
      · have h := h.1 c
        refine s_iconst d_Arranger_knows_34 ?_
        exact s_zreturn d_Arranger_knows_35 rfl (by decide) h
      · have h := h.2 c
        refine s_iconst d_Arranger_knows_30 ?_
        refine s_goto d_Arranger_knows_31 rfl ?_
        exact s_zreturn d_Arranger_knows_35 rfl (by decide) h
theorem e_Arranger_knows {E : EV} {d : Nat} {Q : Option AV → St → Prop} {σ : St} (x1 x2 : Int) (hF : Fix σ) (h : (0 ≤ (σ.1 32 10)) ∧ (0 ≤ x1) ∧ ((¬ (σ.1 32 10) = x1 → Q (some (aI 0)) σ) ∧ ((σ.1 32 10) = x1 → (sh σ x2 = some (4, 3)) ∧ (rI (σ.1 32 11)) ∧ (rI (σ.1 x2 1)) ∧ ((¬ (σ.1 32 11) = (σ.1 x2 1) → Q (some (aI 0)) σ) ∧ ((σ.1 32 11) = (σ.1 x2 1) → (sh σ x2 = some (4, 3)) ∧ (rI (σ.1 32 12)) ∧ (rI (σ.1 x2 2)) ∧ ((¬ (σ.1 32 12) = (σ.1 x2 2) → Q (some (aI 0)) σ) ∧ ((σ.1 32 12) = (σ.1 x2 2) → Q (some (aI 1)) σ))))))) : WM E m_Arranger_knows d [aP 32, aP x1, aP x2] σ Q := s_meth (by decide) (Nat.le_of_ble_eq_true rfl) rfl (b_Arranger_knows_0 x1 x2 hF h)
theorem d_Arranger_find_0 : decode m_Arranger_find.2.1 0 = .ok (.aload_n 0, 1) := by decide +kernel
theorem d_Arranger_find_1 : decode m_Arranger_find.2.1 1 = .ok (.aload_n 1, 1) := by decide +kernel
theorem d_Arranger_find_2 : decode m_Arranger_find.2.1 2 = .ok (.aload_n 2, 1) := by decide +kernel
theorem d_Arranger_find_3 : decode m_Arranger_find.2.1 3 = .ok (.invokevirtual 68, 3) := by decide +kernel
theorem d_Arranger_find_6 : decode m_Arranger_find.2.1 6 = .ok (.istore 5, 2) := by decide +kernel
theorem d_Arranger_find_8 : decode m_Arranger_find.2.1 8 = .ok (.iconst 2, 1) := by decide +kernel
theorem d_Arranger_find_9 : decode m_Arranger_find.2.1 9 = .ok (.istore 6, 2) := by decide +kernel
theorem d_Arranger_find_11 : decode m_Arranger_find.2.1 11 = .ok (.iload 6, 2) := by decide +kernel
theorem d_Arranger_find_13 : decode m_Arranger_find.2.1 13 = .ok (.iload 5, 2) := by decide +kernel
theorem d_Arranger_find_15 : decode m_Arranger_find.2.1 15 = .ok (.if_icmp .gt 40, 3) := by decide +kernel
theorem d_Arranger_find_18 : decode m_Arranger_find.2.1 18 = .ok (.iconst 0, 1) := by decide +kernel
theorem d_Arranger_find_19 : decode m_Arranger_find.2.1 19 = .ok (.istore 7, 2) := by decide +kernel
theorem d_Arranger_find_21 : decode m_Arranger_find.2.1 21 = .ok (.iload 7, 2) := by decide +kernel
theorem d_Arranger_find_23 : decode m_Arranger_find.2.1 23 = .ok (.iload 6, 2) := by decide +kernel
theorem d_Arranger_find_25 : decode m_Arranger_find.2.1 25 = .ok (.iadd, 1) := by decide +kernel
theorem d_Arranger_find_26 : decode m_Arranger_find.2.1 26 = .ok (.iload 5, 2) := by decide +kernel
theorem d_Arranger_find_28 : decode m_Arranger_find.2.1 28 = .ok (.if_icmp .gt 21, 3) := by decide +kernel
theorem d_Arranger_find_31 : decode m_Arranger_find.2.1 31 = .ok (.aload_n 0, 1) := by decide +kernel
theorem d_Arranger_find_32 : decode m_Arranger_find.2.1 32 = .ok (.iload 7, 2) := by decide +kernel
theorem d_Arranger_find_34 : decode m_Arranger_find.2.1 34 = .ok (.iload 6, 2) := by decide +kernel
theorem d_Arranger_find_36 : decode m_Arranger_find.2.1 36 = .ok (.aload_n 3, 1) := by decide +kernel
theorem d_Arranger_find_37 : decode m_Arranger_find.2.1 37 = .ok (.getfield 65, 3) := by decide +kernel
theorem d_Arranger_find_40 : decode m_Arranger_find.2.1 40 = .ok (.invokevirtual 72, 3) := by decide +kernel
theorem d_Arranger_find_43 : decode m_Arranger_find.2.1 43 = .ok (.iinc 7 1, 3) := by decide +kernel
theorem d_Arranger_find_46 : decode m_Arranger_find.2.1 46 = .ok (.goto (-25), 3) := by decide +kernel
theorem d_Arranger_find_49 : decode m_Arranger_find.2.1 49 = .ok (.iinc 6 1, 3) := by decide +kernel
theorem d_Arranger_find_52 : decode m_Arranger_find.2.1 52 = .ok (.goto (-41), 3) := by decide +kernel
theorem d_Arranger_find_55 : decode m_Arranger_find.2.1 55 = .ok (.aload 4, 2) := by decide +kernel
theorem d_Arranger_find_57 : decode m_Arranger_find.2.1 57 = .ok (.invokevirtual 76, 3) := by decide +kernel
theorem d_Arranger_find_60 : decode m_Arranger_find.2.1 60 = .ok (.aload_n 0, 1) := by decide +kernel
theorem d_Arranger_find_61 : decode m_Arranger_find.2.1 61 = .ok (.aload_n 0, 1) := by decide +kernel
theorem d_Arranger_find_62 : decode m_Arranger_find.2.1 62 = .ok (.iconst 0, 1) := by decide +kernel
theorem d_Arranger_find_63 : decode m_Arranger_find.2.1 63 = .ok (.iload 5, 2) := by decide +kernel
theorem d_Arranger_find_65 : decode m_Arranger_find.2.1 65 = .ok (.invokestatic 81, 3) := by decide +kernel
theorem d_Arranger_find_68 : decode m_Arranger_find.2.1 68 = .ok (.aload_n 3, 1) := by decide +kernel
theorem d_Arranger_find_69 : decode m_Arranger_find.2.1 69 = .ok (.getfield 60, 3) := by decide +kernel
theorem d_Arranger_find_72 : decode m_Arranger_find.2.1 72 = .ok (.invokevirtual 85, 3) := by decide +kernel
theorem d_Arranger_find_75 : decode m_Arranger_find.2.1 75 = .ok (.aload_n 1, 1) := by decide +kernel
theorem d_Arranger_find_76 : decode m_Arranger_find.2.1 76 = .ok (.aload 4, 2) := by decide +kernel
theorem d_Arranger_find_78 : decode m_Arranger_find.2.1 78 = .ok (.iconst 0, 1) := by decide +kernel
theorem d_Arranger_find_79 : decode m_Arranger_find.2.1 79 = .ok (.invokevirtual 88, 3) := by decide +kernel
theorem d_Arranger_find_82 : decode m_Arranger_find.2.1 82 = .ok (.aload_n 0, 1) := by decide +kernel
theorem d_Arranger_find_83 : decode m_Arranger_find.2.1 83 = .ok (.aload 4, 2) := by decide +kernel
theorem d_Arranger_find_85 : decode m_Arranger_find.2.1 85 = .ok (.invokevirtual 92, 3) := by decide +kernel
theorem d_Arranger_find_88 : decode m_Arranger_find.2.1 88 = .ok (.putfield 54, 3) := by decide +kernel
theorem d_Arranger_find_91 : decode m_Arranger_find.2.1 91 = .ok (.aload_n 0, 1) := by decide +kernel
theorem d_Arranger_find_92 : decode m_Arranger_find.2.1 92 = .ok (.aload_n 1, 1) := by decide +kernel
theorem d_Arranger_find_93 : decode m_Arranger_find.2.1 93 = .ok (.putfield 44, 3) := by decide +kernel
theorem d_Arranger_find_96 : decode m_Arranger_find.2.1 96 = .ok (.aload_n 0, 1) := by decide +kernel
theorem d_Arranger_find_97 : decode m_Arranger_find.2.1 97 = .ok (.aload_n 3, 1) := by decide +kernel
theorem d_Arranger_find_98 : decode m_Arranger_find.2.1 98 = .ok (.getfield 60, 3) := by decide +kernel
theorem d_Arranger_find_101 : decode m_Arranger_find.2.1 101 = .ok (.putfield 48, 3) := by decide +kernel
theorem d_Arranger_find_104 : decode m_Arranger_find.2.1 104 = .ok (.aload_n 0, 1) := by decide +kernel
theorem d_Arranger_find_105 : decode m_Arranger_find.2.1 105 = .ok (.aload_n 3, 1) := by decide +kernel
theorem d_Arranger_find_106 : decode m_Arranger_find.2.1 106 = .ok (.getfield 65, 3) := by decide +kernel
theorem d_Arranger_find_109 : decode m_Arranger_find.2.1 109 = .ok (.putfield 51, 3) := by decide +kernel
theorem d_Arranger_find_112 : decode m_Arranger_find.2.1 112 = .ok (.return_, 1) := by decide +kernel
theorem b_Arranger_find_0 {E : EV} {d : Nat} {Q : Option AV → St → Prop} {σ : St} (x1 x2 x3 x4 : Int) (hF : Fix σ) (h : (WMi E m_Arranger_makeSigns d [aP 32, aP x1, aP x2] σ (fun v1 σ1 => WP E m_Arranger_find (d + 1) 11 [(0, aP 32), (1, aP x1), (3, aP x3), (4, aP x4), (5, aI v1), (6, aI 2)] [] σ1 Q))) : WP E m_Arranger_find (d + 1) 0 [(0, aP 32), (1, aP x1), (2, aP x2), (3, aP x3), (4, aP x4)] [] σ Q := by
  refine s_aload_n 0 d_Arranger_find_0 rfl rfl ?_
  refine s_aload_n 1 d_Arranger_find_1 rfl rfl ?_
  refine s_aload_n 2 d_Arranger_find_2 rfl rfl ?_
  refine s_callV (as := [aP x1, aP x2]) (ci := 0) d_Arranger_find_3 ok_Arranger_makeSigns lk_Arranger_68 io_Arranger_makeSigns so_Arranger_makeSigns (by decide) rfl rfl rfl (Nat.le_of_ble_eq_true rfl) rfl (sf_32 hF) (WM.mono h ?_)
  rintro _ σ1 ⟨v1, rfl, hp, h⟩
  show WP E m_Arranger_find (d + 1) 6 [(0, aP 32), (1, aP x1), (2, aP x2), (3, aP x3), (4, aP x4)] [aI v1] σ1 Q
  refine s_istore d_Arranger_find_6 (by decide) rfl ?_
  refine s_iconst d_Arranger_find_8 ?_
  refine s_istore d_Arranger_find_9 (by decide) rfl ?_
  refine wp_drop [2, 3, 5, 6, 1, 0] rfl ?_
  exact h
theorem e_Arranger_find {E : EV} {d : Nat} {Q : Option AV → St → Prop} {σ : St} (x1 x2 x3 x4 : Int) (hF : Fix σ) (h : (WMi E m_Arranger_makeSigns d [aP 32, aP x1, aP x2] σ (fun v1 σ1 => WP E m_Arranger_find (d + 1) 11 [(0, aP 32), (1, aP x1), (3, aP x3), (4, aP x4), (5, aI v1), (6, aI 2)] [] σ1 Q))) : WM E m_Arranger_find (d + 1) [aP 32, aP x1, aP x2, aP x3, aP x4] σ Q := s_meth (by decide) (Nat.le_of_ble_eq_true rfl) rfl (b_Arranger_find_0 x1 x2 x3 x4 hF h)
theorem b_Arranger_find_11 {E : EV} {d : Nat} {Q : Option AV → St → Prop} {σ : St} (x1 x3 x4 x5 x6 : Int) (hF : Fix σ) (h : (rI x6) ∧ (rI x5) ∧ ((x5 < x6 → (sh σ x4 = some (1, 2)) ∧ (WMv E m_Draft_clear d [aP x4] σ (fun σ3 => Fix σ3 ∧ (WMi E m_Arranger_spanOfSigns d [aI 0, aI x5] σ3 (fun v5 σ5 => Fix σ5 ∧ (sh σ5 x3 = some (4, 3)) ∧ (WMi E m_Arranger_bestForm d [aP 32, aI v5, aI (σ5.1 x3 1)] σ5 (fun v7 σ7 => Fix σ7 ∧ (WMv E m_Arranger_write d [aP 32, aI v7, aP x1, aP x4, aI 0] σ7 (fun σ8 => Fix σ8 ∧ (sh σ8 x4 = some (1, 2)) ∧ (WMr E m_Draft_made d [aP x4] σ8 (fun v9 σ9 => Fix σ9 ∧ (sh (wr (wr σ9 32 13 v9) 32 10 x1) x3 = some (4, 3)) ∧ (sh (wr (wr (wr σ9 32 13 v9) 32 10 x1) 32 11 ((wr (wr σ9 32 13 v9) 32 10 x1).1 x3 1)) x3 = some (4, 3)) ∧ Q none (wr (wr (wr (wr σ9 32 13 v9) 32 10 x1) 32 11 ((wr (wr σ9 32 13 v9) 32 10 x1).1 x3 1)) 32 12 ((wr (wr (wr σ9 32 13 v9) 32 10 x1) 32 11 ((wr (wr σ9 32 13 v9) 32 10 x1).1 x3 1)).1 x3 2))))))))))))) ∧ (¬ x5 < x6 → WP E m_Arranger_find (d + 1) 21 [(0, aP 32), (1, aP x1), (3, aP x3), (4, aP x4), (5, aI x5), (6, aI x6), (7, aI 0)] [] σ Q))) : WP E m_Arranger_find (d + 1) 11 [(0, aP 32), (1, aP x1), (3, aP x3), (4, aP x4), (5, aI x5), (6, aI x6)] [] σ Q := by
  refine s_iload 5 d_Arranger_find_11 rfl ?_
  refine s_iload 4 d_Arranger_find_13 rfl ?_
  obtain ⟨g1, h⟩ := h
  obtain ⟨g2, h⟩ := h
  refine s_icmp_gt d_Arranger_find_15 rfl g1 g2 (fun c => ?_) (fun c => ?_)
  · have h := h.1 c
    refine s_aload 3 d_Arranger_find_55 rfl ?_
    obtain ⟨g4, h⟩ := h
    refine s_callV (as := []) (ci := 1) d_Arranger_find_57 ok_Draft_clear lk_Arranger_76 io_Draft_clear so_Draft_clear (by decide) rfl rfl rfl (Nat.le_of_ble_eq_true rfl) rfl g4 (WM.mono h ?_)
    rintro _ σ3 ⟨rfl, hp, h⟩
    obtain ⟨hF4, h⟩ := h
    show WP E m_Arranger_find (d + 1) 60 [(0, aP 32), (1, aP x1), (3, aP x3), (4, aP x4), (5, aI x5), (6, aI x6)] [] σ3 Q
    refine s_aload_n 0 d_Arranger_find_60 rfl rfl ?_
    refine s_aload_n 0 d_Arranger_find_61 rfl rfl ?_
    refine s_iconst d_Arranger_find_62 ?_
    refine s_iload 4 d_Arranger_find_63 rfl ?_
    refine s_callS (as := [aI 0, aI x5]) d_Arranger_find_65 ok_Arranger_spanOfSigns lk_Arranger_81 to_Arranger_spanOfSigns rfl (Nat.le_of_ble_eq_true rfl) rfl (WM.mono h ?_)
    rintro _ σ5 ⟨v5, rfl, hp, h⟩
    obtain ⟨hF5, h⟩ := h
    show WP E m_Arranger_find (d + 1) 68 [(0, aP 32), (1, aP x1), (3, aP x3), (4, aP x4), (5, aI x5), (6, aI x6)] [aI v5, aP 32, aP 32] σ5 Q
    refine s_aload_n 2 d_Arranger_find_68 rfl rfl ?_
    obtain ⟨g6, h⟩ := h
    refine s_getF (v := σ5.1 x3 1) d_Arranger_find_69 fl_Arranger_60 rfl g6 rfl ?_
    refine s_callV (as := [aI v5, aI (σ5.1 x3 1)]) (ci := 0) d_Arranger_find_72 ok_Arranger_bestForm lk_Arranger_85 io_Arranger_bestForm so_Arranger_bestForm (by decide) rfl rfl rfl (Nat.le_of_ble_eq_true rfl) rfl (sf_32 hF5) (WM.mono h ?_)
    rintro _ σ7 ⟨v7, rfl, hp, h⟩
    obtain ⟨hF7, h⟩ := h
    show WP E m_Arranger_find (d + 1) 75 [(0, aP 32), (1, aP x1), (3, aP x3), (4, aP x4), (5, aI x5), (6, aI x6)] [aI v7, aP 32] σ7 Q
    refine s_aload_n 1 d_Arranger_find_75 rfl rfl ?_
    refine s_aload 3 d_Arranger_find_76 rfl ?_
    refine s_iconst d_Arranger_find_78 ?_
    refine s_callV (as := [aI v7, aP x1, aP x4, aI 0]) (ci := 0) d_Arranger_find_79 ok_Arranger_write lk_Arranger_88 io_Arranger_write so_Arranger_write (by decide) rfl rfl rfl (Nat.le_of_ble_eq_true rfl) rfl (sf_32 hF7) (WM.mono h ?_)
    rintro _ σ8 ⟨rfl, hp, h⟩
    obtain ⟨hF8, h⟩ := h
    show WP E m_Arranger_find (d + 1) 82 [(0, aP 32), (1, aP x1), (3, aP x3), (4, aP x4), (5, aI x5), (6, aI x6)] [] σ8 Q
    refine s_aload_n 0 d_Arranger_find_82 rfl rfl ?_
    refine s_aload 3 d_Arranger_find_83 rfl ?_
    obtain ⟨g10, h⟩ := h
    refine s_callV (as := []) (ci := 1) d_Arranger_find_85 ok_Draft_made lk_Arranger_92 io_Draft_made so_Draft_made (by decide) rfl rfl rfl (Nat.le_of_ble_eq_true rfl) rfl g10 (WM.mono h ?_)
    rintro _ σ9 ⟨v9, rfl, hp, h⟩
    obtain ⟨hF10, h⟩ := h
    show WP E m_Arranger_find (d + 1) 88 [(0, aP 32), (1, aP x1), (3, aP x3), (4, aP x4), (5, aI x5), (6, aI x6)] [aP v9, aP 32] σ9 Q
    refine s_putf 13 rfl d_Arranger_find_88 fl_Arranger_54 (fun C T h => by cases h; exact Or.inl rfl) rfl (Or.inr (Or.inr (Or.inr (Or.inl ⟨_, rfl⟩)))) (fun h => nomatch h) (sf_32 hF10) ?_
    refine s_aload_n 0 d_Arranger_find_91 rfl rfl ?_
    refine s_aload_n 1 d_Arranger_find_92 rfl rfl ?_
    refine s_putf 10 rfl d_Arranger_find_93 fl_Arranger_44 (fun C T h => by cases h; exact Or.inl rfl) rfl (Or.inr (Or.inr (Or.inr (Or.inl ⟨_, rfl⟩)))) (fun h => nomatch h) (sf_32 (hF10.wf (a := 32) (k := 13) (by decide))) ?_
    refine s_aload_n 0 d_Arranger_find_96 rfl rfl ?_
    refine s_aload_n 2 d_Arranger_find_97 rfl rfl ?_
    obtain ⟨g11, h⟩ := h
    refine s_getF (v := (wr (wr σ9 32 13 v9) 32 10 x1).1 x3 1) d_Arranger_find_98 fl_Arranger_60 rfl g11 rfl ?_
    refine s_putf 11 rfl d_Arranger_find_101 fl_Arranger_48 (fun C T h => by cases h; exact Or.inl rfl) rfl (Or.inl rfl) (fun h => nomatch h) (sf_32 ((hF10.wf (a := 32) (k := 13) (by decide)).wf (a := 32) (k := 10) (by decide))) ?_
    refine s_aload_n 0 d_Arranger_find_104 rfl rfl ?_
    refine s_aload_n 2 d_Arranger_find_105 rfl rfl ?_
    obtain ⟨g12, h⟩ := h
    refine s_getF (v := (wr (wr (wr σ9 32 13 v9) 32 10 x1) 32 11 ((wr (wr σ9 32 13 v9) 32 10 x1).1 x3 1)).1 x3 2) d_Arranger_find_106 fl_Arranger_65 rfl g12 rfl ?_
    refine s_putf 12 rfl d_Arranger_find_109 fl_Arranger_51 (fun C T h => by cases h; exact Or.inl rfl) rfl (Or.inl rfl) (fun h => nomatch h) (sf_32 (((hF10.wf (a := 32) (k := 13) (by decide)).wf (a := 32) (k := 10) (by decide)).wf (a := 32) (k := 11) (by decide))) ?_
    exact s_return d_Arranger_find_112 rfl h
  · have h := h.2 c
    refine s_iconst d_Arranger_find_18 ?_
    refine s_istore d_Arranger_find_19 (by decide) rfl ?_
    refine wp_drop [1, 2, 3, 4, 5, 6, 0] rfl ?_
    exact h
theorem b_Arranger_find_21 {E : EV} {d : Nat} {Q : Option AV → St → Prop} {σ : St} (x1 x3 x4 x5 x6 x7 : Int) (hF : Fix σ) (h : (rI (x7 + x6)) ∧ (rI x5) ∧ ((x5 < (x7 + x6) → WP E m_Arranger_find (d + 1) 11 [(0, aP 32), (1, aP x1), (3, aP x3), (4, aP x4), (5, aI x5), (6, aI (x6 + 1))] [] σ Q) ∧ (¬ x5 < (x7 + x6) → (sh σ x3 = some (4, 3)) ∧ (WMv E m_Arranger_makeSpan d [aP 32, aI x7, aI x6, aI (σ.1 x3 2)] σ (fun σ4 => WP E m_Arranger_find (d + 1) 21 [(0, aP 32), (1, aP x1), (3, aP x3), (4, aP x4), (5, aI x5), (6, aI x6), (7, aI (x7 + 1))] [] σ4 Q))))) : WP E m_Arranger_find (d + 1) 21 [(0, aP 32), (1, aP x1), (3, aP x3), (4, aP x4), (5, aI x5), (6, aI x6), (7, aI x7)] [] σ Q := by
  refine s_iload 6 d_Arranger_find_21 rfl ?_
  refine s_iload 5 d_Arranger_find_23 rfl ?_
  refine s_iadd d_Arranger_find_25 ?_
  refine s_iload 4 d_Arranger_find_26 rfl ?_
  obtain ⟨g1, h⟩ := h
  obtain ⟨g2, h⟩ := h
  refine s_icmp_gt d_Arranger_find_28 rfl g1 g2 (fun c => ?_) (fun c => ?_)
  · have h := h.1 c
    refine s_iinc 5 d_Arranger_find_49 rfl (by decide) rfl ?_
    refine s_goto d_Arranger_find_52 rfl ?_
    refine wp_drop [1, 2, 3, 4, 5, 0] rfl ?_
    exact h
  · have h := h.2 c
    refine s_aload_n 0 d_Arranger_find_31 rfl rfl ?_
    refine s_iload 6 d_Arranger_find_32 rfl ?_
    refine s_iload 5 d_Arranger_find_34 rfl ?_
    refine s_aload_n 2 d_Arranger_find_36 rfl rfl ?_
    obtain ⟨g3, h⟩ := h
    refine s_getF (v := σ.1 x3 2) d_Arranger_find_37 fl_Arranger_65 rfl g3 rfl ?_
    refine s_callV (as := [aI x7, aI x6, aI (σ.1 x3 2)]) (ci := 0) d_Arranger_find_40 ok_Arranger_makeSpan lk_Arranger_72 io_Arranger_makeSpan so_Arranger_makeSpan (by decide) rfl rfl rfl (Nat.le_of_ble_eq_true rfl) rfl (sf_32 hF) (WM.mono h ?_)
    rintro _ σ4 ⟨rfl, hp, h⟩
    show WP E m_Arranger_find (d + 1) 43 [(0, aP 32), (1, aP x1), (3, aP x3), (4, aP x4), (5, aI x5), (6, aI x6), (7, aI x7)] [] σ4 Q
    refine s_iinc 6 d_Arranger_find_43 rfl (by decide) rfl ?_
    refine s_goto d_Arranger_find_46 rfl ?_
    refine wp_drop [1, 2, 3, 4, 5, 6, 0] rfl ?_
    exact h
theorem d_Arranger_makeSigns_0 : decode m_Arranger_makeSigns.2.1 0 = .ok (.aload_n 0, 1) := by decide +kernel
theorem d_Arranger_makeSigns_1 : decode m_Arranger_makeSigns.2.1 1 = .ok (.iconst 0, 1) := by decide +kernel
theorem d_Arranger_makeSigns_2 : decode m_Arranger_makeSigns.2.1 2 = .ok (.putfield 34, 3) := by decide +kernel
theorem d_Arranger_makeSigns_5 : decode m_Arranger_makeSigns.2.1 5 = .ok (.iconst 0, 1) := by decide +kernel
theorem d_Arranger_makeSigns_6 : decode m_Arranger_makeSigns.2.1 6 = .ok (.istore_n 3, 1) := by decide +kernel
theorem d_Arranger_makeSigns_7 : decode m_Arranger_makeSigns.2.1 7 = .ok (.iload_n 3, 1) := by decide +kernel
theorem d_Arranger_makeSigns_8 : decode m_Arranger_makeSigns.2.1 8 = .ok (.aload_n 1, 1) := by decide +kernel
theorem d_Arranger_makeSigns_9 : decode m_Arranger_makeSigns.2.1 9 = .ok (.invokevirtual 96, 3) := by decide +kernel
theorem d_Arranger_makeSigns_12 : decode m_Arranger_makeSigns.2.1 12 = .ok (.if_icmp .ge 127, 3) := by decide +kernel
theorem d_Arranger_makeSigns_15 : decode m_Arranger_makeSigns.2.1 15 = .ok (.aload_n 0, 1) := by decide +kernel
theorem d_Arranger_makeSigns_16 : decode m_Arranger_makeSigns.2.1 16 = .ok (.getfield 34, 3) := by decide +kernel
theorem d_Arranger_makeSigns_19 : decode m_Arranger_makeSigns.2.1 19 = .ok (.bipush 6, 2) := by decide +kernel
theorem d_Arranger_makeSigns_21 : decode m_Arranger_makeSigns.2.1 21 = .ok (.if_icmp .ge 118, 3) := by decide +kernel
theorem d_Arranger_makeSigns_24 : decode m_Arranger_makeSigns.2.1 24 = .ok (.aload_n 1, 1) := by decide +kernel
theorem d_Arranger_makeSigns_25 : decode m_Arranger_makeSigns.2.1 25 = .ok (.iload_n 3, 1) := by decide +kernel
theorem d_Arranger_makeSigns_26 : decode m_Arranger_makeSigns.2.1 26 = .ok (.invokevirtual 102, 3) := by decide +kernel
theorem d_Arranger_makeSigns_29 : decode m_Arranger_makeSigns.2.1 29 = .ok (.istore 4, 2) := by decide +kernel
theorem d_Arranger_makeSigns_31 : decode m_Arranger_makeSigns.2.1 31 = .ok (.iload 4, 2) := by decide +kernel
theorem d_Arranger_makeSigns_33 : decode m_Arranger_makeSigns.2.1 33 = .ok (.invokestatic 106, 3) := by decide +kernel
theorem d_Arranger_makeSigns_36 : decode m_Arranger_makeSigns.2.1 36 = .ok (.ifCond .eq 9, 3) := by decide +kernel
theorem d_Arranger_makeSigns_39 : decode m_Arranger_makeSigns.2.1 39 = .ok (.iinc 3 1, 3) := by decide +kernel
theorem d_Arranger_makeSigns_42 : decode m_Arranger_makeSigns.2.1 42 = .ok (.goto (-35), 3) := by decide +kernel
theorem d_Arranger_makeSigns_45 : decode m_Arranger_makeSigns.2.1 45 = .ok (.aload_n 0, 1) := by decide +kernel
theorem d_Arranger_makeSigns_46 : decode m_Arranger_makeSigns.2.1 46 = .ok (.getfield 34, 3) := by decide +kernel
theorem d_Arranger_makeSigns_49 : decode m_Arranger_makeSigns.2.1 49 = .ok (.iconst 1, 1) := by decide +kernel
theorem d_Arranger_makeSigns_50 : decode m_Arranger_makeSigns.2.1 50 = .ok (.invokestatic 81, 3) := by decide +kernel
theorem d_Arranger_makeSigns_53 : decode m_Arranger_makeSigns.2.1 53 = .ok (.istore 5, 2) := by decide +kernel
theorem d_Arranger_makeSigns_55 : decode m_Arranger_makeSigns.2.1 55 = .ok (.aload_n 0, 1) := by decide +kernel
theorem d_Arranger_makeSigns_56 : decode m_Arranger_makeSigns.2.1 56 = .ok (.getfield 38, 3) := by decide +kernel
theorem d_Arranger_makeSigns_59 : decode m_Arranger_makeSigns.2.1 59 = .ok (.iload 5, 2) := by decide +kernel
theorem d_Arranger_makeSigns_61 : decode m_Arranger_makeSigns.2.1 61 = .ok (.aload_n 0, 1) := by decide +kernel
theorem d_Arranger_makeSigns_62 : decode m_Arranger_makeSigns.2.1 62 = .ok (.getfield 34, 3) := by decide +kernel
theorem d_Arranger_makeSigns_65 : decode m_Arranger_makeSigns.2.1 65 = .ok (.iastore, 1) := by decide +kernel
theorem d_Arranger_makeSigns_66 : decode m_Arranger_makeSigns.2.1 66 = .ok (.aload_n 0, 1) := by decide +kernel
theorem d_Arranger_makeSigns_67 : decode m_Arranger_makeSigns.2.1 67 = .ok (.iconst 0, 1) := by decide +kernel
theorem d_Arranger_makeSigns_68 : decode m_Arranger_makeSigns.2.1 68 = .ok (.iload_n 3, 1) := by decide +kernel
theorem d_Arranger_makeSigns_69 : decode m_Arranger_makeSigns.2.1 69 = .ok (.iload_n 3, 1) := by decide +kernel
theorem d_Arranger_makeSigns_70 : decode m_Arranger_makeSigns.2.1 70 = .ok (.invokevirtual 110, 3) := by decide +kernel
theorem d_Arranger_makeSigns_73 : decode m_Arranger_makeSigns.2.1 73 = .ok (.aload_n 0, 1) := by decide +kernel
theorem d_Arranger_makeSigns_74 : decode m_Arranger_makeSigns.2.1 74 = .ok (.aload_n 2, 1) := by decide +kernel
theorem d_Arranger_makeSigns_75 : decode m_Arranger_makeSigns.2.1 75 = .ok (.iload 4, 2) := by decide +kernel
theorem d_Arranger_makeSigns_77 : decode m_Arranger_makeSigns.2.1 77 = .ok (.invokestatic 113, 3) := by decide +kernel
theorem d_Arranger_makeSigns_80 : decode m_Arranger_makeSigns.2.1 80 = .ok (.invokevirtual 116, 3) := by decide +kernel
theorem d_Arranger_makeSigns_83 : decode m_Arranger_makeSigns.2.1 83 = .ok (.aload_n 2, 1) := by decide +kernel
theorem d_Arranger_makeSigns_84 : decode m_Arranger_makeSigns.2.1 84 = .ok (.iload 4, 2) := by decide +kernel
theorem d_Arranger_makeSigns_86 : decode m_Arranger_makeSigns.2.1 86 = .ok (.invokestatic 113, 3) := by decide +kernel
theorem d_Arranger_makeSigns_89 : decode m_Arranger_makeSigns.2.1 89 = .ok (.invokevirtual 121, 3) := by decide +kernel
theorem d_Arranger_makeSigns_92 : decode m_Arranger_makeSigns.2.1 92 = .ok (.invokevirtual 124, 3) := by decide +kernel
theorem d_Arranger_makeSigns_95 : decode m_Arranger_makeSigns.2.1 95 = .ok (.aload_n 0, 1) := by decide +kernel
theorem d_Arranger_makeSigns_96 : decode m_Arranger_makeSigns.2.1 96 = .ok (.ldc2_w 128, 3) := by decide +kernel
theorem d_Arranger_makeSigns_99 : decode m_Arranger_makeSigns.2.1 99 = .ok (.iconst 1, 1) := by decide +kernel
theorem d_Arranger_makeSigns_100 : decode m_Arranger_makeSigns.2.1 100 = .ok (.invokevirtual 130, 3) := by decide +kernel
theorem d_Arranger_makeSigns_103 : decode m_Arranger_makeSigns.2.1 103 = .ok (.aload_n 0, 1) := by decide +kernel
theorem d_Arranger_makeSigns_104 : decode m_Arranger_makeSigns.2.1 104 = .ok (.dup, 1) := by decide +kernel
theorem d_Arranger_makeSigns_105 : decode m_Arranger_makeSigns.2.1 105 = .ok (.getfield 34, 3) := by decide +kernel
theorem d_Arranger_makeSigns_108 : decode m_Arranger_makeSigns.2.1 108 = .ok (.iconst 1, 1) := by decide +kernel
theorem d_Arranger_makeSigns_109 : decode m_Arranger_makeSigns.2.1 109 = .ok (.iadd, 1) := by decide +kernel
theorem d_Arranger_makeSigns_110 : decode m_Arranger_makeSigns.2.1 110 = .ok (.putfield 34, 3) := by decide +kernel
theorem d_Arranger_makeSigns_113 : decode m_Arranger_makeSigns.2.1 113 = .ok (.aload_n 0, 1) := by decide +kernel
theorem d_Arranger_makeSigns_114 : decode m_Arranger_makeSigns.2.1 114 = .ok (.getfield 41, 3) := by decide +kernel
theorem d_Arranger_makeSigns_117 : decode m_Arranger_makeSigns.2.1 117 = .ok (.iload 5, 2) := by decide +kernel
theorem d_Arranger_makeSigns_119 : decode m_Arranger_makeSigns.2.1 119 = .ok (.aload_n 0, 1) := by decide +kernel
theorem d_Arranger_makeSigns_120 : decode m_Arranger_makeSigns.2.1 120 = .ok (.getfield 34, 3) := by decide +kernel
theorem d_Arranger_makeSigns_123 : decode m_Arranger_makeSigns.2.1 123 = .ok (.iastore, 1) := by decide +kernel
theorem d_Arranger_makeSigns_124 : decode m_Arranger_makeSigns.2.1 124 = .ok (.iload_n 3, 1) := by decide +kernel
theorem d_Arranger_makeSigns_125 : decode m_Arranger_makeSigns.2.1 125 = .ok (.iconst 1, 1) := by decide +kernel
theorem d_Arranger_makeSigns_126 : decode m_Arranger_makeSigns.2.1 126 = .ok (.iadd, 1) := by decide +kernel
theorem d_Arranger_makeSigns_127 : decode m_Arranger_makeSigns.2.1 127 = .ok (.aload_n 1, 1) := by decide +kernel
theorem d_Arranger_makeSigns_128 : decode m_Arranger_makeSigns.2.1 128 = .ok (.iload_n 3, 1) := by decide +kernel
theorem d_Arranger_makeSigns_129 : decode m_Arranger_makeSigns.2.1 129 = .ok (.invokevirtual 134, 3) := by decide +kernel
theorem d_Arranger_makeSigns_132 : decode m_Arranger_makeSigns.2.1 132 = .ok (.invokestatic 137, 3) := by decide +kernel
theorem d_Arranger_makeSigns_135 : decode m_Arranger_makeSigns.2.1 135 = .ok (.istore_n 3, 1) := by decide +kernel
theorem d_Arranger_makeSigns_136 : decode m_Arranger_makeSigns.2.1 136 = .ok (.goto (-129), 3) := by decide +kernel
theorem d_Arranger_makeSigns_139 : decode m_Arranger_makeSigns.2.1 139 = .ok (.aload_n 0, 1) := by decide +kernel
theorem d_Arranger_makeSigns_140 : decode m_Arranger_makeSigns.2.1 140 = .ok (.getfield 34, 3) := by decide +kernel
theorem d_Arranger_makeSigns_143 : decode m_Arranger_makeSigns.2.1 143 = .ok (.ireturn, 1) := by decide +kernel
theorem b_Arranger_makeSigns_0 {E : EV} {d : Nat} {Q : Option AV → St → Prop} {σ : St} (x1 x2 : Int) (hF : Fix σ) (h : WP E m_Arranger_makeSigns (d + 1) 7 [(0, aP 32), (1, aP x1), (2, aP x2), (3, aI 0)] [] (wr σ 32 7 0) Q) : WP E m_Arranger_makeSigns (d + 1) 0 [(0, aP 32), (1, aP x1), (2, aP x2)] [] σ Q := by
  refine s_aload_n 0 d_Arranger_makeSigns_0 rfl rfl ?_
  refine s_iconst d_Arranger_makeSigns_1 ?_
  refine s_putf 7 rfl d_Arranger_makeSigns_2 fl_Arranger_34 (fun C T h => by cases h; exact Or.inl rfl) rfl (Or.inl rfl) (fun h => nomatch h) (sf_32 hF) ?_
  refine s_iconst d_Arranger_makeSigns_5 ?_
  refine s_istore_n d_Arranger_makeSigns_6 rfl (by decide) rfl ?_
  refine wp_drop [1, 2, 3, 0] rfl ?_
  exact h
theorem e_Arranger_makeSigns {E : EV} {d : Nat} {Q : Option AV → St → Prop} {σ : St} (x1 x2 : Int) (hF : Fix σ) (h : WP E m_Arranger_makeSigns (d + 1) 7 [(0, aP 32), (1, aP x1), (2, aP x2), (3, aI 0)] [] (wr σ 32 7 0) Q) : WM E m_Arranger_makeSigns (d + 1) [aP 32, aP x1, aP x2] σ Q := s_meth (by decide) (Nat.le_of_ble_eq_true rfl) rfl (b_Arranger_makeSigns_0 x1 x2 hF h)
theorem b_Arranger_makeSigns_7 {E : EV} {d : Nat} {Q : Option AV → St → Prop} {σ : St} (x1 x2 x3 : Int) (hF : Fix σ) (h : (sh σ x1 = some (7, 1)) ∧ (WMi E m_Sq_length d [aP x1] σ (fun v1 σ1 => Fix σ1 ∧ (rI x3) ∧ (rI v1) ∧ ((v1 ≤ x3 → Q (some (aI (σ1.1 32 7))) σ1) ∧ (¬ v1 ≤ x3 → (rI (σ1.1 32 7)) ∧ ((6 ≤ (σ1.1 32 7) → Q (some (aI (σ1.1 32 7))) σ1) ∧ (¬ 6 ≤ (σ1.1 32 7) → (sh σ1 x1 = some (7, 1)) ∧ (WMi E m_Sq_symbol d [aP x1, aI x3] σ1 (fun v6 σ6 => Fix σ6 ∧ (WMi E m_S_isJoint d [aI v6] σ6 (fun v8 σ8 => Fix σ8 ∧ (rI v8) ∧ ((v8 = 0 → (WMi E m_Arranger_spanOfSigns d [aI (σ8.1 32 7), aI 1] σ8 (fun v10 σ10 => Fix σ10 ∧ (0 ≤ v10 ∧ v10 < 49) ∧ (WMv E m_Arranger_keep d [aP 32, aI 0, aI x3, aI x3] (wr σ10 40 v10 (σ10.1 32 7)) (fun σ12 => Fix σ12 ∧ (WMi E m_S_letterOf d [aI v6] σ12 (fun v13 σ13 => Fix σ13 ∧ (sh σ13 x2 = some (8, 4)) ∧ (WMi E m_Table_wideOf d [aP x2, aI v13] σ13 (fun v14 σ14 => Fix σ14 ∧ (WMi E m_S_letterOf d [aI v6] σ14 (fun v16 σ16 => Fix σ16 ∧ (sh σ16 x2 = some (8, 4)) ∧ (WMi E m_Table_highOf d [aP x2, aI v16] σ16 (fun v17 σ17 => Fix σ17 ∧ (WMv E m_Arranger_keepSize d [aP 32, aI v14, aI v17] σ17 (fun σ19 => Fix σ19 ∧ (WMv E m_Arranger_keepText d [aP 32, aL 5, aI 1] σ19 (fun σ20 => Fix σ20 ∧ (0 ≤ v10 ∧ v10 < 49) ∧ (sh (wr (wr σ20 32 7 ((σ20.1 32 7) + 1)) 41 v10 ((σ20.1 32 7) + 1)) x1 = some (7, 1)) ∧ (WMi E m_Sq_endOf d [aP x1, aI x3] (wr (wr σ20 32 7 ((σ20.1 32 7) + 1)) 41 v10 ((σ20.1 32 7) + 1)) (fun v22 σ22 => (rI (x3 + 1)) ∧ (rI v22) ∧ WP E m_Arranger_makeSigns (d + 1) 7 [(0, aP 32), (1, aP x1), (2, aP x2), (3, aI (max (x3 + 1) v22))] [] σ22 Q))))))))))))))))))) ∧ (¬ v8 = 0 → WP E m_Arranger_makeSigns (d + 1) 7 [(0, aP 32), (1, aP x1), (2, aP x2), (3, aI (x3 + 1))] [] σ8 Q))))))))))))) : WP E m_Arranger_makeSigns (d + 1) 7 [(0, aP 32), (1, aP x1), (2, aP x2), (3, aI x3)] [] σ Q := by
  refine s_iload_n 3 d_Arranger_makeSigns_7 rfl rfl ?_
  refine s_aload_n 1 d_Arranger_makeSigns_8 rfl rfl ?_
  obtain ⟨g2, h⟩ := h
  refine s_callV (as := []) (ci := 7) d_Arranger_makeSigns_9 ok_Sq_length lk_Arranger_96 io_Sq_length so_Sq_length (by decide) rfl rfl rfl (Nat.le_of_ble_eq_true rfl) rfl g2 (WM.mono h ?_)
  rintro _ σ1 ⟨v1, rfl, hp, h⟩
  obtain ⟨hF2, h⟩ := h
  show WP E m_Arranger_makeSigns (d + 1) 12 [(0, aP 32), (1, aP x1), (2, aP x2), (3, aI x3)] [aI v1, aI x3] σ1 Q
  obtain ⟨g3, h⟩ := h
  obtain ⟨g4, h⟩ := h
  refine s_icmp_ge d_Arranger_makeSigns_12 rfl g3 g4 (fun c => ?_) (fun c => ?_)
  · have h := h.1 c
    refine s_aload_n 0 d_Arranger_makeSigns_139 rfl rfl ?_
    refine s_getF (v := σ1.1 32 7) d_Arranger_makeSigns_140 fl_Arranger_34 rfl (sf_32 hF2) rfl ?_
    exact s_ireturn d_Arranger_makeSigns_143 rfl h
  · have h := h.2 c
    refine s_aload_n 0 d_Arranger_makeSigns_15 rfl rfl ?_
    refine s_getF (v := σ1.1 32 7) d_Arranger_makeSigns_16 fl_Arranger_34 rfl (sf_32 hF2) rfl ?_
    refine s_bipush d_Arranger_makeSigns_19 (by decide) ?_
    obtain ⟨g5, h⟩ := h
    refine s_icmp_ge d_Arranger_makeSigns_21 rfl g5 (by decide) (fun c => ?_) (fun c => ?_)
    · have h := h.1 c
      refine s_aload_n 0 d_Arranger_makeSigns_139 rfl rfl ?_
      refine s_getF (v := σ1.1 32 7) d_Arranger_makeSigns_140 fl_Arranger_34 rfl (sf_32 hF2) rfl ?_
      exact s_ireturn d_Arranger_makeSigns_143 rfl h
    · have h := h.2 c
      refine s_aload_n 1 d_Arranger_makeSigns_24 rfl rfl ?_
      refine s_iload_n 3 d_Arranger_makeSigns_25 rfl rfl ?_
      obtain ⟨g7, h⟩ := h
      refine s_callV (as := [aI x3]) (ci := 7) d_Arranger_makeSigns_26 ok_Sq_symbol lk_Arranger_102 io_Sq_symbol so_Sq_symbol (by decide) rfl rfl rfl (Nat.le_of_ble_eq_true rfl) rfl g7 (WM.mono h ?_)
      rintro _ σ6 ⟨v6, rfl, hp, h⟩
      obtain ⟨hF7, h⟩ := h
      show WP E m_Arranger_makeSigns (d + 1) 29 [(0, aP 32), (1, aP x1), (2, aP x2), (3, aI x3)] [aI v6] σ6 Q
      refine s_istore d_Arranger_makeSigns_29 (by decide) rfl ?_
      refine s_iload 0 d_Arranger_makeSigns_31 rfl ?_
      refine s_callS (as := [aI v6]) d_Arranger_makeSigns_33 ok_S_isJoint lk_Arranger_106 to_S_isJoint rfl (Nat.le_of_ble_eq_true rfl) rfl (WM.mono h ?_)
      rintro _ σ8 ⟨v8, rfl, hp, h⟩
      obtain ⟨hF8, h⟩ := h
      show WP E m_Arranger_makeSigns (d + 1) 36 [(4, aI v6), (0, aP 32), (1, aP x1), (2, aP x2), (3, aI x3)] [aI v8] σ8 Q
      obtain ⟨g9, h⟩ := h
      refine s_if_eq d_Arranger_makeSigns_36 rfl g9 (fun c => ?_) (fun c => ?_)
      · have h := h.1 c
        refine s_aload_n 1 d_Arranger_makeSigns_45 rfl rfl ?_
        refine s_getF (v := σ8.1 32 7) d_Arranger_makeSigns_46 fl_Arranger_34 rfl (sf_32 hF8) rfl ?_
        refine s_iconst d_Arranger_makeSigns_49 ?_
        refine s_callS (as := [aI (σ8.1 32 7), aI 1]) d_Arranger_makeSigns_50 ok_Arranger_spanOfSigns lk_Arranger_81 to_Arranger_spanOfSigns rfl (Nat.le_of_ble_eq_true rfl) rfl (WM.mono h ?_)
        rintro _ σ10 ⟨v10, rfl, hp, h⟩
        obtain ⟨hF10, h⟩ := h
        show WP E m_Arranger_makeSigns (d + 1) 53 [(4, aI v6), (0, aP 32), (1, aP x1), (2, aP x2), (3, aI x3)] [aI v10] σ10 Q
        refine s_istore d_Arranger_makeSigns_53 (by decide) rfl ?_
        refine s_aload_n 2 d_Arranger_makeSigns_55 rfl rfl ?_
        refine s_getF (v := 40) d_Arranger_makeSigns_56 fl_Arranger_38 rfl (sf_32 hF10) (ff_26 hF10) ?_
        refine s_iload 0 d_Arranger_makeSigns_59 rfl ?_
        refine s_aload_n 2 d_Arranger_makeSigns_61 rfl rfl ?_
        refine s_getF (v := σ10.1 32 7) d_Arranger_makeSigns_62 fl_Arranger_34 rfl (sf_32 hF10) rfl ?_
        obtain ⟨g11, h⟩ := h
        refine s_iastore d_Arranger_makeSigns_65 ⟨_, sf_40 hF10, g11.1, g11.2, by have := g11.2; omega⟩ ?_
        refine s_aload_n 2 d_Arranger_makeSigns_66 rfl rfl ?_
        refine s_iconst d_Arranger_makeSigns_67 ?_
        refine s_iload_n 5 d_Arranger_makeSigns_68 rfl rfl ?_
        refine s_iload_n 5 d_Arranger_makeSigns_69 rfl rfl ?_
        refine s_callV (as := [aI 0, aI x3, aI x3]) (ci := 0) d_Arranger_makeSigns_70 ok_Arranger_keep lk_Arranger_110 io_Arranger_keep so_Arranger_keep (by decide) rfl rfl rfl (Nat.le_of_ble_eq_true rfl) rfl (sf_32 (hF10.wa (a := 40) (by decide))) (WM.mono h ?_)
        rintro _ σ12 ⟨rfl, hp, h⟩
        obtain ⟨hF12, h⟩ := h
        show WP E m_Arranger_makeSigns (d + 1) 73 [(5, aI v10), (4, aI v6), (0, aP 32), (1, aP x1), (2, aP x2), (3, aI x3)] [] σ12 Q
        refine s_aload_n 2 d_Arranger_makeSigns_73 rfl rfl ?_
        refine s_aload_n 4 d_Arranger_makeSigns_74 rfl rfl ?_
        refine s_iload 1 d_Arranger_makeSigns_75 rfl ?_
        refine s_callS (as := [aI v6]) d_Arranger_makeSigns_77 ok_S_letterOf lk_Arranger_113 to_S_letterOf rfl (Nat.le_of_ble_eq_true rfl) rfl (WM.mono h ?_)
        rintro _ σ13 ⟨v13, rfl, hp, h⟩
        obtain ⟨hF13, h⟩ := h
        show WP E m_Arranger_makeSigns (d + 1) 80 [(5, aI v10), (4, aI v6), (0, aP 32), (1, aP x1), (2, aP x2), (3, aI x3)] [aI v13, aP x2, aP 32] σ13 Q
        obtain ⟨g15, h⟩ := h
        refine s_callV (as := [aI v13]) (ci := 8) d_Arranger_makeSigns_80 ok_Table_wideOf lk_Arranger_116 io_Table_wideOf so_Table_wideOf (by decide) rfl rfl rfl (Nat.le_of_ble_eq_true rfl) rfl g15 (WM.mono h ?_)
        rintro _ σ14 ⟨v14, rfl, hp, h⟩
        obtain ⟨hF15, h⟩ := h
        show WP E m_Arranger_makeSigns (d + 1) 83 [(5, aI v10), (4, aI v6), (0, aP 32), (1, aP x1), (2, aP x2), (3, aI x3)] [aI v14, aP 32] σ14 Q
        refine s_aload_n 4 d_Arranger_makeSigns_83 rfl rfl ?_
        refine s_iload 1 d_Arranger_makeSigns_84 rfl ?_
        refine s_callS (as := [aI v6]) d_Arranger_makeSigns_86 ok_S_letterOf lk_Arranger_113 to_S_letterOf rfl (Nat.le_of_ble_eq_true rfl) rfl (WM.mono h ?_)
        rintro _ σ16 ⟨v16, rfl, hp, h⟩
        obtain ⟨hF16, h⟩ := h
        show WP E m_Arranger_makeSigns (d + 1) 89 [(5, aI v10), (4, aI v6), (0, aP 32), (1, aP x1), (2, aP x2), (3, aI x3)] [aI v16, aP x2, aI v14, aP 32] σ16 Q
        obtain ⟨g18, h⟩ := h
        refine s_callV (as := [aI v16]) (ci := 8) d_Arranger_makeSigns_89 ok_Table_highOf lk_Arranger_121 io_Table_highOf so_Table_highOf (by decide) rfl rfl rfl (Nat.le_of_ble_eq_true rfl) rfl g18 (WM.mono h ?_)
        rintro _ σ17 ⟨v17, rfl, hp, h⟩
        obtain ⟨hF18, h⟩ := h
        show WP E m_Arranger_makeSigns (d + 1) 92 [(5, aI v10), (4, aI v6), (0, aP 32), (1, aP x1), (2, aP x2), (3, aI x3)] [aI v17, aI v14, aP 32] σ17 Q
        refine s_callV (as := [aI v14, aI v17]) (ci := 0) d_Arranger_makeSigns_92 ok_Arranger_keepSize lk_Arranger_124 io_Arranger_keepSize so_Arranger_keepSize (by decide) rfl rfl rfl (Nat.le_of_ble_eq_true rfl) rfl (sf_32 hF18) (WM.mono h ?_)
        rintro _ σ19 ⟨rfl, hp, h⟩
        obtain ⟨hF19, h⟩ := h
        show WP E m_Arranger_makeSigns (d + 1) 95 [(5, aI v10), (4, aI v6), (0, aP 32), (1, aP x1), (2, aP x2), (3, aI x3)] [] σ19 Q
        refine s_aload_n 2 d_Arranger_makeSigns_95 rfl rfl ?_
        refine s_ldc2 (v := 5) d_Arranger_makeSigns_96 ll_Arranger_128 (by decide) ?_
        refine s_iconst d_Arranger_makeSigns_99 ?_
        refine s_callV (as := [aL 5, aI 1]) (ci := 0) d_Arranger_makeSigns_100 ok_Arranger_keepText lk_Arranger_130 io_Arranger_keepText so_Arranger_keepText (by decide) rfl rfl rfl (Nat.le_of_ble_eq_true rfl) rfl (sf_32 hF19) (WM.mono h ?_)
        rintro _ σ20 ⟨rfl, hp, h⟩
        obtain ⟨hF20, h⟩ := h
        show WP E m_Arranger_makeSigns (d + 1) 103 [(5, aI v10), (4, aI v6), (0, aP 32), (1, aP x1), (2, aP x2), (3, aI x3)] [] σ20 Q
        refine s_aload_n 2 d_Arranger_makeSigns_103 rfl rfl ?_
        refine s_dup d_Arranger_makeSigns_104 (Nat.ne_of_beq_eq_false rfl) ?_
        refine s_getF (v := σ20.1 32 7) d_Arranger_makeSigns_105 fl_Arranger_34 rfl (sf_32 hF20) rfl ?_
        refine s_iconst d_Arranger_makeSigns_108 ?_
        refine s_iadd d_Arranger_makeSigns_109 ?_
        refine s_putf 7 rfl d_Arranger_makeSigns_110 fl_Arranger_34 (fun C T h => by cases h; exact Or.inl rfl) rfl (Or.inl rfl) (fun h => nomatch h) (sf_32 hF20) ?_
        refine s_aload_n 2 d_Arranger_makeSigns_113 rfl rfl ?_
        refine s_getF (v := 41) d_Arranger_makeSigns_114 fl_Arranger_41 rfl (sf_32 (hF20.wf (a := 32) (k := 7) (by decide))) (ff_27 (hF20.wf (a := 32) (k := 7) (by decide))) ?_
        refine s_iload 0 d_Arranger_makeSigns_117 rfl ?_
        refine s_aload_n 2 d_Arranger_makeSigns_119 rfl rfl ?_
        refine s_getF (v := (σ20.1 32 7) + 1) d_Arranger_makeSigns_120 fl_Arranger_34 rfl (sf_32 (hF20.wf (a := 32) (k := 7) (by decide))) rfl ?_
        obtain ⟨g21, h⟩ := h
        refine s_iastore d_Arranger_makeSigns_123 ⟨_, sf_41 (hF20.wf (a := 32) (k := 7) (by decide)), g21.1, g21.2, by have := g21.2; omega⟩ ?_
        refine s_iload_n 5 d_Arranger_makeSigns_124 rfl rfl ?_
        refine s_iconst d_Arranger_makeSigns_125 ?_
        refine s_iadd d_Arranger_makeSigns_126 ?_
        refine s_aload_n 3 d_Arranger_makeSigns_127 rfl rfl ?_
        refine s_iload_n 5 d_Arranger_makeSigns_128 rfl rfl ?_
        obtain ⟨g23, h⟩ := h
        refine s_callV (as := [aI x3]) (ci := 7) d_Arranger_makeSigns_129 ok_Sq_endOf lk_Arranger_134 io_Sq_endOf so_Sq_endOf (by decide) rfl rfl rfl (Nat.le_of_ble_eq_true rfl) rfl g23 (WM.mono h ?_)
        rintro _ σ22 ⟨v22, rfl, hp, h⟩
        show WP E m_Arranger_makeSigns (d + 1) 132 [(5, aI v10), (4, aI v6), (0, aP 32), (1, aP x1), (2, aP x2), (3, aI x3)] [aI v22, aI (x3 + 1)] σ22 Q
        obtain ⟨g24, h⟩ := h
        obtain ⟨g25, h⟩ := h
        refine s_mmax d_Arranger_makeSigns_132 lm_Arranger_137 lm_max_s lm_i lm_max_c (Nat.le_of_ble_eq_true rfl) g24 g25 ?_
        refine s_istore_n d_Arranger_makeSigns_135 rfl (by decide) rfl ?_
        refine s_goto d_Arranger_makeSigns_136 rfl ?_
        refine wp_drop [3, 4, 5, 0] rfl ?_
        exact h
      · have h := h.2 c
        refine s_iinc 4 d_Arranger_makeSigns_39 rfl (by decide) rfl ?_
        refine s_goto d_Arranger_makeSigns_42 rfl ?_
        refine wp_drop [2, 3, 4, 0] rfl ?_
        exact h
theorem d_Arranger_spanOfSigns_0 : decode m_Arranger_spanOfSigns.2.1 0 = .ok (.iconst 0, 1) := by decide +kernel
theorem d_Arranger_spanOfSigns_1 : decode m_Arranger_spanOfSigns.2.1 1 = .ok (.bipush 48, 2) := by decide +kernel
theorem d_Arranger_spanOfSigns_3 : decode m_Arranger_spanOfSigns.2.1 3 = .ok (.iload_n 0, 1) := by decide +kernel
theorem d_Arranger_spanOfSigns_4 : decode m_Arranger_spanOfSigns.2.1 4 = .ok (.bipush 7, 2) := by decide +kernel
theorem d_Arranger_spanOfSigns_6 : decode m_Arranger_spanOfSigns.2.1 6 = .ok (.imul, 1) := by decide +kernel
theorem d_Arranger_spanOfSigns_7 : decode m_Arranger_spanOfSigns.2.1 7 = .ok (.iload_n 1, 1) := by decide +kernel
theorem d_Arranger_spanOfSigns_8 : decode m_Arranger_spanOfSigns.2.1 8 = .ok (.iadd, 1) := by decide +kernel
theorem d_Arranger_spanOfSigns_9 : decode m_Arranger_spanOfSigns.2.1 9 = .ok (.invokestatic 142, 3) := by decide +kernel
theorem d_Arranger_spanOfSigns_12 : decode m_Arranger_spanOfSigns.2.1 12 = .ok (.invokestatic 137, 3) := by decide +kernel
theorem d_Arranger_spanOfSigns_15 : decode m_Arranger_spanOfSigns.2.1 15 = .ok (.ireturn, 1) := by decide +kernel
theorem b_Arranger_spanOfSigns_0 {E : EV} {d : Nat} {Q : Option AV → St → Prop} {σ : St} (x0 x1 : Int) (h : (rI ((x0 * 7) + x1)) ∧ (rI (min 48 ((x0 * 7) + x1))) ∧ Q (some (aI (max 0 (min 48 ((x0 * 7) + x1))))) σ) : WP E m_Arranger_spanOfSigns (d + 1) 0 [(0, aI x0), (1, aI x1)] [] σ Q := by
  refine s_iconst d_Arranger_spanOfSigns_0 ?_
  refine s_bipush d_Arranger_spanOfSigns_1 (by decide) ?_
  refine s_iload_n 0 d_Arranger_spanOfSigns_3 rfl rfl ?_
  refine s_bipush d_Arranger_spanOfSigns_4 (by decide) ?_
  refine s_imul d_Arranger_spanOfSigns_6 ?_
  refine s_iload_n 1 d_Arranger_spanOfSigns_7 rfl rfl ?_
  refine s_iadd d_Arranger_spanOfSigns_8 ?_
  obtain ⟨g1, h⟩ := h
  refine s_mmin d_Arranger_spanOfSigns_9 lm_Arranger_142 lm_min_s lm_i lm_min_c (Nat.le_of_ble_eq_true rfl) (by decide) g1 ?_
  obtain ⟨g2, h⟩ := h
  refine s_mmax d_Arranger_spanOfSigns_12 lm_Arranger_137 lm_max_s lm_i lm_max_c (Nat.le_of_ble_eq_true rfl) (by decide) g2 ?_
  exact s_ireturn d_Arranger_spanOfSigns_15 rfl h
theorem e_Arranger_spanOfSigns {E : EV} {d : Nat} {Q : Option AV → St → Prop} {σ : St} (x0 x1 : Int) (h : (rI ((x0 * 7) + x1)) ∧ (rI (min 48 ((x0 * 7) + x1))) ∧ Q (some (aI (max 0 (min 48 ((x0 * 7) + x1))))) σ) : WM E m_Arranger_spanOfSigns (d + 1) [aI x0, aI x1] σ Q := s_meth (by decide) (Nat.le_of_ble_eq_true rfl) rfl (b_Arranger_spanOfSigns_0 x0 x1 h)
theorem d_Arranger_keep_0 : decode m_Arranger_keep.2.1 0 = .ok (.aload_n 0, 1) := by decide +kernel
theorem d_Arranger_keep_1 : decode m_Arranger_keep.2.1 1 = .ok (.getfield 34, 3) := by decide +kernel
theorem d_Arranger_keep_4 : decode m_Arranger_keep.2.1 4 = .ok (.sipush 680, 3) := by decide +kernel
theorem d_Arranger_keep_7 : decode m_Arranger_keep.2.1 7 = .ok (.if_icmp .ge 33, 3) := by decide +kernel
theorem d_Arranger_keep_10 : decode m_Arranger_keep.2.1 10 = .ok (.aload_n 0, 1) := by decide +kernel
theorem d_Arranger_keep_11 : decode m_Arranger_keep.2.1 11 = .ok (.getfield 11, 3) := by decide +kernel
theorem d_Arranger_keep_14 : decode m_Arranger_keep.2.1 14 = .ok (.aload_n 0, 1) := by decide +kernel
theorem d_Arranger_keep_15 : decode m_Arranger_keep.2.1 15 = .ok (.getfield 34, 3) := by decide +kernel
theorem d_Arranger_keep_18 : decode m_Arranger_keep.2.1 18 = .ok (.iload_n 1, 1) := by decide +kernel
theorem d_Arranger_keep_19 : decode m_Arranger_keep.2.1 19 = .ok (.iastore, 1) := by decide +kernel
theorem d_Arranger_keep_20 : decode m_Arranger_keep.2.1 20 = .ok (.aload_n 0, 1) := by decide +kernel
theorem d_Arranger_keep_21 : decode m_Arranger_keep.2.1 21 = .ok (.getfield 15, 3) := by decide +kernel
theorem d_Arranger_keep_24 : decode m_Arranger_keep.2.1 24 = .ok (.aload_n 0, 1) := by decide +kernel
theorem d_Arranger_keep_25 : decode m_Arranger_keep.2.1 25 = .ok (.getfield 34, 3) := by decide +kernel
theorem d_Arranger_keep_28 : decode m_Arranger_keep.2.1 28 = .ok (.iload_n 2, 1) := by decide +kernel
theorem d_Arranger_keep_29 : decode m_Arranger_keep.2.1 29 = .ok (.iastore, 1) := by decide +kernel
theorem d_Arranger_keep_30 : decode m_Arranger_keep.2.1 30 = .ok (.aload_n 0, 1) := by decide +kernel
theorem d_Arranger_keep_31 : decode m_Arranger_keep.2.1 31 = .ok (.getfield 18, 3) := by decide +kernel
theorem d_Arranger_keep_34 : decode m_Arranger_keep.2.1 34 = .ok (.aload_n 0, 1) := by decide +kernel
theorem d_Arranger_keep_35 : decode m_Arranger_keep.2.1 35 = .ok (.getfield 34, 3) := by decide +kernel
theorem d_Arranger_keep_38 : decode m_Arranger_keep.2.1 38 = .ok (.iload_n 3, 1) := by decide +kernel
theorem d_Arranger_keep_39 : decode m_Arranger_keep.2.1 39 = .ok (.iastore, 1) := by decide +kernel
theorem d_Arranger_keep_40 : decode m_Arranger_keep.2.1 40 = .ok (.return_, 1) := by decide +kernel
theorem b_Arranger_keep_0 {E : EV} {d : Nat} {Q : Option AV → St → Prop} {σ : St} (x1 x2 x3 : Int) (hF : Fix σ) (h : (rI (σ.1 32 7)) ∧ ((680 ≤ (σ.1 32 7) → Q none σ) ∧ (¬ 680 ≤ (σ.1 32 7) → (0 ≤ (σ.1 32 7) ∧ (σ.1 32 7) < 680) ∧ (0 ≤ (σ.1 32 7) ∧ (σ.1 32 7) < 680) ∧ (0 ≤ (σ.1 32 7) ∧ (σ.1 32 7) < 680) ∧ Q none (wr (wr (wr σ 33 (σ.1 32 7) x1) 34 (σ.1 32 7) x2) 35 (σ.1 32 7) x3)))) : WP E m_Arranger_keep d 0 [(0, aP 32), (1, aI x1), (2, aI x2), (3, aI x3)] [] σ Q := by
  refine s_aload_n 0 d_Arranger_keep_0 rfl rfl ?_
  refine s_getF (v := σ.1 32 7) d_Arranger_keep_1 fl_Arranger_34 rfl (sf_32 hF) rfl ?_
  refine s_sipush d_Arranger_keep_4 (by decide) ?_
  obtain ⟨g1, h⟩ := h
  refine s_icmp_ge d_Arranger_keep_7 rfl g1 (by decide) (fun c => ?_) (fun c => ?_)
  · have h := h.1 c
    exact s_return d_Arranger_keep_40 rfl h
  · have h := h.2 c
    refine s_aload_n 0 d_Arranger_keep_10 rfl rfl ?_
    refine s_getF (v := 33) d_Arranger_keep_11 fl_Arranger_11 rfl (sf_32 hF) (ff_19 hF) ?_
    refine s_aload_n 0 d_Arranger_keep_14 rfl rfl ?_
    refine s_getF (v := σ.1 32 7) d_Arranger_keep_15 fl_Arranger_34 rfl (sf_32 hF) rfl ?_
    refine s_iload_n 1 d_Arranger_keep_18 rfl rfl ?_
    obtain ⟨g2, h⟩ := h
    refine s_iastore d_Arranger_keep_19 ⟨_, sf_33 hF, g2.1, g2.2, by have := g2.2; omega⟩ ?_
    refine s_aload_n 0 d_Arranger_keep_20 rfl rfl ?_
    refine s_getF (v := 34) d_Arranger_keep_21 fl_Arranger_15 rfl (sf_32 (hF.wa (a := 33) (by decide))) (ff_20 (hF.wa (a := 33) (by decide))) ?_
    refine s_aload_n 0 d_Arranger_keep_24 rfl rfl ?_
    refine s_getF (v := σ.1 32 7) d_Arranger_keep_25 fl_Arranger_34 rfl (sf_32 (hF.wa (a := 33) (by decide))) rfl ?_
    refine s_iload_n 2 d_Arranger_keep_28 rfl rfl ?_
    obtain ⟨g3, h⟩ := h
    refine s_iastore d_Arranger_keep_29 ⟨_, sf_34 (hF.wa (a := 33) (by decide)), g3.1, g3.2, by have := g3.2; omega⟩ ?_
    refine s_aload_n 0 d_Arranger_keep_30 rfl rfl ?_
    refine s_getF (v := 35) d_Arranger_keep_31 fl_Arranger_18 rfl (sf_32 ((hF.wa (a := 33) (by decide)).wa (a := 34) (by decide))) (ff_21 ((hF.wa (a := 33) (by decide)).wa (a := 34) (by decide))) ?_
    refine s_aload_n 0 d_Arranger_keep_34 rfl rfl ?_
    refine s_getF (v := σ.1 32 7) d_Arranger_keep_35 fl_Arranger_34 rfl (sf_32 ((hF.wa (a := 33) (by decide)).wa (a := 34) (by decide))) rfl ?_
    refine s_iload_n 3 d_Arranger_keep_38 rfl rfl ?_
    obtain ⟨g4, h⟩ := h
    refine s_iastore d_Arranger_keep_39 ⟨_, sf_35 ((hF.wa (a := 33) (by decide)).wa (a := 34) (by decide)), g4.1, g4.2, by have := g4.2; omega⟩ ?_
    exact s_return d_Arranger_keep_40 rfl h
theorem e_Arranger_keep {E : EV} {d : Nat} {Q : Option AV → St → Prop} {σ : St} (x1 x2 x3 : Int) (hF : Fix σ) (h : (rI (σ.1 32 7)) ∧ ((680 ≤ (σ.1 32 7) → Q none σ) ∧ (¬ 680 ≤ (σ.1 32 7) → (0 ≤ (σ.1 32 7) ∧ (σ.1 32 7) < 680) ∧ (0 ≤ (σ.1 32 7) ∧ (σ.1 32 7) < 680) ∧ (0 ≤ (σ.1 32 7) ∧ (σ.1 32 7) < 680) ∧ Q none (wr (wr (wr σ 33 (σ.1 32 7) x1) 34 (σ.1 32 7) x2) 35 (σ.1 32 7) x3)))) : WM E m_Arranger_keep d [aP 32, aI x1, aI x2, aI x3] σ Q := s_meth (by decide) (Nat.le_of_ble_eq_true rfl) rfl (b_Arranger_keep_0 x1 x2 x3 hF h)
theorem d_Arranger_keepSize_0 : decode m_Arranger_keepSize.2.1 0 = .ok (.aload_n 0, 1) := by decide +kernel
theorem d_Arranger_keepSize_1 : decode m_Arranger_keepSize.2.1 1 = .ok (.getfield 34, 3) := by decide +kernel
theorem d_Arranger_keepSize_4 : decode m_Arranger_keepSize.2.1 4 = .ok (.sipush 680, 3) := by decide +kernel
theorem d_Arranger_keepSize_7 : decode m_Arranger_keepSize.2.1 7 = .ok (.if_icmp .ge 23, 3) := by decide +kernel
theorem d_Arranger_keepSize_10 : decode m_Arranger_keepSize.2.1 10 = .ok (.aload_n 0, 1) := by decide +kernel
theorem d_Arranger_keepSize_11 : decode m_Arranger_keepSize.2.1 11 = .ok (.getfield 21, 3) := by decide +kernel
theorem d_Arranger_keepSize_14 : decode m_Arranger_keepSize.2.1 14 = .ok (.aload_n 0, 1) := by decide +kernel
theorem d_Arranger_keepSize_15 : decode m_Arranger_keepSize.2.1 15 = .ok (.getfield 34, 3) := by decide +kernel
theorem d_Arranger_keepSize_18 : decode m_Arranger_keepSize.2.1 18 = .ok (.iload_n 1, 1) := by decide +kernel
theorem d_Arranger_keepSize_19 : decode m_Arranger_keepSize.2.1 19 = .ok (.iastore, 1) := by decide +kernel
theorem d_Arranger_keepSize_20 : decode m_Arranger_keepSize.2.1 20 = .ok (.aload_n 0, 1) := by decide +kernel
theorem d_Arranger_keepSize_21 : decode m_Arranger_keepSize.2.1 21 = .ok (.getfield 24, 3) := by decide +kernel
theorem d_Arranger_keepSize_24 : decode m_Arranger_keepSize.2.1 24 = .ok (.aload_n 0, 1) := by decide +kernel
theorem d_Arranger_keepSize_25 : decode m_Arranger_keepSize.2.1 25 = .ok (.getfield 34, 3) := by decide +kernel
theorem d_Arranger_keepSize_28 : decode m_Arranger_keepSize.2.1 28 = .ok (.iload_n 2, 1) := by decide +kernel
theorem d_Arranger_keepSize_29 : decode m_Arranger_keepSize.2.1 29 = .ok (.iastore, 1) := by decide +kernel
theorem d_Arranger_keepSize_30 : decode m_Arranger_keepSize.2.1 30 = .ok (.return_, 1) := by decide +kernel
theorem b_Arranger_keepSize_0 {E : EV} {d : Nat} {Q : Option AV → St → Prop} {σ : St} (x1 x2 : Int) (hF : Fix σ) (h : (rI (σ.1 32 7)) ∧ ((680 ≤ (σ.1 32 7) → Q none σ) ∧ (¬ 680 ≤ (σ.1 32 7) → (0 ≤ (σ.1 32 7) ∧ (σ.1 32 7) < 680) ∧ (0 ≤ (σ.1 32 7) ∧ (σ.1 32 7) < 680) ∧ Q none (wr (wr σ 36 (σ.1 32 7) x1) 37 (σ.1 32 7) x2)))) : WP E m_Arranger_keepSize d 0 [(0, aP 32), (1, aI x1), (2, aI x2)] [] σ Q := by
  refine s_aload_n 0 d_Arranger_keepSize_0 rfl rfl ?_
  refine s_getF (v := σ.1 32 7) d_Arranger_keepSize_1 fl_Arranger_34 rfl (sf_32 hF) rfl ?_
  refine s_sipush d_Arranger_keepSize_4 (by decide) ?_
  obtain ⟨g1, h⟩ := h
  refine s_icmp_ge d_Arranger_keepSize_7 rfl g1 (by decide) (fun c => ?_) (fun c => ?_)
  · have h := h.1 c
    exact s_return d_Arranger_keepSize_30 rfl h
  · have h := h.2 c
    refine s_aload_n 0 d_Arranger_keepSize_10 rfl rfl ?_
    refine s_getF (v := 36) d_Arranger_keepSize_11 fl_Arranger_21 rfl (sf_32 hF) (ff_22 hF) ?_
    refine s_aload_n 0 d_Arranger_keepSize_14 rfl rfl ?_
    refine s_getF (v := σ.1 32 7) d_Arranger_keepSize_15 fl_Arranger_34 rfl (sf_32 hF) rfl ?_
    refine s_iload_n 1 d_Arranger_keepSize_18 rfl rfl ?_
    obtain ⟨g2, h⟩ := h
    refine s_iastore d_Arranger_keepSize_19 ⟨_, sf_36 hF, g2.1, g2.2, by have := g2.2; omega⟩ ?_
    refine s_aload_n 0 d_Arranger_keepSize_20 rfl rfl ?_
    refine s_getF (v := 37) d_Arranger_keepSize_21 fl_Arranger_24 rfl (sf_32 (hF.wa (a := 36) (by decide))) (ff_23 (hF.wa (a := 36) (by decide))) ?_
    refine s_aload_n 0 d_Arranger_keepSize_24 rfl rfl ?_
    refine s_getF (v := σ.1 32 7) d_Arranger_keepSize_25 fl_Arranger_34 rfl (sf_32 (hF.wa (a := 36) (by decide))) rfl ?_
    refine s_iload_n 2 d_Arranger_keepSize_28 rfl rfl ?_
    obtain ⟨g3, h⟩ := h
    refine s_iastore d_Arranger_keepSize_29 ⟨_, sf_37 (hF.wa (a := 36) (by decide)), g3.1, g3.2, by have := g3.2; omega⟩ ?_
    exact s_return d_Arranger_keepSize_30 rfl h
theorem e_Arranger_keepSize {E : EV} {d : Nat} {Q : Option AV → St → Prop} {σ : St} (x1 x2 : Int) (hF : Fix σ) (h : (rI (σ.1 32 7)) ∧ ((680 ≤ (σ.1 32 7) → Q none σ) ∧ (¬ 680 ≤ (σ.1 32 7) → (0 ≤ (σ.1 32 7) ∧ (σ.1 32 7) < 680) ∧ (0 ≤ (σ.1 32 7) ∧ (σ.1 32 7) < 680) ∧ Q none (wr (wr σ 36 (σ.1 32 7) x1) 37 (σ.1 32 7) x2)))) : WM E m_Arranger_keepSize d [aP 32, aI x1, aI x2] σ Q := s_meth (by decide) (Nat.le_of_ble_eq_true rfl) rfl (b_Arranger_keepSize_0 x1 x2 hF h)
theorem d_Arranger_keepText_0 : decode m_Arranger_keepText.2.1 0 = .ok (.aload_n 0, 1) := by decide +kernel
theorem d_Arranger_keepText_1 : decode m_Arranger_keepText.2.1 1 = .ok (.getfield 34, 3) := by decide +kernel
theorem d_Arranger_keepText_4 : decode m_Arranger_keepText.2.1 4 = .ok (.sipush 680, 3) := by decide +kernel
theorem d_Arranger_keepText_7 : decode m_Arranger_keepText.2.1 7 = .ok (.if_icmp .ge 23, 3) := by decide +kernel
theorem d_Arranger_keepText_10 : decode m_Arranger_keepText.2.1 10 = .ok (.aload_n 0, 1) := by decide +kernel
theorem d_Arranger_keepText_11 : decode m_Arranger_keepText.2.1 11 = .ok (.getfield 30, 3) := by decide +kernel
theorem d_Arranger_keepText_14 : decode m_Arranger_keepText.2.1 14 = .ok (.aload_n 0, 1) := by decide +kernel
theorem d_Arranger_keepText_15 : decode m_Arranger_keepText.2.1 15 = .ok (.getfield 34, 3) := by decide +kernel
theorem d_Arranger_keepText_18 : decode m_Arranger_keepText.2.1 18 = .ok (.lload_n 1, 1) := by decide +kernel
theorem d_Arranger_keepText_19 : decode m_Arranger_keepText.2.1 19 = .ok (.lastore, 1) := by decide +kernel
theorem d_Arranger_keepText_20 : decode m_Arranger_keepText.2.1 20 = .ok (.aload_n 0, 1) := by decide +kernel
theorem d_Arranger_keepText_21 : decode m_Arranger_keepText.2.1 21 = .ok (.getfield 27, 3) := by decide +kernel
theorem d_Arranger_keepText_24 : decode m_Arranger_keepText.2.1 24 = .ok (.aload_n 0, 1) := by decide +kernel
theorem d_Arranger_keepText_25 : decode m_Arranger_keepText.2.1 25 = .ok (.getfield 34, 3) := by decide +kernel
theorem d_Arranger_keepText_28 : decode m_Arranger_keepText.2.1 28 = .ok (.iload_n 3, 1) := by decide +kernel
theorem d_Arranger_keepText_29 : decode m_Arranger_keepText.2.1 29 = .ok (.iastore, 1) := by decide +kernel
theorem d_Arranger_keepText_30 : decode m_Arranger_keepText.2.1 30 = .ok (.return_, 1) := by decide +kernel
theorem b_Arranger_keepText_0 {E : EV} {d : Nat} {Q : Option AV → St → Prop} {σ : St} (x1 x3 : Int) (hF : Fix σ) (h : (rI (σ.1 32 7)) ∧ ((680 ≤ (σ.1 32 7) → Q none σ) ∧ (¬ 680 ≤ (σ.1 32 7) → (0 ≤ (σ.1 32 7) ∧ (σ.1 32 7) < 680) ∧ (0 ≤ (σ.1 32 7) ∧ (σ.1 32 7) < 680) ∧ Q none (wr (wr σ 39 (σ.1 32 7) x1) 38 (σ.1 32 7) x3)))) : WP E m_Arranger_keepText d 0 [(0, aP 32), (1, aL x1), (3, aI x3)] [] σ Q := by
  refine s_aload_n 0 d_Arranger_keepText_0 rfl rfl ?_
  refine s_getF (v := σ.1 32 7) d_Arranger_keepText_1 fl_Arranger_34 rfl (sf_32 hF) rfl ?_
  refine s_sipush d_Arranger_keepText_4 (by decide) ?_
  obtain ⟨g1, h⟩ := h
  refine s_icmp_ge d_Arranger_keepText_7 rfl g1 (by decide) (fun c => ?_) (fun c => ?_)
  · have h := h.1 c
    exact s_return d_Arranger_keepText_30 rfl h
  · have h := h.2 c
    refine s_aload_n 0 d_Arranger_keepText_10 rfl rfl ?_
    refine s_getF (v := 39) d_Arranger_keepText_11 fl_Arranger_30 rfl (sf_32 hF) (ff_25 hF) ?_
    refine s_aload_n 0 d_Arranger_keepText_14 rfl rfl ?_
    refine s_getF (v := σ.1 32 7) d_Arranger_keepText_15 fl_Arranger_34 rfl (sf_32 hF) rfl ?_
    refine s_lload_n 1 d_Arranger_keepText_18 rfl rfl ?_
    obtain ⟨g2, h⟩ := h
    refine s_lastore d_Arranger_keepText_19 ⟨_, sf_39 hF, g2.1, g2.2, by have := g2.2; omega⟩ ?_
    refine s_aload_n 0 d_Arranger_keepText_20 rfl rfl ?_
    refine s_getF (v := 38) d_Arranger_keepText_21 fl_Arranger_27 rfl (sf_32 (hF.wa (a := 39) (by decide))) (ff_24 (hF.wa (a := 39) (by decide))) ?_
    refine s_aload_n 0 d_Arranger_keepText_24 rfl rfl ?_
    refine s_getF (v := σ.1 32 7) d_Arranger_keepText_25 fl_Arranger_34 rfl (sf_32 (hF.wa (a := 39) (by decide))) rfl ?_
    refine s_iload_n 2 d_Arranger_keepText_28 rfl rfl ?_
    obtain ⟨g3, h⟩ := h
    refine s_iastore d_Arranger_keepText_29 ⟨_, sf_38 (hF.wa (a := 39) (by decide)), g3.1, g3.2, by have := g3.2; omega⟩ ?_
    exact s_return d_Arranger_keepText_30 rfl h
theorem e_Arranger_keepText {E : EV} {d : Nat} {Q : Option AV → St → Prop} {σ : St} (x1 x3 : Int) (hF : Fix σ) (h : (rI (σ.1 32 7)) ∧ ((680 ≤ (σ.1 32 7) → Q none σ) ∧ (¬ 680 ≤ (σ.1 32 7) → (0 ≤ (σ.1 32 7) ∧ (σ.1 32 7) < 680) ∧ (0 ≤ (σ.1 32 7) ∧ (σ.1 32 7) < 680) ∧ Q none (wr (wr σ 39 (σ.1 32 7) x1) 38 (σ.1 32 7) x3)))) : WM E m_Arranger_keepText d [aP 32, aL x1, aI x3] σ Q := s_meth (by decide) (Nat.le_of_ble_eq_true rfl) rfl (b_Arranger_keepText_0 x1 x3 hF h)
theorem d_Arranger_makeSpan_0 : decode m_Arranger_makeSpan.2.1 0 = .ok (.iload_n 1, 1) := by decide +kernel
theorem d_Arranger_makeSpan_1 : decode m_Arranger_makeSpan.2.1 1 = .ok (.iload_n 2, 1) := by decide +kernel
theorem d_Arranger_makeSpan_2 : decode m_Arranger_makeSpan.2.1 2 = .ok (.invokestatic 81, 3) := by decide +kernel
theorem d_Arranger_makeSpan_5 : decode m_Arranger_makeSpan.2.1 5 = .ok (.istore 4, 2) := by decide +kernel
theorem d_Arranger_makeSpan_7 : decode m_Arranger_makeSpan.2.1 7 = .ok (.aload_n 0, 1) := by decide +kernel
theorem d_Arranger_makeSpan_8 : decode m_Arranger_makeSpan.2.1 8 = .ok (.getfield 38, 3) := by decide +kernel
theorem d_Arranger_makeSpan_11 : decode m_Arranger_makeSpan.2.1 11 = .ok (.iload 4, 2) := by decide +kernel
theorem d_Arranger_makeSpan_13 : decode m_Arranger_makeSpan.2.1 13 = .ok (.aload_n 0, 1) := by decide +kernel
theorem d_Arranger_makeSpan_14 : decode m_Arranger_makeSpan.2.1 14 = .ok (.getfield 34, 3) := by decide +kernel
theorem d_Arranger_makeSpan_17 : decode m_Arranger_makeSpan.2.1 17 = .ok (.iastore, 1) := by decide +kernel
theorem d_Arranger_makeSpan_18 : decode m_Arranger_makeSpan.2.1 18 = .ok (.iconst 1, 1) := by decide +kernel
theorem d_Arranger_makeSpan_19 : decode m_Arranger_makeSpan.2.1 19 = .ok (.istore 5, 2) := by decide +kernel
theorem d_Arranger_makeSpan_21 : decode m_Arranger_makeSpan.2.1 21 = .ok (.iload 5, 2) := by decide +kernel
theorem d_Arranger_makeSpan_23 : decode m_Arranger_makeSpan.2.1 23 = .ok (.iload_n 2, 1) := by decide +kernel
theorem d_Arranger_makeSpan_24 : decode m_Arranger_makeSpan.2.1 24 = .ok (.if_icmp .ge 31, 3) := by decide +kernel
theorem d_Arranger_makeSpan_27 : decode m_Arranger_makeSpan.2.1 27 = .ok (.aload_n 0, 1) := by decide +kernel
theorem d_Arranger_makeSpan_28 : decode m_Arranger_makeSpan.2.1 28 = .ok (.iload_n 1, 1) := by decide +kernel
theorem d_Arranger_makeSpan_29 : decode m_Arranger_makeSpan.2.1 29 = .ok (.iload 5, 2) := by decide +kernel
theorem d_Arranger_makeSpan_31 : decode m_Arranger_makeSpan.2.1 31 = .ok (.invokestatic 81, 3) := by decide +kernel
theorem d_Arranger_makeSpan_34 : decode m_Arranger_makeSpan.2.1 34 = .ok (.iload_n 1, 1) := by decide +kernel
theorem d_Arranger_makeSpan_35 : decode m_Arranger_makeSpan.2.1 35 = .ok (.iload 5, 2) := by decide +kernel
theorem d_Arranger_makeSpan_37 : decode m_Arranger_makeSpan.2.1 37 = .ok (.iadd, 1) := by decide +kernel
theorem d_Arranger_makeSpan_38 : decode m_Arranger_makeSpan.2.1 38 = .ok (.iload_n 2, 1) := by decide +kernel
theorem d_Arranger_makeSpan_39 : decode m_Arranger_makeSpan.2.1 39 = .ok (.iload 5, 2) := by decide +kernel
theorem d_Arranger_makeSpan_41 : decode m_Arranger_makeSpan.2.1 41 = .ok (.isub, 1) := by decide +kernel
theorem d_Arranger_makeSpan_42 : decode m_Arranger_makeSpan.2.1 42 = .ok (.invokestatic 81, 3) := by decide +kernel
theorem d_Arranger_makeSpan_45 : decode m_Arranger_makeSpan.2.1 45 = .ok (.iload_n 3, 1) := by decide +kernel
theorem d_Arranger_makeSpan_46 : decode m_Arranger_makeSpan.2.1 46 = .ok (.invokevirtual 145, 3) := by decide +kernel
theorem d_Arranger_makeSpan_49 : decode m_Arranger_makeSpan.2.1 49 = .ok (.iinc 5 1, 3) := by decide +kernel
theorem d_Arranger_makeSpan_52 : decode m_Arranger_makeSpan.2.1 52 = .ok (.goto (-31), 3) := by decide +kernel
theorem d_Arranger_makeSpan_55 : decode m_Arranger_makeSpan.2.1 55 = .ok (.aload_n 0, 1) := by decide +kernel
theorem d_Arranger_makeSpan_56 : decode m_Arranger_makeSpan.2.1 56 = .ok (.getfield 41, 3) := by decide +kernel
theorem d_Arranger_makeSpan_59 : decode m_Arranger_makeSpan.2.1 59 = .ok (.iload 4, 2) := by decide +kernel
theorem d_Arranger_makeSpan_61 : decode m_Arranger_makeSpan.2.1 61 = .ok (.aload_n 0, 1) := by decide +kernel
theorem d_Arranger_makeSpan_62 : decode m_Arranger_makeSpan.2.1 62 = .ok (.getfield 34, 3) := by decide +kernel
theorem d_Arranger_makeSpan_65 : decode m_Arranger_makeSpan.2.1 65 = .ok (.iastore, 1) := by decide +kernel
theorem d_Arranger_makeSpan_66 : decode m_Arranger_makeSpan.2.1 66 = .ok (.return_, 1) := by decide +kernel
theorem b_Arranger_makeSpan_0 {E : EV} {d : Nat} {Q : Option AV → St → Prop} {σ : St} (x1 x2 x3 : Int) (hF : Fix σ) (h : (WMi E m_Arranger_spanOfSigns d [aI x1, aI x2] σ (fun v1 σ1 => Fix σ1 ∧ (0 ≤ v1 ∧ v1 < 49) ∧ WP E m_Arranger_makeSpan (d + 1) 21 [(0, aP 32), (1, aI x1), (2, aI x2), (3, aI x3), (4, aI v1), (5, aI 1)] [] (wr σ1 40 v1 (σ1.1 32 7)) Q))) : WP E m_Arranger_makeSpan (d + 1) 0 [(0, aP 32), (1, aI x1), (2, aI x2), (3, aI x3)] [] σ Q := by
  refine s_iload_n 1 d_Arranger_makeSpan_0 rfl rfl ?_
  refine s_iload_n 2 d_Arranger_makeSpan_1 rfl rfl ?_
  refine s_callS (as := [aI x1, aI x2]) d_Arranger_makeSpan_2 ok_Arranger_spanOfSigns lk_Arranger_81 to_Arranger_spanOfSigns rfl (Nat.le_of_ble_eq_true rfl) rfl (WM.mono h ?_)
  rintro _ σ1 ⟨v1, rfl, hp, h⟩
  obtain ⟨hF1, h⟩ := h
  show WP E m_Arranger_makeSpan (d + 1) 5 [(0, aP 32), (1, aI x1), (2, aI x2), (3, aI x3)] [aI v1] σ1 Q
  refine s_istore d_Arranger_makeSpan_5 (by decide) rfl ?_
  refine s_aload_n 1 d_Arranger_makeSpan_7 rfl rfl ?_
  refine s_getF (v := 40) d_Arranger_makeSpan_8 fl_Arranger_38 rfl (sf_32 hF1) (ff_26 hF1) ?_
  refine s_iload 0 d_Arranger_makeSpan_11 rfl ?_
  refine s_aload_n 1 d_Arranger_makeSpan_13 rfl rfl ?_
  refine s_getF (v := σ1.1 32 7) d_Arranger_makeSpan_14 fl_Arranger_34 rfl (sf_32 hF1) rfl ?_
  obtain ⟨g2, h⟩ := h
  refine s_iastore d_Arranger_makeSpan_17 ⟨_, sf_40 hF1, g2.1, g2.2, by have := g2.2; omega⟩ ?_
  refine s_iconst d_Arranger_makeSpan_18 ?_
  refine s_istore d_Arranger_makeSpan_19 (by decide) rfl ?_
  refine wp_drop [2, 3, 4, 5, 1, 0] rfl ?_
  exact h
theorem e_Arranger_makeSpan {E : EV} {d : Nat} {Q : Option AV → St → Prop} {σ : St} (x1 x2 x3 : Int) (hF : Fix σ) (h : (WMi E m_Arranger_spanOfSigns d [aI x1, aI x2] σ (fun v1 σ1 => Fix σ1 ∧ (0 ≤ v1 ∧ v1 < 49) ∧ WP E m_Arranger_makeSpan (d + 1) 21 [(0, aP 32), (1, aI x1), (2, aI x2), (3, aI x3), (4, aI v1), (5, aI 1)] [] (wr σ1 40 v1 (σ1.1 32 7)) Q))) : WM E m_Arranger_makeSpan (d + 1) [aP 32, aI x1, aI x2, aI x3] σ Q := s_meth (by decide) (Nat.le_of_ble_eq_true rfl) rfl (b_Arranger_makeSpan_0 x1 x2 x3 hF h)
theorem b_Arranger_makeSpan_21 {E : EV} {d : Nat} {Q : Option AV → St → Prop} {σ : St} (x1 x2 x3 x4 x5 : Int) (hF : Fix σ) (h : (rI x5) ∧ (rI x2) ∧ ((x2 ≤ x5 → (0 ≤ x4 ∧ x4 < 49) ∧ Q none (wr σ 41 x4 (σ.1 32 7))) ∧ (¬ x2 ≤ x5 → (WMi E m_Arranger_spanOfSigns d [aI x1, aI x5] σ (fun v4 σ4 => Fix σ4 ∧ (WMi E m_Arranger_spanOfSigns d [aI (x1 + x5), aI (x2 - x5)] σ4 (fun v5 σ5 => Fix σ5 ∧ (WMv E m_Arranger_makePairs d [aP 32, aI v4, aI v5, aI x3] σ5 (fun σ6 => WP E m_Arranger_makeSpan (d + 1) 21 [(0, aP 32), (1, aI x1), (2, aI x2), (3, aI x3), (4, aI x4), (5, aI (x5 + 1))] [] σ6 Q))))))))) : WP E m_Arranger_makeSpan (d + 1) 21 [(0, aP 32), (1, aI x1), (2, aI x2), (3, aI x3), (4, aI x4), (5, aI x5)] [] σ Q := by
  refine s_iload 5 d_Arranger_makeSpan_21 rfl ?_
  refine s_iload_n 2 d_Arranger_makeSpan_23 rfl rfl ?_
  obtain ⟨g1, h⟩ := h
  obtain ⟨g2, h⟩ := h
  refine s_icmp_ge d_Arranger_makeSpan_24 rfl g1 g2 (fun c => ?_) (fun c => ?_)
  · have h := h.1 c
    refine s_aload_n 0 d_Arranger_makeSpan_55 rfl rfl ?_
    refine s_getF (v := 41) d_Arranger_makeSpan_56 fl_Arranger_41 rfl (sf_32 hF) (ff_27 hF) ?_
    refine s_iload 4 d_Arranger_makeSpan_59 rfl ?_
    refine s_aload_n 0 d_Arranger_makeSpan_61 rfl rfl ?_
    refine s_getF (v := σ.1 32 7) d_Arranger_makeSpan_62 fl_Arranger_34 rfl (sf_32 hF) rfl ?_
    obtain ⟨g3, h⟩ := h
    refine s_iastore d_Arranger_makeSpan_65 ⟨_, sf_41 hF, g3.1, g3.2, by have := g3.2; omega⟩ ?_
    exact s_return d_Arranger_makeSpan_66 rfl h
  · have h := h.2 c
    refine s_aload_n 0 d_Arranger_makeSpan_27 rfl rfl ?_
    refine s_iload_n 1 d_Arranger_makeSpan_28 rfl rfl ?_
    refine s_iload 5 d_Arranger_makeSpan_29 rfl ?_
    refine s_callS (as := [aI x1, aI x5]) d_Arranger_makeSpan_31 ok_Arranger_spanOfSigns lk_Arranger_81 to_Arranger_spanOfSigns rfl (Nat.le_of_ble_eq_true rfl) rfl (WM.mono h ?_)
    rintro _ σ4 ⟨v4, rfl, hp, h⟩
    obtain ⟨hF4, h⟩ := h
    show WP E m_Arranger_makeSpan (d + 1) 34 [(0, aP 32), (1, aI x1), (2, aI x2), (3, aI x3), (4, aI x4), (5, aI x5)] [aI v4, aP 32] σ4 Q
    refine s_iload_n 1 d_Arranger_makeSpan_34 rfl rfl ?_
    refine s_iload 5 d_Arranger_makeSpan_35 rfl ?_
    refine s_iadd d_Arranger_makeSpan_37 ?_
    refine s_iload_n 2 d_Arranger_makeSpan_38 rfl rfl ?_
    refine s_iload 5 d_Arranger_makeSpan_39 rfl ?_
    refine s_isub d_Arranger_makeSpan_41 ?_
    refine s_callS (as := [aI (x1 + x5), aI (x2 - x5)]) d_Arranger_makeSpan_42 ok_Arranger_spanOfSigns lk_Arranger_81 to_Arranger_spanOfSigns rfl (Nat.le_of_ble_eq_true rfl) rfl (WM.mono h ?_)
    rintro _ σ5 ⟨v5, rfl, hp, h⟩
    obtain ⟨hF5, h⟩ := h
    show WP E m_Arranger_makeSpan (d + 1) 45 [(0, aP 32), (1, aI x1), (2, aI x2), (3, aI x3), (4, aI x4), (5, aI x5)] [aI v5, aI v4, aP 32] σ5 Q
    refine s_iload_n 3 d_Arranger_makeSpan_45 rfl rfl ?_
    refine s_callV (as := [aI v4, aI v5, aI x3]) (ci := 0) d_Arranger_makeSpan_46 ok_Arranger_makePairs lk_Arranger_145 io_Arranger_makePairs so_Arranger_makePairs (by decide) rfl rfl rfl (Nat.le_of_ble_eq_true rfl) rfl (sf_32 hF5) (WM.mono h ?_)
    rintro _ σ6 ⟨rfl, hp, h⟩
    show WP E m_Arranger_makeSpan (d + 1) 49 [(0, aP 32), (1, aI x1), (2, aI x2), (3, aI x3), (4, aI x4), (5, aI x5)] [] σ6 Q
    refine s_iinc 5 d_Arranger_makeSpan_49 rfl (by decide) rfl ?_
    refine s_goto d_Arranger_makeSpan_52 rfl ?_
    refine wp_drop [1, 2, 3, 4, 5, 0] rfl ?_
    exact h
theorem d_Arranger_makePairs_0 : decode m_Arranger_makePairs.2.1 0 = .ok (.aload_n 0, 1) := by decide +kernel
theorem d_Arranger_makePairs_1 : decode m_Arranger_makePairs.2.1 1 = .ok (.getfield 38, 3) := by decide +kernel
theorem d_Arranger_makePairs_4 : decode m_Arranger_makePairs.2.1 4 = .ok (.iload_n 1, 1) := by decide +kernel
theorem d_Arranger_makePairs_5 : decode m_Arranger_makePairs.2.1 5 = .ok (.iaload, 1) := by decide +kernel
theorem d_Arranger_makePairs_6 : decode m_Arranger_makePairs.2.1 6 = .ok (.istore 4, 2) := by decide +kernel
theorem d_Arranger_makePairs_8 : decode m_Arranger_makePairs.2.1 8 = .ok (.iload 4, 2) := by decide +kernel
theorem d_Arranger_makePairs_10 : decode m_Arranger_makePairs.2.1 10 = .ok (.aload_n 0, 1) := by decide +kernel
theorem d_Arranger_makePairs_11 : decode m_Arranger_makePairs.2.1 11 = .ok (.getfield 41, 3) := by decide +kernel
theorem d_Arranger_makePairs_14 : decode m_Arranger_makePairs.2.1 14 = .ok (.iload_n 1, 1) := by decide +kernel
theorem d_Arranger_makePairs_15 : decode m_Arranger_makePairs.2.1 15 = .ok (.iaload, 1) := by decide +kernel
theorem d_Arranger_makePairs_16 : decode m_Arranger_makePairs.2.1 16 = .ok (.if_icmp .ge 97, 3) := by decide +kernel
theorem d_Arranger_makePairs_19 : decode m_Arranger_makePairs.2.1 19 = .ok (.aload_n 0, 1) := by decide +kernel
theorem d_Arranger_makePairs_20 : decode m_Arranger_makePairs.2.1 20 = .ok (.getfield 38, 3) := by decide +kernel
theorem d_Arranger_makePairs_23 : decode m_Arranger_makePairs.2.1 23 = .ok (.iload_n 2, 1) := by decide +kernel
theorem d_Arranger_makePairs_24 : decode m_Arranger_makePairs.2.1 24 = .ok (.iaload, 1) := by decide +kernel
theorem d_Arranger_makePairs_25 : decode m_Arranger_makePairs.2.1 25 = .ok (.istore 5, 2) := by decide +kernel
theorem d_Arranger_makePairs_27 : decode m_Arranger_makePairs.2.1 27 = .ok (.iload 5, 2) := by decide +kernel
theorem d_Arranger_makePairs_29 : decode m_Arranger_makePairs.2.1 29 = .ok (.aload_n 0, 1) := by decide +kernel
theorem d_Arranger_makePairs_30 : decode m_Arranger_makePairs.2.1 30 = .ok (.getfield 41, 3) := by decide +kernel
theorem d_Arranger_makePairs_33 : decode m_Arranger_makePairs.2.1 33 = .ok (.iload_n 2, 1) := by decide +kernel
theorem d_Arranger_makePairs_34 : decode m_Arranger_makePairs.2.1 34 = .ok (.iaload, 1) := by decide +kernel
theorem d_Arranger_makePairs_35 : decode m_Arranger_makePairs.2.1 35 = .ok (.if_icmp .ge 72, 3) := by decide +kernel
theorem d_Arranger_makePairs_38 : decode m_Arranger_makePairs.2.1 38 = .ok (.aload_n 0, 1) := by decide +kernel
theorem d_Arranger_makePairs_39 : decode m_Arranger_makePairs.2.1 39 = .ok (.iload 4, 2) := by decide +kernel
theorem d_Arranger_makePairs_41 : decode m_Arranger_makePairs.2.1 41 = .ok (.invokevirtual 148, 3) := by decide +kernel
theorem d_Arranger_makePairs_44 : decode m_Arranger_makePairs.2.1 44 = .ok (.ifCond .eq 57, 3) := by decide +kernel
theorem d_Arranger_makePairs_47 : decode m_Arranger_makePairs.2.1 47 = .ok (.aload_n 0, 1) := by decide +kernel
theorem d_Arranger_makePairs_48 : decode m_Arranger_makePairs.2.1 48 = .ok (.iload 5, 2) := by decide +kernel
theorem d_Arranger_makePairs_50 : decode m_Arranger_makePairs.2.1 50 = .ok (.invokevirtual 148, 3) := by decide +kernel
theorem d_Arranger_makePairs_53 : decode m_Arranger_makePairs.2.1 53 = .ok (.ifCond .ne 6, 3) := by decide +kernel
theorem d_Arranger_makePairs_56 : decode m_Arranger_makePairs.2.1 56 = .ok (.goto 45, 3) := by decide +kernel
theorem d_Arranger_makePairs_59 : decode m_Arranger_makePairs.2.1 59 = .ok (.aload_n 0, 1) := by decide +kernel
theorem d_Arranger_makePairs_60 : decode m_Arranger_makePairs.2.1 60 = .ok (.getfield 11, 3) := by decide +kernel
theorem d_Arranger_makePairs_63 : decode m_Arranger_makePairs.2.1 63 = .ok (.iload 4, 2) := by decide +kernel
theorem d_Arranger_makePairs_65 : decode m_Arranger_makePairs.2.1 65 = .ok (.iaload, 1) := by decide +kernel
theorem d_Arranger_makePairs_66 : decode m_Arranger_makePairs.2.1 66 = .ok (.bipush 64, 2) := by decide +kernel
theorem d_Arranger_makePairs_68 : decode m_Arranger_makePairs.2.1 68 = .ok (.if_icmp .eq 12, 3) := by decide +kernel
theorem d_Arranger_makePairs_71 : decode m_Arranger_makePairs.2.1 71 = .ok (.aload_n 0, 1) := by decide +kernel
theorem d_Arranger_makePairs_72 : decode m_Arranger_makePairs.2.1 72 = .ok (.iload 4, 2) := by decide +kernel
theorem d_Arranger_makePairs_74 : decode m_Arranger_makePairs.2.1 74 = .ok (.iload 5, 2) := by decide +kernel
theorem d_Arranger_makePairs_76 : decode m_Arranger_makePairs.2.1 76 = .ok (.iload_n 3, 1) := by decide +kernel
theorem d_Arranger_makePairs_77 : decode m_Arranger_makePairs.2.1 77 = .ok (.invokevirtual 151, 3) := by decide +kernel
theorem d_Arranger_makePairs_80 : decode m_Arranger_makePairs.2.1 80 = .ok (.aload_n 0, 1) := by decide +kernel
theorem d_Arranger_makePairs_81 : decode m_Arranger_makePairs.2.1 81 = .ok (.getfield 11, 3) := by decide +kernel
theorem d_Arranger_makePairs_84 : decode m_Arranger_makePairs.2.1 84 = .ok (.iload 4, 2) := by decide +kernel
theorem d_Arranger_makePairs_86 : decode m_Arranger_makePairs.2.1 86 = .ok (.iaload, 1) := by decide +kernel
theorem d_Arranger_makePairs_87 : decode m_Arranger_makePairs.2.1 87 = .ok (.bipush 65, 2) := by decide +kernel
theorem d_Arranger_makePairs_89 : decode m_Arranger_makePairs.2.1 89 = .ok (.if_icmp .eq 12, 3) := by decide +kernel
theorem d_Arranger_makePairs_92 : decode m_Arranger_makePairs.2.1 92 = .ok (.aload_n 0, 1) := by decide +kernel
theorem d_Arranger_makePairs_93 : decode m_Arranger_makePairs.2.1 93 = .ok (.iload 4, 2) := by decide +kernel
theorem d_Arranger_makePairs_95 : decode m_Arranger_makePairs.2.1 95 = .ok (.iload 5, 2) := by decide +kernel
theorem d_Arranger_makePairs_97 : decode m_Arranger_makePairs.2.1 97 = .ok (.iload_n 3, 1) := by decide +kernel
theorem d_Arranger_makePairs_98 : decode m_Arranger_makePairs.2.1 98 = .ok (.invokevirtual 154, 3) := by decide +kernel
theorem d_Arranger_makePairs_101 : decode m_Arranger_makePairs.2.1 101 = .ok (.iinc 5 1, 3) := by decide +kernel
theorem d_Arranger_makePairs_104 : decode m_Arranger_makePairs.2.1 104 = .ok (.goto (-77), 3) := by decide +kernel
theorem d_Arranger_makePairs_107 : decode m_Arranger_makePairs.2.1 107 = .ok (.iinc 4 1, 3) := by decide +kernel
theorem d_Arranger_makePairs_110 : decode m_Arranger_makePairs.2.1 110 = .ok (.goto (-102), 3) := by decide +kernel
theorem d_Arranger_makePairs_113 : decode m_Arranger_makePairs.2.1 113 = .ok (.return_, 1) := by decide +kernel
theorem b_Arranger_makePairs_0 {E : EV} {d : Nat} {Q : Option AV → St → Prop} {σ : St} (x1 x2 x3 : Int) (hF : Fix σ) (h : (0 ≤ x1 ∧ x1 < 49) ∧ WP E m_Arranger_makePairs (d + 1) 8 [(0, aP 32), (1, aI x1), (2, aI x2), (3, aI x3), (4, aI (σ.1 40 x1))] [] σ Q) : WP E m_Arranger_makePairs (d + 1) 0 [(0, aP 32), (1, aI x1), (2, aI x2), (3, aI x3)] [] σ Q := by
  refine s_aload_n 0 d_Arranger_makePairs_0 rfl rfl ?_
  refine s_getF (v := 40) d_Arranger_makePairs_1 fl_Arranger_38 rfl (sf_32 hF) (ff_26 hF) ?_
  refine s_iload_n 1 d_Arranger_makePairs_4 rfl rfl ?_
  obtain ⟨g1, h⟩ := h
  refine s_ialoadv (v := σ.1 40 x1) d_Arranger_makePairs_5 ⟨_, sf_40 hF, g1.1, g1.2, by have := g1.2; omega⟩ rfl ?_
  refine s_istore d_Arranger_makePairs_6 (by decide) rfl ?_
  refine wp_drop [1, 2, 3, 4, 0] rfl ?_
  exact h
theorem e_Arranger_makePairs {E : EV} {d : Nat} {Q : Option AV → St → Prop} {σ : St} (x1 x2 x3 : Int) (hF : Fix σ) (h : (0 ≤ x1 ∧ x1 < 49) ∧ WP E m_Arranger_makePairs (d + 1) 8 [(0, aP 32), (1, aI x1), (2, aI x2), (3, aI x3), (4, aI (σ.1 40 x1))] [] σ Q) : WM E m_Arranger_makePairs (d + 1) [aP 32, aI x1, aI x2, aI x3] σ Q := s_meth (by decide) (Nat.le_of_ble_eq_true rfl) rfl (b_Arranger_makePairs_0 x1 x2 x3 hF h)
theorem b_Arranger_makePairs_8 {E : EV} {d : Nat} {Q : Option AV → St → Prop} {σ : St} (x1 x2 x3 x4 : Int) (hF : Fix σ) (h : (0 ≤ x1 ∧ x1 < 49) ∧ (rI x4) ∧ (rI (σ.1 41 x1)) ∧ (((σ.1 41 x1) ≤ x4 → Q none σ) ∧ (¬ (σ.1 41 x1) ≤ x4 → (0 ≤ x2 ∧ x2 < 49) ∧ WP E m_Arranger_makePairs (d + 1) 27 [(0, aP 32), (1, aI x1), (2, aI x2), (3, aI x3), (4, aI x4), (5, aI (σ.1 40 x2))] [] σ Q))) : WP E m_Arranger_makePairs (d + 1) 8 [(0, aP 32), (1, aI x1), (2, aI x2), (3, aI x3), (4, aI x4)] [] σ Q := by
  refine s_iload 4 d_Arranger_makePairs_8 rfl ?_
  refine s_aload_n 0 d_Arranger_makePairs_10 rfl rfl ?_
  refine s_getF (v := 41) d_Arranger_makePairs_11 fl_Arranger_41 rfl (sf_32 hF) (ff_27 hF) ?_
  refine s_iload_n 1 d_Arranger_makePairs_14 rfl rfl ?_
  obtain ⟨g1, h⟩ := h
  refine s_ialoadv (v := σ.1 41 x1) d_Arranger_makePairs_15 ⟨_, sf_41 hF, g1.1, g1.2, by have := g1.2; omega⟩ rfl ?_
  obtain ⟨g2, h⟩ := h
  obtain ⟨g3, h⟩ := h
  refine s_icmp_ge d_Arranger_makePairs_16 rfl g2 g3 (fun c => ?_) (fun c => ?_)
  · have h := h.1 c
    exact s_return d_Arranger_makePairs_113 rfl h
  · have h := h.2 c
    refine s_aload_n 0 d_Arranger_makePairs_19 rfl rfl ?_
    refine s_getF (v := 40) d_Arranger_makePairs_20 fl_Arranger_38 rfl (sf_32 hF) (ff_26 hF) ?_
    refine s_iload_n 2 d_Arranger_makePairs_23 rfl rfl ?_
    obtain ⟨g4, h⟩ := h
    refine s_ialoadv (v := σ.1 40 x2) d_Arranger_makePairs_24 ⟨_, sf_40 hF, g4.1, g4.2, by have := g4.2; omega⟩ rfl ?_
    refine s_istore d_Arranger_makePairs_25 (by decide) rfl ?_
    refine wp_drop [1, 2, 3, 4, 5, 0] rfl ?_
    exact h
theorem b_Arranger_makePairs_27 {E : EV} {d : Nat} {Q : Option AV → St → Prop} {σ : St} (x1 x2 x3 x4 x5 : Int) (hF : Fix σ) (h : (0 ≤ x2 ∧ x2 < 49) ∧ (rI x5) ∧ (rI (σ.1 41 x2)) ∧ (((σ.1 41 x2) ≤ x5 → WP E m_Arranger_makePairs (d + 1) 8 [(0, aP 32), (1, aI x1), (2, aI x2), (3, aI x3), (4, aI (x4 + 1))] [] σ Q) ∧ (¬ (σ.1 41 x2) ≤ x5 → (WMi E m_Arranger_isForm d [aP 32, aI x4] σ (fun v4 σ4 => Fix σ4 ∧ (rI v4) ∧ ((v4 = 0 → WP E m_Arranger_makePairs (d + 1) 101 [(0, aP 32), (1, aI x1), (2, aI x2), (3, aI x3), (4, aI x4), (5, aI x5)] [] σ4 Q) ∧ (¬ v4 = 0 → (WMi E m_Arranger_isForm d [aP 32, aI x5] σ4 (fun v6 σ6 => Fix σ6 ∧ (rI v6) ∧ ((¬ v6 = 0 → (0 ≤ x4 ∧ x4 < 680) ∧ (rI (σ6.1 33 x4)) ∧ (((σ6.1 33 x4) = 64 → WP E m_Arranger_makePairs (d + 1) 80 [(0, aP 32), (1, aI x1), (2, aI x2), (3, aI x3), (4, aI x4), (5, aI x5)] [] σ6 Q) ∧ (¬ (σ6.1 33 x4) = 64 → (WMv E m_Arranger_makeBeside d [aP 32, aI x4, aI x5, aI x3] σ6 (fun σ10 => WP E m_Arranger_makePairs (d + 1) 80 [(0, aP 32), (1, aI x1), (2, aI x2), (3, aI x3), (4, aI x4), (5, aI x5)] [] σ10 Q))))) ∧ (v6 = 0 → WP E m_Arranger_makePairs (d + 1) 101 [(0, aP 32), (1, aI x1), (2, aI x2), (3, aI x3), (4, aI x4), (5, aI x5)] [] σ6 Q))))))))))) : WP E m_Arranger_makePairs (d + 1) 27 [(0, aP 32), (1, aI x1), (2, aI x2), (3, aI x3), (4, aI x4), (5, aI x5)] [] σ Q := by
  refine s_iload 5 d_Arranger_makePairs_27 rfl ?_
  refine s_aload_n 0 d_Arranger_makePairs_29 rfl rfl ?_
  refine s_getF (v := 41) d_Arranger_makePairs_30 fl_Arranger_41 rfl (sf_32 hF) (ff_27 hF) ?_
  refine s_iload_n 2 d_Arranger_makePairs_33 rfl rfl ?_
  obtain ⟨g1, h⟩ := h
  refine s_ialoadv (v := σ.1 41 x2) d_Arranger_makePairs_34 ⟨_, sf_41 hF, g1.1, g1.2, by have := g1.2; omega⟩ rfl ?_
  obtain ⟨g2, h⟩ := h
  obtain ⟨g3, h⟩ := h
  refine s_icmp_ge d_Arranger_makePairs_35 rfl g2 g3 (fun c => ?_) (fun c => ?_)
  · have h := h.1 c
    refine s_iinc 4 d_Arranger_makePairs_107 rfl (by decide) rfl ?_
    refine s_goto d_Arranger_makePairs_110 rfl ?_
    refine wp_drop [1, 2, 3, 4, 0] rfl ?_
    exact h
  · have h := h.2 c
    refine s_aload_n 0 d_Arranger_makePairs_38 rfl rfl ?_
    refine s_iload 4 d_Arranger_makePairs_39 rfl ?_
    refine s_callV (as := [aI x4]) (ci := 0) d_Arranger_makePairs_41 ok_Arranger_isForm lk_Arranger_148 io_Arranger_isForm so_Arranger_isForm (by decide) rfl rfl rfl (Nat.le_of_ble_eq_true rfl) rfl (sf_32 hF) (WM.mono h ?_)
    rintro _ σ4 ⟨v4, rfl, hp, h⟩
    obtain ⟨hF4, h⟩ := h
    show WP E m_Arranger_makePairs (d + 1) 44 [(0, aP 32), (1, aI x1), (2, aI x2), (3, aI x3), (4, aI x4), (5, aI x5)] [aI v4] σ4 Q
    obtain ⟨g5, h⟩ := h
    refine s_if_eq d_Arranger_makePairs_44 rfl g5 (fun c => ?_) (fun c => ?_)
    · have h := h.1 c
      exact h
    · have h := h.2 c
      refine s_aload_n 0 d_Arranger_makePairs_47 rfl rfl ?_
      refine s_iload 5 d_Arranger_makePairs_48 rfl ?_
      refine s_callV (as := [aI x5]) (ci := 0) d_Arranger_makePairs_50 ok_Arranger_isForm lk_Arranger_148 io_Arranger_isForm so_Arranger_isForm (by decide) rfl rfl rfl (Nat.le_of_ble_eq_true rfl) rfl (sf_32 hF4) (WM.mono h ?_)
      rintro _ σ6 ⟨v6, rfl, hp, h⟩
      obtain ⟨hF6, h⟩ := h
      show WP E m_Arranger_makePairs (d + 1) 53 [(0, aP 32), (1, aI x1), (2, aI x2), (3, aI x3), (4, aI x4), (5, aI x5)] [aI v6] σ6 Q
      obtain ⟨g7, h⟩ := h
      refine s_if_ne d_Arranger_makePairs_53 rfl g7 (fun c => ?_) (fun c => ?_)
      · have h := h.1 c
        refine s_aload_n 0 d_Arranger_makePairs_59 rfl rfl ?_
        refine s_getF (v := 33) d_Arranger_makePairs_60 fl_Arranger_11 rfl (sf_32 hF6) (ff_19 hF6) ?_
        refine s_iload 4 d_Arranger_makePairs_63 rfl ?_
        obtain ⟨g8, h⟩ := h
        refine s_ialoadv (v := σ6.1 33 x4) d_Arranger_makePairs_65 ⟨_, sf_33 hF6, g8.1, g8.2, by have := g8.2; omega⟩ rfl ?_
        refine s_bipush d_Arranger_makePairs_66 (by decide) ?_
        obtain ⟨g9, h⟩ := h
        refine s_icmp_eq d_Arranger_makePairs_68 rfl g9 (by decide) (fun c => ?_) (fun c => ?_)
        · have h := h.1 c
          exact h
        · have h := h.2 c
          refine s_aload_n 0 d_Arranger_makePairs_71 rfl rfl ?_
          refine s_iload 4 d_Arranger_makePairs_72 rfl ?_
          refine s_iload 5 d_Arranger_makePairs_74 rfl ?_
          refine s_iload_n 3 d_Arranger_makePairs_76 rfl rfl ?_
          refine s_callV (as := [aI x4, aI x5, aI x3]) (ci := 0) d_Arranger_makePairs_77 ok_Arranger_makeBeside lk_Arranger_151 io_Arranger_makeBeside so_Arranger_makeBeside (by decide) rfl rfl rfl (Nat.le_of_ble_eq_true rfl) rfl (sf_32 hF6) (WM.mono h ?_)
          rintro _ σ10 ⟨rfl, hp, h⟩
          show WP E m_Arranger_makePairs (d + 1) 80 [(0, aP 32), (1, aI x1), (2, aI x2), (3, aI x3), (4, aI x4), (5, aI x5)] [] σ10 Q
          exact h
      · have h := h.2 c
        refine s_goto d_Arranger_makePairs_56 rfl ?_
        exact h
theorem b_Arranger_makePairs_80 {E : EV} {d : Nat} {Q : Option AV → St → Prop} {σ : St} (x1 x2 x3 x4 x5 : Int) (hF : Fix σ) (h : (0 ≤ x4 ∧ x4 < 680) ∧ (rI (σ.1 33 x4)) ∧ (((σ.1 33 x4) = 65 → WP E m_Arranger_makePairs (d + 1) 101 [(0, aP 32), (1, aI x1), (2, aI x2), (3, aI x3), (4, aI x4), (5, aI x5)] [] σ Q) ∧ (¬ (σ.1 33 x4) = 65 → (WMv E m_Arranger_makeAbove d [aP 32, aI x4, aI x5, aI x3] σ (fun σ3 => WP E m_Arranger_makePairs (d + 1) 101 [(0, aP 32), (1, aI x1), (2, aI x2), (3, aI x3), (4, aI x4), (5, aI x5)] [] σ3 Q))))) : WP E m_Arranger_makePairs (d + 1) 80 [(0, aP 32), (1, aI x1), (2, aI x2), (3, aI x3), (4, aI x4), (5, aI x5)] [] σ Q := by
  refine s_aload_n 0 d_Arranger_makePairs_80 rfl rfl ?_
  refine s_getF (v := 33) d_Arranger_makePairs_81 fl_Arranger_11 rfl (sf_32 hF) (ff_19 hF) ?_
  refine s_iload 4 d_Arranger_makePairs_84 rfl ?_
  obtain ⟨g1, h⟩ := h
  refine s_ialoadv (v := σ.1 33 x4) d_Arranger_makePairs_86 ⟨_, sf_33 hF, g1.1, g1.2, by have := g1.2; omega⟩ rfl ?_
  refine s_bipush d_Arranger_makePairs_87 (by decide) ?_
  obtain ⟨g2, h⟩ := h
  refine s_icmp_eq d_Arranger_makePairs_89 rfl g2 (by decide) (fun c => ?_) (fun c => ?_)
  · have h := h.1 c
    exact h
  · have h := h.2 c
    refine s_aload_n 0 d_Arranger_makePairs_92 rfl rfl ?_
    refine s_iload 4 d_Arranger_makePairs_93 rfl ?_
    refine s_iload 5 d_Arranger_makePairs_95 rfl ?_
    refine s_iload_n 3 d_Arranger_makePairs_97 rfl rfl ?_
    refine s_callV (as := [aI x4, aI x5, aI x3]) (ci := 0) d_Arranger_makePairs_98 ok_Arranger_makeAbove lk_Arranger_154 io_Arranger_makeAbove so_Arranger_makeAbove (by decide) rfl rfl rfl (Nat.le_of_ble_eq_true rfl) rfl (sf_32 hF) (WM.mono h ?_)
    rintro _ σ3 ⟨rfl, hp, h⟩
    show WP E m_Arranger_makePairs (d + 1) 101 [(0, aP 32), (1, aI x1), (2, aI x2), (3, aI x3), (4, aI x4), (5, aI x5)] [] σ3 Q
    exact h
theorem b_Arranger_makePairs_101 {E : EV} {d : Nat} {Q : Option AV → St → Prop} {σ : St} (x1 x2 x3 x4 x5 : Int) (h : WP E m_Arranger_makePairs (d + 1) 27 [(0, aP 32), (1, aI x1), (2, aI x2), (3, aI x3), (4, aI x4), (5, aI (x5 + 1))] [] σ Q) : WP E m_Arranger_makePairs (d + 1) 101 [(0, aP 32), (1, aI x1), (2, aI x2), (3, aI x3), (4, aI x4), (5, aI x5)] [] σ Q := by
  refine s_iinc 5 d_Arranger_makePairs_101 rfl (by decide) rfl ?_
  refine s_goto d_Arranger_makePairs_104 rfl ?_
  refine wp_drop [1, 2, 3, 4, 5, 0] rfl ?_
  exact h
theorem d_Arranger_isForm_0 : decode m_Arranger_isForm.2.1 0 = .ok (.iload_n 1, 1) := by decide +kernel
theorem d_Arranger_isForm_1 : decode m_Arranger_isForm.2.1 1 = .ok (.ifCond .lt 22, 3) := by decide +kernel
theorem d_Arranger_isForm_4 : decode m_Arranger_isForm.2.1 4 = .ok (.iload_n 1, 1) := by decide +kernel
theorem d_Arranger_isForm_5 : decode m_Arranger_isForm.2.1 5 = .ok (.aload_n 0, 1) := by decide +kernel
theorem d_Arranger_isForm_6 : decode m_Arranger_isForm.2.1 6 = .ok (.getfield 34, 3) := by decide +kernel
theorem d_Arranger_isForm_9 : decode m_Arranger_isForm.2.1 9 = .ok (.if_icmp .ge 14, 3) := by decide +kernel
theorem d_Arranger_isForm_12 : decode m_Arranger_isForm.2.1 12 = .ok (.iload_n 1, 1) := by decide +kernel
theorem d_Arranger_isForm_13 : decode m_Arranger_isForm.2.1 13 = .ok (.sipush 680, 3) := by decide +kernel
theorem d_Arranger_isForm_16 : decode m_Arranger_isForm.2.1 16 = .ok (.if_icmp .ge 7, 3) := by decide +kernel
theorem d_Arranger_isForm_19 : decode m_Arranger_isForm.2.1 19 = .ok (.iconst 1, 1) := by decide +kernel
theorem d_Arranger_isForm_20 : decode m_Arranger_isForm.2.1 20 = .ok (.goto 4, 3) := by decide +kernel
theorem d_Arranger_isForm_23 : decode m_Arranger_isForm.2.1 23 = .ok (.iconst 0, 1) := by decide +kernel
theorem d_Arranger_isForm_24 : decode m_Arranger_isForm.2.1 24 = .ok (.ireturn, 1) := by decide +kernel
theorem b_Arranger_isForm_0 {E : EV} {d : Nat} {Q : Option AV → St → Prop} {σ : St} (x1 : Int) (hF : Fix σ) (h : (rI x1) ∧ ((x1 < 0 → Q (some (aI 0)) σ) ∧ (¬ x1 < 0 → (rI x1) ∧ (rI (σ.1 32 7)) ∧ (((σ.1 32 7) ≤ x1 → Q (some (aI 0)) σ) ∧ (¬ (σ.1 32 7) ≤ x1 → (rI x1) ∧ ((680 ≤ x1 → Q (some (aI 0)) σ) ∧ (¬ 680 ≤ x1 → Q (some (aI 1)) σ))))))) : WP E m_Arranger_isForm d 0 [(0, aP 32), (1, aI x1)] [] σ Q := by
  refine s_iload_n 1 d_Arranger_isForm_0 rfl rfl ?_
  obtain ⟨g1, h⟩ := h
  refine s_if_lt d_Arranger_isForm_1 rfl g1 (fun c => ?_) (fun c => ?_)
  · have h := h.1 c
    refine s_iconst d_Arranger_isForm_23 ?_
    exact s_zreturn d_Arranger_isForm_24 rfl (by decide) h
  · have h := h.2 c
    refine s_iload_n 1 d_Arranger_isForm_4 rfl rfl ?_
    refine s_aload_n 0 d_Arranger_isForm_5 rfl rfl ?_
    refine s_getF (v := σ.1 32 7) d_Arranger_isForm_6 fl_Arranger_34 rfl (sf_32 hF) rfl ?_
    obtain ⟨g2, h⟩ := h
    obtain ⟨g3, h⟩ := h
    refine s_icmp_ge d_Arranger_isForm_9 rfl g2 g3 (fun c => ?_) (fun c => ?_)
    · have h := h.1 c
      refine s_iconst d_Arranger_isForm_23 ?_
      exact s_zreturn d_Arranger_isForm_24 rfl (by decide) h
    · have h := h.2 c
      refine s_iload_n 1 d_Arranger_isForm_12 rfl rfl ?_
      refine s_sipush d_Arranger_isForm_13 (by decide) ?_
      obtain ⟨g4, h⟩ := h
      refine s_icmp_ge d_Arranger_isForm_16 rfl g4 (by decide) (fun c => ?_) (fun c => ?_)
      · have h := h.1 c
        refine s_iconst d_Arranger_isForm_23 ?_
        exact s_zreturn d_Arranger_isForm_24 rfl (by decide) h
      · have h := h.2 c
        refine s_iconst d_Arranger_isForm_19 ?_
        refine s_goto d_Arranger_isForm_20 rfl ?_
        exact s_zreturn d_Arranger_isForm_24 rfl (by decide) h
theorem e_Arranger_isForm {E : EV} {d : Nat} {Q : Option AV → St → Prop} {σ : St} (x1 : Int) (hF : Fix σ) (h : (rI x1) ∧ ((x1 < 0 → Q (some (aI 0)) σ) ∧ (¬ x1 < 0 → (rI x1) ∧ (rI (σ.1 32 7)) ∧ (((σ.1 32 7) ≤ x1 → Q (some (aI 0)) σ) ∧ (¬ (σ.1 32 7) ≤ x1 → (rI x1) ∧ ((680 ≤ x1 → Q (some (aI 0)) σ) ∧ (¬ 680 ≤ x1 → Q (some (aI 1)) σ))))))) : WM E m_Arranger_isForm d [aP 32, aI x1] σ Q := s_meth (by decide) (Nat.le_of_ble_eq_true rfl) rfl (b_Arranger_isForm_0 x1 hF h)
theorem d_Arranger_makeBeside_0 : decode m_Arranger_makeBeside.2.1 0 = .ok (.aload_n 0, 1) := by decide +kernel
theorem d_Arranger_makeBeside_1 : decode m_Arranger_makeBeside.2.1 1 = .ok (.getfield 34, 3) := by decide +kernel
theorem d_Arranger_makeBeside_4 : decode m_Arranger_makeBeside.2.1 4 = .ok (.sipush 680, 3) := by decide +kernel
theorem d_Arranger_makeBeside_7 : decode m_Arranger_makeBeside.2.1 7 = .ok (.if_icmp .lt 4, 3) := by decide +kernel
theorem d_Arranger_makeBeside_10 : decode m_Arranger_makeBeside.2.1 10 = .ok (.return_, 1) := by decide +kernel
theorem d_Arranger_makeBeside_11 : decode m_Arranger_makeBeside.2.1 11 = .ok (.aload_n 0, 1) := by decide +kernel
theorem d_Arranger_makeBeside_12 : decode m_Arranger_makeBeside.2.1 12 = .ok (.bipush 64, 2) := by decide +kernel
theorem d_Arranger_makeBeside_14 : decode m_Arranger_makeBeside.2.1 14 = .ok (.iload_n 1, 1) := by decide +kernel
theorem d_Arranger_makeBeside_15 : decode m_Arranger_makeBeside.2.1 15 = .ok (.iload_n 2, 1) := by decide +kernel
theorem d_Arranger_makeBeside_16 : decode m_Arranger_makeBeside.2.1 16 = .ok (.invokevirtual 110, 3) := by decide +kernel
theorem d_Arranger_makeBeside_19 : decode m_Arranger_makeBeside.2.1 19 = .ok (.aload_n 0, 1) := by decide +kernel
theorem d_Arranger_makeBeside_20 : decode m_Arranger_makeBeside.2.1 20 = .ok (.aload_n 0, 1) := by decide +kernel
theorem d_Arranger_makeBeside_21 : decode m_Arranger_makeBeside.2.1 21 = .ok (.getfield 21, 3) := by decide +kernel
theorem d_Arranger_makeBeside_24 : decode m_Arranger_makeBeside.2.1 24 = .ok (.iload_n 1, 1) := by decide +kernel
theorem d_Arranger_makeBeside_25 : decode m_Arranger_makeBeside.2.1 25 = .ok (.iaload, 1) := by decide +kernel
theorem d_Arranger_makeBeside_26 : decode m_Arranger_makeBeside.2.1 26 = .ok (.iload_n 3, 1) := by decide +kernel
theorem d_Arranger_makeBeside_27 : decode m_Arranger_makeBeside.2.1 27 = .ok (.iadd, 1) := by decide +kernel
theorem d_Arranger_makeBeside_28 : decode m_Arranger_makeBeside.2.1 28 = .ok (.aload_n 0, 1) := by decide +kernel
theorem d_Arranger_makeBeside_29 : decode m_Arranger_makeBeside.2.1 29 = .ok (.getfield 21, 3) := by decide +kernel
theorem d_Arranger_makeBeside_32 : decode m_Arranger_makeBeside.2.1 32 = .ok (.iload_n 2, 1) := by decide +kernel
theorem d_Arranger_makeBeside_33 : decode m_Arranger_makeBeside.2.1 33 = .ok (.iaload, 1) := by decide +kernel
theorem d_Arranger_makeBeside_34 : decode m_Arranger_makeBeside.2.1 34 = .ok (.iadd, 1) := by decide +kernel
theorem d_Arranger_makeBeside_35 : decode m_Arranger_makeBeside.2.1 35 = .ok (.aload_n 0, 1) := by decide +kernel
theorem d_Arranger_makeBeside_36 : decode m_Arranger_makeBeside.2.1 36 = .ok (.getfield 24, 3) := by decide +kernel
theorem d_Arranger_makeBeside_39 : decode m_Arranger_makeBeside.2.1 39 = .ok (.iload_n 1, 1) := by decide +kernel
theorem d_Arranger_makeBeside_40 : decode m_Arranger_makeBeside.2.1 40 = .ok (.iaload, 1) := by decide +kernel
theorem d_Arranger_makeBeside_41 : decode m_Arranger_makeBeside.2.1 41 = .ok (.aload_n 0, 1) := by decide +kernel
theorem d_Arranger_makeBeside_42 : decode m_Arranger_makeBeside.2.1 42 = .ok (.getfield 24, 3) := by decide +kernel
theorem d_Arranger_makeBeside_45 : decode m_Arranger_makeBeside.2.1 45 = .ok (.iload_n 2, 1) := by decide +kernel
theorem d_Arranger_makeBeside_46 : decode m_Arranger_makeBeside.2.1 46 = .ok (.iaload, 1) := by decide +kernel
theorem d_Arranger_makeBeside_47 : decode m_Arranger_makeBeside.2.1 47 = .ok (.invokestatic 137, 3) := by decide +kernel
theorem d_Arranger_makeBeside_50 : decode m_Arranger_makeBeside.2.1 50 = .ok (.invokevirtual 124, 3) := by decide +kernel
theorem d_Arranger_makeBeside_53 : decode m_Arranger_makeBeside.2.1 53 = .ok (.aload_n 0, 1) := by decide +kernel
theorem d_Arranger_makeBeside_54 : decode m_Arranger_makeBeside.2.1 54 = .ok (.aload_n 0, 1) := by decide +kernel
theorem d_Arranger_makeBeside_55 : decode m_Arranger_makeBeside.2.1 55 = .ok (.iload_n 1, 1) := by decide +kernel
theorem d_Arranger_makeBeside_56 : decode m_Arranger_makeBeside.2.1 56 = .ok (.invokevirtual 157, 3) := by decide +kernel
theorem d_Arranger_makeBeside_59 : decode m_Arranger_makeBeside.2.1 59 = .ok (.ldc2_w 161, 3) := by decide +kernel
theorem d_Arranger_makeBeside_62 : decode m_Arranger_makeBeside.2.1 62 = .ok (.lmul, 1) := by decide +kernel
theorem d_Arranger_makeBeside_63 : decode m_Arranger_makeBeside.2.1 63 = .ok (.ldc2_w 163, 3) := by decide +kernel
theorem d_Arranger_makeBeside_66 : decode m_Arranger_makeBeside.2.1 66 = .ok (.ladd, 1) := by decide +kernel
theorem d_Arranger_makeBeside_67 : decode m_Arranger_makeBeside.2.1 67 = .ok (.iconst 3, 1) := by decide +kernel
theorem d_Arranger_makeBeside_68 : decode m_Arranger_makeBeside.2.1 68 = .ok (.aload_n 0, 1) := by decide +kernel
theorem d_Arranger_makeBeside_69 : decode m_Arranger_makeBeside.2.1 69 = .ok (.iload_n 2, 1) := by decide +kernel
theorem d_Arranger_makeBeside_70 : decode m_Arranger_makeBeside.2.1 70 = .ok (.invokevirtual 165, 3) := by decide +kernel
theorem d_Arranger_makeBeside_73 : decode m_Arranger_makeBeside.2.1 73 = .ok (.imul, 1) := by decide +kernel
theorem d_Arranger_makeBeside_74 : decode m_Arranger_makeBeside.2.1 74 = .ok (.lshl, 1) := by decide +kernel
theorem d_Arranger_makeBeside_75 : decode m_Arranger_makeBeside.2.1 75 = .ok (.aload_n 0, 1) := by decide +kernel
theorem d_Arranger_makeBeside_76 : decode m_Arranger_makeBeside.2.1 76 = .ok (.iload_n 2, 1) := by decide +kernel
theorem d_Arranger_makeBeside_77 : decode m_Arranger_makeBeside.2.1 77 = .ok (.invokevirtual 157, 3) := by decide +kernel
theorem d_Arranger_makeBeside_80 : decode m_Arranger_makeBeside.2.1 80 = .ok (.ladd, 1) := by decide +kernel
theorem d_Arranger_makeBeside_81 : decode m_Arranger_makeBeside.2.1 81 = .ok (.aload_n 0, 1) := by decide +kernel
theorem d_Arranger_makeBeside_82 : decode m_Arranger_makeBeside.2.1 82 = .ok (.iload_n 1, 1) := by decide +kernel
theorem d_Arranger_makeBeside_83 : decode m_Arranger_makeBeside.2.1 83 = .ok (.invokevirtual 165, 3) := by decide +kernel
theorem d_Arranger_makeBeside_86 : decode m_Arranger_makeBeside.2.1 86 = .ok (.iconst 1, 1) := by decide +kernel
theorem d_Arranger_makeBeside_87 : decode m_Arranger_makeBeside.2.1 87 = .ok (.iadd, 1) := by decide +kernel
theorem d_Arranger_makeBeside_88 : decode m_Arranger_makeBeside.2.1 88 = .ok (.aload_n 0, 1) := by decide +kernel
theorem d_Arranger_makeBeside_89 : decode m_Arranger_makeBeside.2.1 89 = .ok (.iload_n 2, 1) := by decide +kernel
theorem d_Arranger_makeBeside_90 : decode m_Arranger_makeBeside.2.1 90 = .ok (.invokevirtual 165, 3) := by decide +kernel
theorem d_Arranger_makeBeside_93 : decode m_Arranger_makeBeside.2.1 93 = .ok (.iadd, 1) := by decide +kernel
theorem d_Arranger_makeBeside_94 : decode m_Arranger_makeBeside.2.1 94 = .ok (.invokevirtual 130, 3) := by decide +kernel
theorem d_Arranger_makeBeside_97 : decode m_Arranger_makeBeside.2.1 97 = .ok (.aload_n 0, 1) := by decide +kernel
theorem d_Arranger_makeBeside_98 : decode m_Arranger_makeBeside.2.1 98 = .ok (.dup, 1) := by decide +kernel
theorem d_Arranger_makeBeside_99 : decode m_Arranger_makeBeside.2.1 99 = .ok (.getfield 34, 3) := by decide +kernel
theorem d_Arranger_makeBeside_102 : decode m_Arranger_makeBeside.2.1 102 = .ok (.iconst 1, 1) := by decide +kernel
theorem d_Arranger_makeBeside_103 : decode m_Arranger_makeBeside.2.1 103 = .ok (.iadd, 1) := by decide +kernel
theorem d_Arranger_makeBeside_104 : decode m_Arranger_makeBeside.2.1 104 = .ok (.putfield 34, 3) := by decide +kernel
theorem d_Arranger_makeBeside_107 : decode m_Arranger_makeBeside.2.1 107 = .ok (.return_, 1) := by decide +kernel
theorem b_Arranger_makeBeside_0 {E : EV} {d : Nat} {Q : Option AV → St → Prop} {σ : St} (x1 x2 x3 : Int) (hF : Fix σ) (h : (rI (σ.1 32 7)) ∧ (((σ.1 32 7) < 680 → (WMv E m_Arranger_keep d [aP 32, aI 64, aI x1, aI x2] σ (fun σ2 => Fix σ2 ∧ (0 ≤ x1 ∧ x1 < 680) ∧ (0 ≤ x2 ∧ x2 < 680) ∧ (0 ≤ x1 ∧ x1 < 680) ∧ (0 ≤ x2 ∧ x2 < 680) ∧ (rI (σ2.1 37 x1)) ∧ (rI (σ2.1 37 x2)) ∧ (WMv E m_Arranger_keepSize d [aP 32, aI (((σ2.1 36 x1) + x3) + (σ2.1 36 x2)), aI (max (σ2.1 37 x1) (σ2.1 37 x2))] σ2 (fun σ9 => Fix σ9 ∧ (WMl E m_Arranger_partText d [aP 32, aI x1] σ9 (fun v10 σ10 => Fix σ10 ∧ (WMi E m_Arranger_partDigits d [aP 32, aI x2] σ10 (fun v11 σ11 => Fix σ11 ∧ (WMl E m_Arranger_partText d [aP 32, aI x2] σ11 (fun v12 σ12 => Fix σ12 ∧ (WMi E m_Arranger_partDigits d [aP 32, aI x1] σ12 (fun v13 σ13 => Fix σ13 ∧ (WMi E m_Arranger_partDigits d [aP 32, aI x2] σ13 (fun v14 σ14 => Fix σ14 ∧ (WMv E m_Arranger_keepText d [aP 32, aL ((lshl ((v10 * 8) + 3) (3 * v11)) + v12), aI ((v13 + 1) + v14)] σ14 (fun σ15 => Fix σ15 ∧ Q none (wr σ15 32 7 ((σ15.1 32 7) + 1))))))))))))))))))) ∧ (¬ (σ.1 32 7) < 680 → Q none σ))) : WP E m_Arranger_makeBeside (d + 1) 0 [(0, aP 32), (1, aI x1), (2, aI x2), (3, aI x3)] [] σ Q := by
  refine s_aload_n 0 d_Arranger_makeBeside_0 rfl rfl ?_
  refine s_getF (v := σ.1 32 7) d_Arranger_makeBeside_1 fl_Arranger_34 rfl (sf_32 hF) rfl ?_
  refine s_sipush d_Arranger_makeBeside_4 (by decide) ?_
  obtain ⟨g1, h⟩ := h
  refine s_icmp_lt d_Arranger_makeBeside_7 rfl g1 (by decide) (fun c => ?_) (fun c => ?_)
  · have h := h.1 c
    refine s_aload_n 0 d_Arranger_makeBeside_11 rfl rfl ?_
    refine s_bipush d_Arranger_makeBeside_12 (by decide) ?_
    refine s_iload_n 1 d_Arranger_makeBeside_14 rfl rfl ?_
    refine s_iload_n 2 d_Arranger_makeBeside_15 rfl rfl ?_
    refine s_callV (as := [aI 64, aI x1, aI x2]) (ci := 0) d_Arranger_makeBeside_16 ok_Arranger_keep lk_Arranger_110 io_Arranger_keep so_Arranger_keep (by decide) rfl rfl rfl (Nat.le_of_ble_eq_true rfl) rfl (sf_32 hF) (WM.mono h ?_)
    rintro _ σ2 ⟨rfl, hp, h⟩
    obtain ⟨hF2, h⟩ := h
    show WP E m_Arranger_makeBeside (d + 1) 19 [(0, aP 32), (1, aI x1), (2, aI x2), (3, aI x3)] [] σ2 Q
    refine s_aload_n 0 d_Arranger_makeBeside_19 rfl rfl ?_
    refine s_aload_n 0 d_Arranger_makeBeside_20 rfl rfl ?_
    refine s_getF (v := 36) d_Arranger_makeBeside_21 fl_Arranger_21 rfl (sf_32 hF2) (ff_22 hF2) ?_
    refine s_iload_n 1 d_Arranger_makeBeside_24 rfl rfl ?_
    obtain ⟨g3, h⟩ := h
    refine s_ialoadv (v := σ2.1 36 x1) d_Arranger_makeBeside_25 ⟨_, sf_36 hF2, g3.1, g3.2, by have := g3.2; omega⟩ rfl ?_
    refine s_iload_n 3 d_Arranger_makeBeside_26 rfl rfl ?_
    refine s_iadd d_Arranger_makeBeside_27 ?_
    refine s_aload_n 0 d_Arranger_makeBeside_28 rfl rfl ?_
    refine s_getF (v := 36) d_Arranger_makeBeside_29 fl_Arranger_21 rfl (sf_32 hF2) (ff_22 hF2) ?_
    refine s_iload_n 2 d_Arranger_makeBeside_32 rfl rfl ?_
    obtain ⟨g4, h⟩ := h
    refine s_ialoadv (v := σ2.1 36 x2) d_Arranger_makeBeside_33 ⟨_, sf_36 hF2, g4.1, g4.2, by have := g4.2; omega⟩ rfl ?_
    refine s_iadd d_Arranger_makeBeside_34 ?_
    refine s_aload_n 0 d_Arranger_makeBeside_35 rfl rfl ?_
    refine s_getF (v := 37) d_Arranger_makeBeside_36 fl_Arranger_24 rfl (sf_32 hF2) (ff_23 hF2) ?_
    refine s_iload_n 1 d_Arranger_makeBeside_39 rfl rfl ?_
    obtain ⟨g5, h⟩ := h
    refine s_ialoadv (v := σ2.1 37 x1) d_Arranger_makeBeside_40 ⟨_, sf_37 hF2, g5.1, g5.2, by have := g5.2; omega⟩ rfl ?_
    refine s_aload_n 0 d_Arranger_makeBeside_41 rfl rfl ?_
    refine s_getF (v := 37) d_Arranger_makeBeside_42 fl_Arranger_24 rfl (sf_32 hF2) (ff_23 hF2) ?_
    refine s_iload_n 2 d_Arranger_makeBeside_45 rfl rfl ?_
    obtain ⟨g6, h⟩ := h
    refine s_ialoadv (v := σ2.1 37 x2) d_Arranger_makeBeside_46 ⟨_, sf_37 hF2, g6.1, g6.2, by have := g6.2; omega⟩ rfl ?_
    obtain ⟨g7, h⟩ := h
    obtain ⟨g8, h⟩ := h
    refine s_mmax d_Arranger_makeBeside_47 lm_Arranger_137 lm_max_s lm_i lm_max_c (Nat.le_of_ble_eq_true rfl) g7 g8 ?_
    refine s_callV (as := [aI (((σ2.1 36 x1) + x3) + (σ2.1 36 x2)), aI (max (σ2.1 37 x1) (σ2.1 37 x2))]) (ci := 0) d_Arranger_makeBeside_50 ok_Arranger_keepSize lk_Arranger_124 io_Arranger_keepSize so_Arranger_keepSize (by decide) rfl rfl rfl (Nat.le_of_ble_eq_true rfl) rfl (sf_32 hF2) (WM.mono h ?_)
    rintro _ σ9 ⟨rfl, hp, h⟩
    obtain ⟨hF9, h⟩ := h
    show WP E m_Arranger_makeBeside (d + 1) 53 [(0, aP 32), (1, aI x1), (2, aI x2), (3, aI x3)] [] σ9 Q
    refine s_aload_n 0 d_Arranger_makeBeside_53 rfl rfl ?_
    refine s_aload_n 0 d_Arranger_makeBeside_54 rfl rfl ?_
    refine s_iload_n 1 d_Arranger_makeBeside_55 rfl rfl ?_
    refine s_callV (as := [aI x1]) (ci := 0) d_Arranger_makeBeside_56 ok_Arranger_partText lk_Arranger_157 io_Arranger_partText so_Arranger_partText (by decide) rfl rfl rfl (Nat.le_of_ble_eq_true rfl) rfl (sf_32 hF9) (WM.mono h ?_)
    rintro _ σ10 ⟨v10, rfl, hp, h⟩
    obtain ⟨hF10, h⟩ := h
    show WP E m_Arranger_makeBeside (d + 1) 59 [(0, aP 32), (1, aI x1), (2, aI x2), (3, aI x3)] [aL v10, aP 32] σ10 Q
    refine s_ldc2 (v := 8) d_Arranger_makeBeside_59 ll_Arranger_161 (by decide) ?_
    refine s_lmul d_Arranger_makeBeside_62 ?_
    refine s_ldc2 (v := 3) d_Arranger_makeBeside_63 ll_Arranger_163 (by decide) ?_
    refine s_ladd d_Arranger_makeBeside_66 ?_
    refine s_iconst d_Arranger_makeBeside_67 ?_
    refine s_aload_n 0 d_Arranger_makeBeside_68 rfl rfl ?_
    refine s_iload_n 2 d_Arranger_makeBeside_69 rfl rfl ?_
    refine s_callV (as := [aI x2]) (ci := 0) d_Arranger_makeBeside_70 ok_Arranger_partDigits lk_Arranger_165 io_Arranger_partDigits so_Arranger_partDigits (by decide) rfl rfl rfl (Nat.le_of_ble_eq_true rfl) rfl (sf_32 hF10) (WM.mono h ?_)
    rintro _ σ11 ⟨v11, rfl, hp, h⟩
    obtain ⟨hF11, h⟩ := h
    show WP E m_Arranger_makeBeside (d + 1) 73 [(0, aP 32), (1, aI x1), (2, aI x2), (3, aI x3)] [aI v11, aI 3, aL ((v10 * 8) + 3), aP 32] σ11 Q
    refine s_imul d_Arranger_makeBeside_73 ?_
    refine s_lshl d_Arranger_makeBeside_74 ?_
    refine s_aload_n 0 d_Arranger_makeBeside_75 rfl rfl ?_
    refine s_iload_n 2 d_Arranger_makeBeside_76 rfl rfl ?_
    refine s_callV (as := [aI x2]) (ci := 0) d_Arranger_makeBeside_77 ok_Arranger_partText lk_Arranger_157 io_Arranger_partText so_Arranger_partText (by decide) rfl rfl rfl (Nat.le_of_ble_eq_true rfl) rfl (sf_32 hF11) (WM.mono h ?_)
    rintro _ σ12 ⟨v12, rfl, hp, h⟩
    obtain ⟨hF12, h⟩ := h
    show WP E m_Arranger_makeBeside (d + 1) 80 [(0, aP 32), (1, aI x1), (2, aI x2), (3, aI x3)] [aL v12, aL (lshl ((v10 * 8) + 3) (3 * v11)), aP 32] σ12 Q
    refine s_ladd d_Arranger_makeBeside_80 ?_
    refine s_aload_n 0 d_Arranger_makeBeside_81 rfl rfl ?_
    refine s_iload_n 1 d_Arranger_makeBeside_82 rfl rfl ?_
    refine s_callV (as := [aI x1]) (ci := 0) d_Arranger_makeBeside_83 ok_Arranger_partDigits lk_Arranger_165 io_Arranger_partDigits so_Arranger_partDigits (by decide) rfl rfl rfl (Nat.le_of_ble_eq_true rfl) rfl (sf_32 hF12) (WM.mono h ?_)
    rintro _ σ13 ⟨v13, rfl, hp, h⟩
    obtain ⟨hF13, h⟩ := h
    show WP E m_Arranger_makeBeside (d + 1) 86 [(0, aP 32), (1, aI x1), (2, aI x2), (3, aI x3)] [aI v13, aL ((lshl ((v10 * 8) + 3) (3 * v11)) + v12), aP 32] σ13 Q
    refine s_iconst d_Arranger_makeBeside_86 ?_
    refine s_iadd d_Arranger_makeBeside_87 ?_
    refine s_aload_n 0 d_Arranger_makeBeside_88 rfl rfl ?_
    refine s_iload_n 2 d_Arranger_makeBeside_89 rfl rfl ?_
    refine s_callV (as := [aI x2]) (ci := 0) d_Arranger_makeBeside_90 ok_Arranger_partDigits lk_Arranger_165 io_Arranger_partDigits so_Arranger_partDigits (by decide) rfl rfl rfl (Nat.le_of_ble_eq_true rfl) rfl (sf_32 hF13) (WM.mono h ?_)
    rintro _ σ14 ⟨v14, rfl, hp, h⟩
    obtain ⟨hF14, h⟩ := h
    show WP E m_Arranger_makeBeside (d + 1) 93 [(0, aP 32), (1, aI x1), (2, aI x2), (3, aI x3)] [aI v14, aI (v13 + 1), aL ((lshl ((v10 * 8) + 3) (3 * v11)) + v12), aP 32] σ14 Q
    refine s_iadd d_Arranger_makeBeside_93 ?_
    refine s_callV (as := [aL ((lshl ((v10 * 8) + 3) (3 * v11)) + v12), aI ((v13 + 1) + v14)]) (ci := 0) d_Arranger_makeBeside_94 ok_Arranger_keepText lk_Arranger_130 io_Arranger_keepText so_Arranger_keepText (by decide) rfl rfl rfl (Nat.le_of_ble_eq_true rfl) rfl (sf_32 hF14) (WM.mono h ?_)
    rintro _ σ15 ⟨rfl, hp, h⟩
    obtain ⟨hF15, h⟩ := h
    show WP E m_Arranger_makeBeside (d + 1) 97 [(0, aP 32), (1, aI x1), (2, aI x2), (3, aI x3)] [] σ15 Q
    refine s_aload_n 0 d_Arranger_makeBeside_97 rfl rfl ?_
    refine s_dup d_Arranger_makeBeside_98 (Nat.ne_of_beq_eq_false rfl) ?_
    refine s_getF (v := σ15.1 32 7) d_Arranger_makeBeside_99 fl_Arranger_34 rfl (sf_32 hF15) rfl ?_
    refine s_iconst d_Arranger_makeBeside_102 ?_
    refine s_iadd d_Arranger_makeBeside_103 ?_
    refine s_putf 7 rfl d_Arranger_makeBeside_104 fl_Arranger_34 (fun C T h => by cases h; exact Or.inl rfl) rfl (Or.inl rfl) (fun h => nomatch h) (sf_32 hF15) ?_
    exact s_return d_Arranger_makeBeside_107 rfl h
  · have h := h.2 c
    exact s_return d_Arranger_makeBeside_10 rfl h
theorem e_Arranger_makeBeside {E : EV} {d : Nat} {Q : Option AV → St → Prop} {σ : St} (x1 x2 x3 : Int) (hF : Fix σ) (h : (rI (σ.1 32 7)) ∧ (((σ.1 32 7) < 680 → (WMv E m_Arranger_keep d [aP 32, aI 64, aI x1, aI x2] σ (fun σ2 => Fix σ2 ∧ (0 ≤ x1 ∧ x1 < 680) ∧ (0 ≤ x2 ∧ x2 < 680) ∧ (0 ≤ x1 ∧ x1 < 680) ∧ (0 ≤ x2 ∧ x2 < 680) ∧ (rI (σ2.1 37 x1)) ∧ (rI (σ2.1 37 x2)) ∧ (WMv E m_Arranger_keepSize d [aP 32, aI (((σ2.1 36 x1) + x3) + (σ2.1 36 x2)), aI (max (σ2.1 37 x1) (σ2.1 37 x2))] σ2 (fun σ9 => Fix σ9 ∧ (WMl E m_Arranger_partText d [aP 32, aI x1] σ9 (fun v10 σ10 => Fix σ10 ∧ (WMi E m_Arranger_partDigits d [aP 32, aI x2] σ10 (fun v11 σ11 => Fix σ11 ∧ (WMl E m_Arranger_partText d [aP 32, aI x2] σ11 (fun v12 σ12 => Fix σ12 ∧ (WMi E m_Arranger_partDigits d [aP 32, aI x1] σ12 (fun v13 σ13 => Fix σ13 ∧ (WMi E m_Arranger_partDigits d [aP 32, aI x2] σ13 (fun v14 σ14 => Fix σ14 ∧ (WMv E m_Arranger_keepText d [aP 32, aL ((lshl ((v10 * 8) + 3) (3 * v11)) + v12), aI ((v13 + 1) + v14)] σ14 (fun σ15 => Fix σ15 ∧ Q none (wr σ15 32 7 ((σ15.1 32 7) + 1))))))))))))))))))) ∧ (¬ (σ.1 32 7) < 680 → Q none σ))) : WM E m_Arranger_makeBeside (d + 1) [aP 32, aI x1, aI x2, aI x3] σ Q := s_meth (by decide) (Nat.le_of_ble_eq_true rfl) rfl (b_Arranger_makeBeside_0 x1 x2 x3 hF h)
theorem d_Arranger_partText_0 : decode m_Arranger_partText.2.1 0 = .ok (.aload_n 0, 1) := by decide +kernel
theorem d_Arranger_partText_1 : decode m_Arranger_partText.2.1 1 = .ok (.getfield 11, 3) := by decide +kernel
theorem d_Arranger_partText_4 : decode m_Arranger_partText.2.1 4 = .ok (.iload_n 1, 1) := by decide +kernel
theorem d_Arranger_partText_5 : decode m_Arranger_partText.2.1 5 = .ok (.iaload, 1) := by decide +kernel
theorem d_Arranger_partText_6 : decode m_Arranger_partText.2.1 6 = .ok (.bipush 65, 2) := by decide +kernel
theorem d_Arranger_partText_8 : decode m_Arranger_partText.2.1 8 = .ok (.if_icmp .ne 31, 3) := by decide +kernel
theorem d_Arranger_partText_11 : decode m_Arranger_partText.2.1 11 = .ok (.lconst 1, 1) := by decide +kernel
theorem d_Arranger_partText_12 : decode m_Arranger_partText.2.1 12 = .ok (.iconst 3, 1) := by decide +kernel
theorem d_Arranger_partText_13 : decode m_Arranger_partText.2.1 13 = .ok (.aload_n 0, 1) := by decide +kernel
theorem d_Arranger_partText_14 : decode m_Arranger_partText.2.1 14 = .ok (.getfield 27, 3) := by decide +kernel
theorem d_Arranger_partText_17 : decode m_Arranger_partText.2.1 17 = .ok (.iload_n 1, 1) := by decide +kernel
theorem d_Arranger_partText_18 : decode m_Arranger_partText.2.1 18 = .ok (.iaload, 1) := by decide +kernel
theorem d_Arranger_partText_19 : decode m_Arranger_partText.2.1 19 = .ok (.imul, 1) := by decide +kernel
theorem d_Arranger_partText_20 : decode m_Arranger_partText.2.1 20 = .ok (.lshl, 1) := by decide +kernel
theorem d_Arranger_partText_21 : decode m_Arranger_partText.2.1 21 = .ok (.aload_n 0, 1) := by decide +kernel
theorem d_Arranger_partText_22 : decode m_Arranger_partText.2.1 22 = .ok (.getfield 30, 3) := by decide +kernel
theorem d_Arranger_partText_25 : decode m_Arranger_partText.2.1 25 = .ok (.iload_n 1, 1) := by decide +kernel
theorem d_Arranger_partText_26 : decode m_Arranger_partText.2.1 26 = .ok (.laload, 1) := by decide +kernel
theorem d_Arranger_partText_27 : decode m_Arranger_partText.2.1 27 = .ok (.ladd, 1) := by decide +kernel
theorem d_Arranger_partText_28 : decode m_Arranger_partText.2.1 28 = .ok (.ldc2_w 161, 3) := by decide +kernel
theorem d_Arranger_partText_31 : decode m_Arranger_partText.2.1 31 = .ok (.lmul, 1) := by decide +kernel
theorem d_Arranger_partText_32 : decode m_Arranger_partText.2.1 32 = .ok (.ldc2_w 170, 3) := by decide +kernel
theorem d_Arranger_partText_35 : decode m_Arranger_partText.2.1 35 = .ok (.ladd, 1) := by decide +kernel
theorem d_Arranger_partText_36 : decode m_Arranger_partText.2.1 36 = .ok (.goto 9, 3) := by decide +kernel
theorem d_Arranger_partText_39 : decode m_Arranger_partText.2.1 39 = .ok (.aload_n 0, 1) := by decide +kernel
theorem d_Arranger_partText_40 : decode m_Arranger_partText.2.1 40 = .ok (.getfield 30, 3) := by decide +kernel
theorem d_Arranger_partText_43 : decode m_Arranger_partText.2.1 43 = .ok (.iload_n 1, 1) := by decide +kernel
theorem d_Arranger_partText_44 : decode m_Arranger_partText.2.1 44 = .ok (.laload, 1) := by decide +kernel
theorem d_Arranger_partText_45 : decode m_Arranger_partText.2.1 45 = .ok (.lreturn, 1) := by decide +kernel
theorem b_Arranger_partText_0 {E : EV} {d : Nat} {Q : Option AV → St → Prop} {σ : St} (x1 : Int) (hF : Fix σ) (h : (0 ≤ x1 ∧ x1 < 680) ∧ (rI (σ.1 33 x1)) ∧ ((¬ (σ.1 33 x1) = 65 → (0 ≤ x1 ∧ x1 < 680) ∧ Q (some (aL (σ.1 39 x1))) σ) ∧ ((σ.1 33 x1) = 65 → (0 ≤ x1 ∧ x1 < 680) ∧ (0 ≤ x1 ∧ x1 < 680) ∧ Q (some (aL ((((lshl 1 (3 * (σ.1 38 x1))) + (σ.1 39 x1)) * 8) + 2))) σ))) : WP E m_Arranger_partText d 0 [(0, aP 32), (1, aI x1)] [] σ Q := by
  refine s_aload_n 0 d_Arranger_partText_0 rfl rfl ?_
  refine s_getF (v := 33) d_Arranger_partText_1 fl_Arranger_11 rfl (sf_32 hF) (ff_19 hF) ?_
  refine s_iload_n 1 d_Arranger_partText_4 rfl rfl ?_
  obtain ⟨g1, h⟩ := h
  refine s_ialoadv (v := σ.1 33 x1) d_Arranger_partText_5 ⟨_, sf_33 hF, g1.1, g1.2, by have := g1.2; omega⟩ rfl ?_
  refine s_bipush d_Arranger_partText_6 (by decide) ?_
  obtain ⟨g2, h⟩ := h
  refine s_icmp_ne d_Arranger_partText_8 rfl g2 (by decide) (fun c => ?_) (fun c => ?_)
  · have h := h.1 c
    refine s_aload_n 0 d_Arranger_partText_39 rfl rfl ?_
    refine s_getF (v := 39) d_Arranger_partText_40 fl_Arranger_30 rfl (sf_32 hF) (ff_25 hF) ?_
    refine s_iload_n 1 d_Arranger_partText_43 rfl rfl ?_
    obtain ⟨g3, h⟩ := h
    refine s_laloadv (v := σ.1 39 x1) d_Arranger_partText_44 ⟨_, sf_39 hF, g3.1, g3.2, by have := g3.2; omega⟩ rfl ?_
    exact s_lreturn d_Arranger_partText_45 rfl h
  · have h := h.2 c
    refine s_lconst (v := 1) d_Arranger_partText_11 rfl ?_
    refine s_iconst d_Arranger_partText_12 ?_
    refine s_aload_n 0 d_Arranger_partText_13 rfl rfl ?_
    refine s_getF (v := 38) d_Arranger_partText_14 fl_Arranger_27 rfl (sf_32 hF) (ff_24 hF) ?_
    refine s_iload_n 1 d_Arranger_partText_17 rfl rfl ?_
    obtain ⟨g4, h⟩ := h
    refine s_ialoadv (v := σ.1 38 x1) d_Arranger_partText_18 ⟨_, sf_38 hF, g4.1, g4.2, by have := g4.2; omega⟩ rfl ?_
    refine s_imul d_Arranger_partText_19 ?_
    refine s_lshl d_Arranger_partText_20 ?_
    refine s_aload_n 0 d_Arranger_partText_21 rfl rfl ?_
    refine s_getF (v := 39) d_Arranger_partText_22 fl_Arranger_30 rfl (sf_32 hF) (ff_25 hF) ?_
    refine s_iload_n 1 d_Arranger_partText_25 rfl rfl ?_
    obtain ⟨g5, h⟩ := h
    refine s_laloadv (v := σ.1 39 x1) d_Arranger_partText_26 ⟨_, sf_39 hF, g5.1, g5.2, by have := g5.2; omega⟩ rfl ?_
    refine s_ladd d_Arranger_partText_27 ?_
    refine s_ldc2 (v := 8) d_Arranger_partText_28 ll_Arranger_161 (by decide) ?_
    refine s_lmul d_Arranger_partText_31 ?_
    refine s_ldc2 (v := 2) d_Arranger_partText_32 ll_Arranger_170 (by decide) ?_
    refine s_ladd d_Arranger_partText_35 ?_
    refine s_goto d_Arranger_partText_36 rfl ?_
    exact s_lreturn d_Arranger_partText_45 rfl h
theorem e_Arranger_partText {E : EV} {d : Nat} {Q : Option AV → St → Prop} {σ : St} (x1 : Int) (hF : Fix σ) (h : (0 ≤ x1 ∧ x1 < 680) ∧ (rI (σ.1 33 x1)) ∧ ((¬ (σ.1 33 x1) = 65 → (0 ≤ x1 ∧ x1 < 680) ∧ Q (some (aL (σ.1 39 x1))) σ) ∧ ((σ.1 33 x1) = 65 → (0 ≤ x1 ∧ x1 < 680) ∧ (0 ≤ x1 ∧ x1 < 680) ∧ Q (some (aL ((((lshl 1 (3 * (σ.1 38 x1))) + (σ.1 39 x1)) * 8) + 2))) σ))) : WM E m_Arranger_partText d [aP 32, aI x1] σ Q := s_meth (by decide) (Nat.le_of_ble_eq_true rfl) rfl (b_Arranger_partText_0 x1 hF h)
theorem d_Arranger_partDigits_0 : decode m_Arranger_partDigits.2.1 0 = .ok (.aload_n 0, 1) := by decide +kernel
theorem d_Arranger_partDigits_1 : decode m_Arranger_partDigits.2.1 1 = .ok (.getfield 11, 3) := by decide +kernel
theorem d_Arranger_partDigits_4 : decode m_Arranger_partDigits.2.1 4 = .ok (.iload_n 1, 1) := by decide +kernel
theorem d_Arranger_partDigits_5 : decode m_Arranger_partDigits.2.1 5 = .ok (.iaload, 1) := by decide +kernel
theorem d_Arranger_partDigits_6 : decode m_Arranger_partDigits.2.1 6 = .ok (.bipush 65, 2) := by decide +kernel
theorem d_Arranger_partDigits_8 : decode m_Arranger_partDigits.2.1 8 = .ok (.if_icmp .ne 14, 3) := by decide +kernel
theorem d_Arranger_partDigits_11 : decode m_Arranger_partDigits.2.1 11 = .ok (.aload_n 0, 1) := by decide +kernel
theorem d_Arranger_partDigits_12 : decode m_Arranger_partDigits.2.1 12 = .ok (.getfield 27, 3) := by decide +kernel
theorem d_Arranger_partDigits_15 : decode m_Arranger_partDigits.2.1 15 = .ok (.iload_n 1, 1) := by decide +kernel
theorem d_Arranger_partDigits_16 : decode m_Arranger_partDigits.2.1 16 = .ok (.iaload, 1) := by decide +kernel
theorem d_Arranger_partDigits_17 : decode m_Arranger_partDigits.2.1 17 = .ok (.iconst 2, 1) := by decide +kernel
theorem d_Arranger_partDigits_18 : decode m_Arranger_partDigits.2.1 18 = .ok (.iadd, 1) := by decide +kernel
theorem d_Arranger_partDigits_19 : decode m_Arranger_partDigits.2.1 19 = .ok (.goto 9, 3) := by decide +kernel
theorem d_Arranger_partDigits_22 : decode m_Arranger_partDigits.2.1 22 = .ok (.aload_n 0, 1) := by decide +kernel
theorem d_Arranger_partDigits_23 : decode m_Arranger_partDigits.2.1 23 = .ok (.getfield 27, 3) := by decide +kernel
theorem d_Arranger_partDigits_26 : decode m_Arranger_partDigits.2.1 26 = .ok (.iload_n 1, 1) := by decide +kernel
theorem d_Arranger_partDigits_27 : decode m_Arranger_partDigits.2.1 27 = .ok (.iaload, 1) := by decide +kernel
theorem d_Arranger_partDigits_28 : decode m_Arranger_partDigits.2.1 28 = .ok (.ireturn, 1) := by decide +kernel
theorem b_Arranger_partDigits_0 {E : EV} {d : Nat} {Q : Option AV → St → Prop} {σ : St} (x1 : Int) (hF : Fix σ) (h : (0 ≤ x1 ∧ x1 < 680) ∧ (rI (σ.1 33 x1)) ∧ ((¬ (σ.1 33 x1) = 65 → (0 ≤ x1 ∧ x1 < 680) ∧ Q (some (aI (σ.1 38 x1))) σ) ∧ ((σ.1 33 x1) = 65 → (0 ≤ x1 ∧ x1 < 680) ∧ Q (some (aI ((σ.1 38 x1) + 2))) σ))) : WP E m_Arranger_partDigits d 0 [(0, aP 32), (1, aI x1)] [] σ Q := by
  refine s_aload_n 0 d_Arranger_partDigits_0 rfl rfl ?_
  refine s_getF (v := 33) d_Arranger_partDigits_1 fl_Arranger_11 rfl (sf_32 hF) (ff_19 hF) ?_
  refine s_iload_n 1 d_Arranger_partDigits_4 rfl rfl ?_
  obtain ⟨g1, h⟩ := h
  refine s_ialoadv (v := σ.1 33 x1) d_Arranger_partDigits_5 ⟨_, sf_33 hF, g1.1, g1.2, by have := g1.2; omega⟩ rfl ?_
  refine s_bipush d_Arranger_partDigits_6 (by decide) ?_
  obtain ⟨g2, h⟩ := h
  refine s_icmp_ne d_Arranger_partDigits_8 rfl g2 (by decide) (fun c => ?_) (fun c => ?_)
  · have h := h.1 c
    refine s_aload_n 0 d_Arranger_partDigits_22 rfl rfl ?_
    refine s_getF (v := 38) d_Arranger_partDigits_23 fl_Arranger_27 rfl (sf_32 hF) (ff_24 hF) ?_
    refine s_iload_n 1 d_Arranger_partDigits_26 rfl rfl ?_
    obtain ⟨g3, h⟩ := h
    refine s_ialoadv (v := σ.1 38 x1) d_Arranger_partDigits_27 ⟨_, sf_38 hF, g3.1, g3.2, by have := g3.2; omega⟩ rfl ?_
    exact s_ireturn d_Arranger_partDigits_28 rfl h
  · have h := h.2 c
    refine s_aload_n 0 d_Arranger_partDigits_11 rfl rfl ?_
    refine s_getF (v := 38) d_Arranger_partDigits_12 fl_Arranger_27 rfl (sf_32 hF) (ff_24 hF) ?_
    refine s_iload_n 1 d_Arranger_partDigits_15 rfl rfl ?_
    obtain ⟨g4, h⟩ := h
    refine s_ialoadv (v := σ.1 38 x1) d_Arranger_partDigits_16 ⟨_, sf_38 hF, g4.1, g4.2, by have := g4.2; omega⟩ rfl ?_
    refine s_iconst d_Arranger_partDigits_17 ?_
    refine s_iadd d_Arranger_partDigits_18 ?_
    refine s_goto d_Arranger_partDigits_19 rfl ?_
    exact s_ireturn d_Arranger_partDigits_28 rfl h
theorem e_Arranger_partDigits {E : EV} {d : Nat} {Q : Option AV → St → Prop} {σ : St} (x1 : Int) (hF : Fix σ) (h : (0 ≤ x1 ∧ x1 < 680) ∧ (rI (σ.1 33 x1)) ∧ ((¬ (σ.1 33 x1) = 65 → (0 ≤ x1 ∧ x1 < 680) ∧ Q (some (aI (σ.1 38 x1))) σ) ∧ ((σ.1 33 x1) = 65 → (0 ≤ x1 ∧ x1 < 680) ∧ Q (some (aI ((σ.1 38 x1) + 2))) σ))) : WM E m_Arranger_partDigits d [aP 32, aI x1] σ Q := s_meth (by decide) (Nat.le_of_ble_eq_true rfl) rfl (b_Arranger_partDigits_0 x1 hF h)
theorem d_Arranger_makeAbove_0 : decode m_Arranger_makeAbove.2.1 0 = .ok (.aload_n 0, 1) := by decide +kernel
theorem d_Arranger_makeAbove_1 : decode m_Arranger_makeAbove.2.1 1 = .ok (.getfield 34, 3) := by decide +kernel
theorem d_Arranger_makeAbove_4 : decode m_Arranger_makeAbove.2.1 4 = .ok (.sipush 680, 3) := by decide +kernel
theorem d_Arranger_makeAbove_7 : decode m_Arranger_makeAbove.2.1 7 = .ok (.if_icmp .lt 4, 3) := by decide +kernel
theorem d_Arranger_makeAbove_10 : decode m_Arranger_makeAbove.2.1 10 = .ok (.return_, 1) := by decide +kernel
theorem d_Arranger_makeAbove_11 : decode m_Arranger_makeAbove.2.1 11 = .ok (.aload_n 0, 1) := by decide +kernel
theorem d_Arranger_makeAbove_12 : decode m_Arranger_makeAbove.2.1 12 = .ok (.bipush 65, 2) := by decide +kernel
theorem d_Arranger_makeAbove_14 : decode m_Arranger_makeAbove.2.1 14 = .ok (.iload_n 1, 1) := by decide +kernel
theorem d_Arranger_makeAbove_15 : decode m_Arranger_makeAbove.2.1 15 = .ok (.iload_n 2, 1) := by decide +kernel
theorem d_Arranger_makeAbove_16 : decode m_Arranger_makeAbove.2.1 16 = .ok (.invokevirtual 110, 3) := by decide +kernel
theorem d_Arranger_makeAbove_19 : decode m_Arranger_makeAbove.2.1 19 = .ok (.aload_n 0, 1) := by decide +kernel
theorem d_Arranger_makeAbove_20 : decode m_Arranger_makeAbove.2.1 20 = .ok (.aload_n 0, 1) := by decide +kernel
theorem d_Arranger_makeAbove_21 : decode m_Arranger_makeAbove.2.1 21 = .ok (.getfield 21, 3) := by decide +kernel
theorem d_Arranger_makeAbove_24 : decode m_Arranger_makeAbove.2.1 24 = .ok (.iload_n 1, 1) := by decide +kernel
theorem d_Arranger_makeAbove_25 : decode m_Arranger_makeAbove.2.1 25 = .ok (.iaload, 1) := by decide +kernel
theorem d_Arranger_makeAbove_26 : decode m_Arranger_makeAbove.2.1 26 = .ok (.aload_n 0, 1) := by decide +kernel
theorem d_Arranger_makeAbove_27 : decode m_Arranger_makeAbove.2.1 27 = .ok (.getfield 21, 3) := by decide +kernel
theorem d_Arranger_makeAbove_30 : decode m_Arranger_makeAbove.2.1 30 = .ok (.iload_n 2, 1) := by decide +kernel
theorem d_Arranger_makeAbove_31 : decode m_Arranger_makeAbove.2.1 31 = .ok (.iaload, 1) := by decide +kernel
theorem d_Arranger_makeAbove_32 : decode m_Arranger_makeAbove.2.1 32 = .ok (.invokestatic 137, 3) := by decide +kernel
theorem d_Arranger_makeAbove_35 : decode m_Arranger_makeAbove.2.1 35 = .ok (.aload_n 0, 1) := by decide +kernel
theorem d_Arranger_makeAbove_36 : decode m_Arranger_makeAbove.2.1 36 = .ok (.getfield 24, 3) := by decide +kernel
theorem d_Arranger_makeAbove_39 : decode m_Arranger_makeAbove.2.1 39 = .ok (.iload_n 1, 1) := by decide +kernel
theorem d_Arranger_makeAbove_40 : decode m_Arranger_makeAbove.2.1 40 = .ok (.iaload, 1) := by decide +kernel
theorem d_Arranger_makeAbove_41 : decode m_Arranger_makeAbove.2.1 41 = .ok (.iload_n 3, 1) := by decide +kernel
theorem d_Arranger_makeAbove_42 : decode m_Arranger_makeAbove.2.1 42 = .ok (.iadd, 1) := by decide +kernel
theorem d_Arranger_makeAbove_43 : decode m_Arranger_makeAbove.2.1 43 = .ok (.aload_n 0, 1) := by decide +kernel
theorem d_Arranger_makeAbove_44 : decode m_Arranger_makeAbove.2.1 44 = .ok (.getfield 24, 3) := by decide +kernel
theorem d_Arranger_makeAbove_47 : decode m_Arranger_makeAbove.2.1 47 = .ok (.iload_n 2, 1) := by decide +kernel
theorem d_Arranger_makeAbove_48 : decode m_Arranger_makeAbove.2.1 48 = .ok (.iaload, 1) := by decide +kernel
theorem d_Arranger_makeAbove_49 : decode m_Arranger_makeAbove.2.1 49 = .ok (.iadd, 1) := by decide +kernel
theorem d_Arranger_makeAbove_50 : decode m_Arranger_makeAbove.2.1 50 = .ok (.invokevirtual 124, 3) := by decide +kernel
theorem d_Arranger_makeAbove_53 : decode m_Arranger_makeAbove.2.1 53 = .ok (.aload_n 0, 1) := by decide +kernel
theorem d_Arranger_makeAbove_54 : decode m_Arranger_makeAbove.2.1 54 = .ok (.aload_n 0, 1) := by decide +kernel
theorem d_Arranger_makeAbove_55 : decode m_Arranger_makeAbove.2.1 55 = .ok (.getfield 30, 3) := by decide +kernel
theorem d_Arranger_makeAbove_58 : decode m_Arranger_makeAbove.2.1 58 = .ok (.iload_n 1, 1) := by decide +kernel
theorem d_Arranger_makeAbove_59 : decode m_Arranger_makeAbove.2.1 59 = .ok (.laload, 1) := by decide +kernel
theorem d_Arranger_makeAbove_60 : decode m_Arranger_makeAbove.2.1 60 = .ok (.ldc2_w 161, 3) := by decide +kernel
theorem d_Arranger_makeAbove_63 : decode m_Arranger_makeAbove.2.1 63 = .ok (.lmul, 1) := by decide +kernel
theorem d_Arranger_makeAbove_64 : decode m_Arranger_makeAbove.2.1 64 = .ok (.ldc2_w 168, 3) := by decide +kernel
theorem d_Arranger_makeAbove_67 : decode m_Arranger_makeAbove.2.1 67 = .ok (.ladd, 1) := by decide +kernel
theorem d_Arranger_makeAbove_68 : decode m_Arranger_makeAbove.2.1 68 = .ok (.iconst 3, 1) := by decide +kernel
theorem d_Arranger_makeAbove_69 : decode m_Arranger_makeAbove.2.1 69 = .ok (.aload_n 0, 1) := by decide +kernel
theorem d_Arranger_makeAbove_70 : decode m_Arranger_makeAbove.2.1 70 = .ok (.getfield 27, 3) := by decide +kernel
theorem d_Arranger_makeAbove_73 : decode m_Arranger_makeAbove.2.1 73 = .ok (.iload_n 2, 1) := by decide +kernel
theorem d_Arranger_makeAbove_74 : decode m_Arranger_makeAbove.2.1 74 = .ok (.iaload, 1) := by decide +kernel
theorem d_Arranger_makeAbove_75 : decode m_Arranger_makeAbove.2.1 75 = .ok (.imul, 1) := by decide +kernel
theorem d_Arranger_makeAbove_76 : decode m_Arranger_makeAbove.2.1 76 = .ok (.lshl, 1) := by decide +kernel
theorem d_Arranger_makeAbove_77 : decode m_Arranger_makeAbove.2.1 77 = .ok (.aload_n 0, 1) := by decide +kernel
theorem d_Arranger_makeAbove_78 : decode m_Arranger_makeAbove.2.1 78 = .ok (.getfield 30, 3) := by decide +kernel
theorem d_Arranger_makeAbove_81 : decode m_Arranger_makeAbove.2.1 81 = .ok (.iload_n 2, 1) := by decide +kernel
theorem d_Arranger_makeAbove_82 : decode m_Arranger_makeAbove.2.1 82 = .ok (.laload, 1) := by decide +kernel
theorem d_Arranger_makeAbove_83 : decode m_Arranger_makeAbove.2.1 83 = .ok (.ladd, 1) := by decide +kernel
theorem d_Arranger_makeAbove_84 : decode m_Arranger_makeAbove.2.1 84 = .ok (.aload_n 0, 1) := by decide +kernel
theorem d_Arranger_makeAbove_85 : decode m_Arranger_makeAbove.2.1 85 = .ok (.getfield 27, 3) := by decide +kernel
theorem d_Arranger_makeAbove_88 : decode m_Arranger_makeAbove.2.1 88 = .ok (.iload_n 1, 1) := by decide +kernel
theorem d_Arranger_makeAbove_89 : decode m_Arranger_makeAbove.2.1 89 = .ok (.iaload, 1) := by decide +kernel
theorem d_Arranger_makeAbove_90 : decode m_Arranger_makeAbove.2.1 90 = .ok (.iconst 1, 1) := by decide +kernel
theorem d_Arranger_makeAbove_91 : decode m_Arranger_makeAbove.2.1 91 = .ok (.iadd, 1) := by decide +kernel
theorem d_Arranger_makeAbove_92 : decode m_Arranger_makeAbove.2.1 92 = .ok (.aload_n 0, 1) := by decide +kernel
theorem d_Arranger_makeAbove_93 : decode m_Arranger_makeAbove.2.1 93 = .ok (.getfield 27, 3) := by decide +kernel
theorem d_Arranger_makeAbove_96 : decode m_Arranger_makeAbove.2.1 96 = .ok (.iload_n 2, 1) := by decide +kernel
theorem d_Arranger_makeAbove_97 : decode m_Arranger_makeAbove.2.1 97 = .ok (.iaload, 1) := by decide +kernel
theorem d_Arranger_makeAbove_98 : decode m_Arranger_makeAbove.2.1 98 = .ok (.iadd, 1) := by decide +kernel
theorem d_Arranger_makeAbove_99 : decode m_Arranger_makeAbove.2.1 99 = .ok (.invokevirtual 130, 3) := by decide +kernel
theorem d_Arranger_makeAbove_102 : decode m_Arranger_makeAbove.2.1 102 = .ok (.aload_n 0, 1) := by decide +kernel
theorem d_Arranger_makeAbove_103 : decode m_Arranger_makeAbove.2.1 103 = .ok (.dup, 1) := by decide +kernel
theorem d_Arranger_makeAbove_104 : decode m_Arranger_makeAbove.2.1 104 = .ok (.getfield 34, 3) := by decide +kernel
theorem d_Arranger_makeAbove_107 : decode m_Arranger_makeAbove.2.1 107 = .ok (.iconst 1, 1) := by decide +kernel
theorem d_Arranger_makeAbove_108 : decode m_Arranger_makeAbove.2.1 108 = .ok (.iadd, 1) := by decide +kernel
theorem d_Arranger_makeAbove_109 : decode m_Arranger_makeAbove.2.1 109 = .ok (.putfield 34, 3) := by decide +kernel
theorem d_Arranger_makeAbove_112 : decode m_Arranger_makeAbove.2.1 112 = .ok (.return_, 1) := by decide +kernel
theorem b_Arranger_makeAbove_0 {E : EV} {d : Nat} {Q : Option AV → St → Prop} {σ : St} (x1 x2 x3 : Int) (hF : Fix σ) (h : (rI (σ.1 32 7)) ∧ (((σ.1 32 7) < 680 → (WMv E m_Arranger_keep d [aP 32, aI 65, aI x1, aI x2] σ (fun σ2 => Fix σ2 ∧ (0 ≤ x1 ∧ x1 < 680) ∧ (0 ≤ x2 ∧ x2 < 680) ∧ (rI (σ2.1 36 x1)) ∧ (rI (σ2.1 36 x2)) ∧ (0 ≤ x1 ∧ x1 < 680) ∧ (0 ≤ x2 ∧ x2 < 680) ∧ (WMv E m_Arranger_keepSize d [aP 32, aI (max (σ2.1 36 x1) (σ2.1 36 x2)), aI (((σ2.1 37 x1) + x3) + (σ2.1 37 x2))] σ2 (fun σ9 => Fix σ9 ∧ (0 ≤ x1 ∧ x1 < 680) ∧ (0 ≤ x2 ∧ x2 < 680) ∧ (0 ≤ x2 ∧ x2 < 680) ∧ (0 ≤ x1 ∧ x1 < 680) ∧ (0 ≤ x2 ∧ x2 < 680) ∧ (WMv E m_Arranger_keepText d [aP 32, aL ((lshl (((σ9.1 39 x1) * 8) + 4) (3 * (σ9.1 38 x2))) + (σ9.1 39 x2)), aI (((σ9.1 38 x1) + 1) + (σ9.1 38 x2))] σ9 (fun σ15 => Fix σ15 ∧ Q none (wr σ15 32 7 ((σ15.1 32 7) + 1))))))))) ∧ (¬ (σ.1 32 7) < 680 → Q none σ))) : WP E m_Arranger_makeAbove (d + 1) 0 [(0, aP 32), (1, aI x1), (2, aI x2), (3, aI x3)] [] σ Q := by
  refine s_aload_n 0 d_Arranger_makeAbove_0 rfl rfl ?_
  refine s_getF (v := σ.1 32 7) d_Arranger_makeAbove_1 fl_Arranger_34 rfl (sf_32 hF) rfl ?_
  refine s_sipush d_Arranger_makeAbove_4 (by decide) ?_
  obtain ⟨g1, h⟩ := h
  refine s_icmp_lt d_Arranger_makeAbove_7 rfl g1 (by decide) (fun c => ?_) (fun c => ?_)
  · have h := h.1 c
    refine s_aload_n 0 d_Arranger_makeAbove_11 rfl rfl ?_
    refine s_bipush d_Arranger_makeAbove_12 (by decide) ?_
    refine s_iload_n 1 d_Arranger_makeAbove_14 rfl rfl ?_
    refine s_iload_n 2 d_Arranger_makeAbove_15 rfl rfl ?_
    refine s_callV (as := [aI 65, aI x1, aI x2]) (ci := 0) d_Arranger_makeAbove_16 ok_Arranger_keep lk_Arranger_110 io_Arranger_keep so_Arranger_keep (by decide) rfl rfl rfl (Nat.le_of_ble_eq_true rfl) rfl (sf_32 hF) (WM.mono h ?_)
    rintro _ σ2 ⟨rfl, hp, h⟩
    obtain ⟨hF2, h⟩ := h
    show WP E m_Arranger_makeAbove (d + 1) 19 [(0, aP 32), (1, aI x1), (2, aI x2), (3, aI x3)] [] σ2 Q
    refine s_aload_n 0 d_Arranger_makeAbove_19 rfl rfl ?_
    refine s_aload_n 0 d_Arranger_makeAbove_20 rfl rfl ?_
    refine s_getF (v := 36) d_Arranger_makeAbove_21 fl_Arranger_21 rfl (sf_32 hF2) (ff_22 hF2) ?_
    refine s_iload_n 1 d_Arranger_makeAbove_24 rfl rfl ?_
    obtain ⟨g3, h⟩ := h
    refine s_ialoadv (v := σ2.1 36 x1) d_Arranger_makeAbove_25 ⟨_, sf_36 hF2, g3.1, g3.2, by have := g3.2; omega⟩ rfl ?_
    refine s_aload_n 0 d_Arranger_makeAbove_26 rfl rfl ?_
    refine s_getF (v := 36) d_Arranger_makeAbove_27 fl_Arranger_21 rfl (sf_32 hF2) (ff_22 hF2) ?_
    refine s_iload_n 2 d_Arranger_makeAbove_30 rfl rfl ?_
    obtain ⟨g4, h⟩ := h
    refine s_ialoadv (v := σ2.1 36 x2) d_Arranger_makeAbove_31 ⟨_, sf_36 hF2, g4.1, g4.2, by have := g4.2; omega⟩ rfl ?_
    obtain ⟨g5, h⟩ := h
    obtain ⟨g6, h⟩ := h
    refine s_mmax d_Arranger_makeAbove_32 lm_Arranger_137 lm_max_s lm_i lm_max_c (Nat.le_of_ble_eq_true rfl) g5 g6 ?_
    refine s_aload_n 0 d_Arranger_makeAbove_35 rfl rfl ?_
    refine s_getF (v := 37) d_Arranger_makeAbove_36 fl_Arranger_24 rfl (sf_32 hF2) (ff_23 hF2) ?_
    refine s_iload_n 1 d_Arranger_makeAbove_39 rfl rfl ?_
    obtain ⟨g7, h⟩ := h
    refine s_ialoadv (v := σ2.1 37 x1) d_Arranger_makeAbove_40 ⟨_, sf_37 hF2, g7.1, g7.2, by have := g7.2; omega⟩ rfl ?_
    refine s_iload_n 3 d_Arranger_makeAbove_41 rfl rfl ?_
    refine s_iadd d_Arranger_makeAbove_42 ?_
    refine s_aload_n 0 d_Arranger_makeAbove_43 rfl rfl ?_
    refine s_getF (v := 37) d_Arranger_makeAbove_44 fl_Arranger_24 rfl (sf_32 hF2) (ff_23 hF2) ?_
    refine s_iload_n 2 d_Arranger_makeAbove_47 rfl rfl ?_
    obtain ⟨g8, h⟩ := h
    refine s_ialoadv (v := σ2.1 37 x2) d_Arranger_makeAbove_48 ⟨_, sf_37 hF2, g8.1, g8.2, by have := g8.2; omega⟩ rfl ?_
    refine s_iadd d_Arranger_makeAbove_49 ?_
    refine s_callV (as := [aI (max (σ2.1 36 x1) (σ2.1 36 x2)), aI (((σ2.1 37 x1) + x3) + (σ2.1 37 x2))]) (ci := 0) d_Arranger_makeAbove_50 ok_Arranger_keepSize lk_Arranger_124 io_Arranger_keepSize so_Arranger_keepSize (by decide) rfl rfl rfl (Nat.le_of_ble_eq_true rfl) rfl (sf_32 hF2) (WM.mono h ?_)
    rintro _ σ9 ⟨rfl, hp, h⟩
    obtain ⟨hF9, h⟩ := h
    show WP E m_Arranger_makeAbove (d + 1) 53 [(0, aP 32), (1, aI x1), (2, aI x2), (3, aI x3)] [] σ9 Q
    refine s_aload_n 0 d_Arranger_makeAbove_53 rfl rfl ?_
    refine s_aload_n 0 d_Arranger_makeAbove_54 rfl rfl ?_
    refine s_getF (v := 39) d_Arranger_makeAbove_55 fl_Arranger_30 rfl (sf_32 hF9) (ff_25 hF9) ?_
    refine s_iload_n 1 d_Arranger_makeAbove_58 rfl rfl ?_
    obtain ⟨g10, h⟩ := h
    refine s_laloadv (v := σ9.1 39 x1) d_Arranger_makeAbove_59 ⟨_, sf_39 hF9, g10.1, g10.2, by have := g10.2; omega⟩ rfl ?_
    refine s_ldc2 (v := 8) d_Arranger_makeAbove_60 ll_Arranger_161 (by decide) ?_
    refine s_lmul d_Arranger_makeAbove_63 ?_
    refine s_ldc2 (v := 4) d_Arranger_makeAbove_64 ll_Arranger_168 (by decide) ?_
    refine s_ladd d_Arranger_makeAbove_67 ?_
    refine s_iconst d_Arranger_makeAbove_68 ?_
    refine s_aload_n 0 d_Arranger_makeAbove_69 rfl rfl ?_
    refine s_getF (v := 38) d_Arranger_makeAbove_70 fl_Arranger_27 rfl (sf_32 hF9) (ff_24 hF9) ?_
    refine s_iload_n 2 d_Arranger_makeAbove_73 rfl rfl ?_
    obtain ⟨g11, h⟩ := h
    refine s_ialoadv (v := σ9.1 38 x2) d_Arranger_makeAbove_74 ⟨_, sf_38 hF9, g11.1, g11.2, by have := g11.2; omega⟩ rfl ?_
    refine s_imul d_Arranger_makeAbove_75 ?_
    refine s_lshl d_Arranger_makeAbove_76 ?_
    refine s_aload_n 0 d_Arranger_makeAbove_77 rfl rfl ?_
    refine s_getF (v := 39) d_Arranger_makeAbove_78 fl_Arranger_30 rfl (sf_32 hF9) (ff_25 hF9) ?_
    refine s_iload_n 2 d_Arranger_makeAbove_81 rfl rfl ?_
    obtain ⟨g12, h⟩ := h
    refine s_laloadv (v := σ9.1 39 x2) d_Arranger_makeAbove_82 ⟨_, sf_39 hF9, g12.1, g12.2, by have := g12.2; omega⟩ rfl ?_
    refine s_ladd d_Arranger_makeAbove_83 ?_
    refine s_aload_n 0 d_Arranger_makeAbove_84 rfl rfl ?_
    refine s_getF (v := 38) d_Arranger_makeAbove_85 fl_Arranger_27 rfl (sf_32 hF9) (ff_24 hF9) ?_
    refine s_iload_n 1 d_Arranger_makeAbove_88 rfl rfl ?_
    obtain ⟨g13, h⟩ := h
    refine s_ialoadv (v := σ9.1 38 x1) d_Arranger_makeAbove_89 ⟨_, sf_38 hF9, g13.1, g13.2, by have := g13.2; omega⟩ rfl ?_
    refine s_iconst d_Arranger_makeAbove_90 ?_
    refine s_iadd d_Arranger_makeAbove_91 ?_
    refine s_aload_n 0 d_Arranger_makeAbove_92 rfl rfl ?_
    refine s_getF (v := 38) d_Arranger_makeAbove_93 fl_Arranger_27 rfl (sf_32 hF9) (ff_24 hF9) ?_
    refine s_iload_n 2 d_Arranger_makeAbove_96 rfl rfl ?_
    obtain ⟨g14, h⟩ := h
    refine s_ialoadv (v := σ9.1 38 x2) d_Arranger_makeAbove_97 ⟨_, sf_38 hF9, g14.1, g14.2, by have := g14.2; omega⟩ rfl ?_
    refine s_iadd d_Arranger_makeAbove_98 ?_
    refine s_callV (as := [aL ((lshl (((σ9.1 39 x1) * 8) + 4) (3 * (σ9.1 38 x2))) + (σ9.1 39 x2)), aI (((σ9.1 38 x1) + 1) + (σ9.1 38 x2))]) (ci := 0) d_Arranger_makeAbove_99 ok_Arranger_keepText lk_Arranger_130 io_Arranger_keepText so_Arranger_keepText (by decide) rfl rfl rfl (Nat.le_of_ble_eq_true rfl) rfl (sf_32 hF9) (WM.mono h ?_)
    rintro _ σ15 ⟨rfl, hp, h⟩
    obtain ⟨hF15, h⟩ := h
    show WP E m_Arranger_makeAbove (d + 1) 102 [(0, aP 32), (1, aI x1), (2, aI x2), (3, aI x3)] [] σ15 Q
    refine s_aload_n 0 d_Arranger_makeAbove_102 rfl rfl ?_
    refine s_dup d_Arranger_makeAbove_103 (Nat.ne_of_beq_eq_false rfl) ?_
    refine s_getF (v := σ15.1 32 7) d_Arranger_makeAbove_104 fl_Arranger_34 rfl (sf_32 hF15) rfl ?_
    refine s_iconst d_Arranger_makeAbove_107 ?_
    refine s_iadd d_Arranger_makeAbove_108 ?_
    refine s_putf 7 rfl d_Arranger_makeAbove_109 fl_Arranger_34 (fun C T h => by cases h; exact Or.inl rfl) rfl (Or.inl rfl) (fun h => nomatch h) (sf_32 hF15) ?_
    exact s_return d_Arranger_makeAbove_112 rfl h
  · have h := h.2 c
    exact s_return d_Arranger_makeAbove_10 rfl h
theorem e_Arranger_makeAbove {E : EV} {d : Nat} {Q : Option AV → St → Prop} {σ : St} (x1 x2 x3 : Int) (hF : Fix σ) (h : (rI (σ.1 32 7)) ∧ (((σ.1 32 7) < 680 → (WMv E m_Arranger_keep d [aP 32, aI 65, aI x1, aI x2] σ (fun σ2 => Fix σ2 ∧ (0 ≤ x1 ∧ x1 < 680) ∧ (0 ≤ x2 ∧ x2 < 680) ∧ (rI (σ2.1 36 x1)) ∧ (rI (σ2.1 36 x2)) ∧ (0 ≤ x1 ∧ x1 < 680) ∧ (0 ≤ x2 ∧ x2 < 680) ∧ (WMv E m_Arranger_keepSize d [aP 32, aI (max (σ2.1 36 x1) (σ2.1 36 x2)), aI (((σ2.1 37 x1) + x3) + (σ2.1 37 x2))] σ2 (fun σ9 => Fix σ9 ∧ (0 ≤ x1 ∧ x1 < 680) ∧ (0 ≤ x2 ∧ x2 < 680) ∧ (0 ≤ x2 ∧ x2 < 680) ∧ (0 ≤ x1 ∧ x1 < 680) ∧ (0 ≤ x2 ∧ x2 < 680) ∧ (WMv E m_Arranger_keepText d [aP 32, aL ((lshl (((σ9.1 39 x1) * 8) + 4) (3 * (σ9.1 38 x2))) + (σ9.1 39 x2)), aI (((σ9.1 38 x1) + 1) + (σ9.1 38 x2))] σ9 (fun σ15 => Fix σ15 ∧ Q none (wr σ15 32 7 ((σ15.1 32 7) + 1))))))))) ∧ (¬ (σ.1 32 7) < 680 → Q none σ))) : WM E m_Arranger_makeAbove (d + 1) [aP 32, aI x1, aI x2, aI x3] σ Q := s_meth (by decide) (Nat.le_of_ble_eq_true rfl) rfl (b_Arranger_makeAbove_0 x1 x2 x3 hF h)
theorem d_Arranger_bestForm_0 : decode m_Arranger_bestForm.2.1 0 = .ok (.aload_n 0, 1) := by decide +kernel
theorem d_Arranger_bestForm_1 : decode m_Arranger_bestForm.2.1 1 = .ok (.getfield 38, 3) := by decide +kernel
theorem d_Arranger_bestForm_4 : decode m_Arranger_bestForm.2.1 4 = .ok (.iload_n 1, 1) := by decide +kernel
theorem d_Arranger_bestForm_5 : decode m_Arranger_bestForm.2.1 5 = .ok (.iaload, 1) := by decide +kernel
theorem d_Arranger_bestForm_6 : decode m_Arranger_bestForm.2.1 6 = .ok (.istore_n 3, 1) := by decide +kernel
theorem d_Arranger_bestForm_7 : decode m_Arranger_bestForm.2.1 7 = .ok (.iload_n 3, 1) := by decide +kernel
theorem d_Arranger_bestForm_8 : decode m_Arranger_bestForm.2.1 8 = .ok (.iconst 1, 1) := by decide +kernel
theorem d_Arranger_bestForm_9 : decode m_Arranger_bestForm.2.1 9 = .ok (.iadd, 1) := by decide +kernel
theorem d_Arranger_bestForm_10 : decode m_Arranger_bestForm.2.1 10 = .ok (.istore 4, 2) := by decide +kernel
theorem d_Arranger_bestForm_12 : decode m_Arranger_bestForm.2.1 12 = .ok (.iload 4, 2) := by decide +kernel
theorem d_Arranger_bestForm_14 : decode m_Arranger_bestForm.2.1 14 = .ok (.aload_n 0, 1) := by decide +kernel
theorem d_Arranger_bestForm_15 : decode m_Arranger_bestForm.2.1 15 = .ok (.getfield 41, 3) := by decide +kernel
theorem d_Arranger_bestForm_18 : decode m_Arranger_bestForm.2.1 18 = .ok (.iload_n 1, 1) := by decide +kernel
theorem d_Arranger_bestForm_19 : decode m_Arranger_bestForm.2.1 19 = .ok (.iaload, 1) := by decide +kernel
theorem d_Arranger_bestForm_20 : decode m_Arranger_bestForm.2.1 20 = .ok (.if_icmp .ge 32, 3) := by decide +kernel
theorem d_Arranger_bestForm_23 : decode m_Arranger_bestForm.2.1 23 = .ok (.aload_n 0, 1) := by decide +kernel
theorem d_Arranger_bestForm_24 : decode m_Arranger_bestForm.2.1 24 = .ok (.iload 4, 2) := by decide +kernel
theorem d_Arranger_bestForm_26 : decode m_Arranger_bestForm.2.1 26 = .ok (.invokevirtual 148, 3) := by decide +kernel
theorem d_Arranger_bestForm_29 : decode m_Arranger_bestForm.2.1 29 = .ok (.ifCond .eq 17, 3) := by decide +kernel
theorem d_Arranger_bestForm_32 : decode m_Arranger_bestForm.2.1 32 = .ok (.aload_n 0, 1) := by decide +kernel
theorem d_Arranger_bestForm_33 : decode m_Arranger_bestForm.2.1 33 = .ok (.iload 4, 2) := by decide +kernel
theorem d_Arranger_bestForm_35 : decode m_Arranger_bestForm.2.1 35 = .ok (.iload_n 3, 1) := by decide +kernel
theorem d_Arranger_bestForm_36 : decode m_Arranger_bestForm.2.1 36 = .ok (.iload_n 2, 1) := by decide +kernel
theorem d_Arranger_bestForm_37 : decode m_Arranger_bestForm.2.1 37 = .ok (.invokevirtual 172, 3) := by decide +kernel
theorem d_Arranger_bestForm_40 : decode m_Arranger_bestForm.2.1 40 = .ok (.ifCond .eq 6, 3) := by decide +kernel
theorem d_Arranger_bestForm_43 : decode m_Arranger_bestForm.2.1 43 = .ok (.iload 4, 2) := by decide +kernel
theorem d_Arranger_bestForm_45 : decode m_Arranger_bestForm.2.1 45 = .ok (.istore_n 3, 1) := by decide +kernel
theorem d_Arranger_bestForm_46 : decode m_Arranger_bestForm.2.1 46 = .ok (.iinc 4 1, 3) := by decide +kernel
theorem d_Arranger_bestForm_49 : decode m_Arranger_bestForm.2.1 49 = .ok (.goto (-37), 3) := by decide +kernel
theorem d_Arranger_bestForm_52 : decode m_Arranger_bestForm.2.1 52 = .ok (.iload_n 3, 1) := by decide +kernel
theorem d_Arranger_bestForm_53 : decode m_Arranger_bestForm.2.1 53 = .ok (.ireturn, 1) := by decide +kernel
theorem b_Arranger_bestForm_0 {E : EV} {d : Nat} {Q : Option AV → St → Prop} {σ : St} (x1 x2 : Int) (hF : Fix σ) (h : (0 ≤ x1 ∧ x1 < 49) ∧ WP E m_Arranger_bestForm (d + 1) 12 [(0, aP 32), (1, aI x1), (2, aI x2), (3, aI (σ.1 40 x1)), (4, aI ((σ.1 40 x1) + 1))] [] σ Q) : WP E m_Arranger_bestForm (d + 1) 0 [(0, aP 32), (1, aI x1), (2, aI x2)] [] σ Q := by
  refine s_aload_n 0 d_Arranger_bestForm_0 rfl rfl ?_
  refine s_getF (v := 40) d_Arranger_bestForm_1 fl_Arranger_38 rfl (sf_32 hF) (ff_26 hF) ?_
  refine s_iload_n 1 d_Arranger_bestForm_4 rfl rfl ?_
  obtain ⟨g1, h⟩ := h
  refine s_ialoadv (v := σ.1 40 x1) d_Arranger_bestForm_5 ⟨_, sf_40 hF, g1.1, g1.2, by have := g1.2; omega⟩ rfl ?_
  refine s_istore_n d_Arranger_bestForm_6 rfl (by decide) rfl ?_
  refine s_iload_n 0 d_Arranger_bestForm_7 rfl rfl ?_
  refine s_iconst d_Arranger_bestForm_8 ?_
  refine s_iadd d_Arranger_bestForm_9 ?_
  refine s_istore d_Arranger_bestForm_10 (by decide) rfl ?_
  refine wp_drop [2, 3, 4, 1, 0] rfl ?_
  exact h
theorem e_Arranger_bestForm {E : EV} {d : Nat} {Q : Option AV → St → Prop} {σ : St} (x1 x2 : Int) (hF : Fix σ) (h : (0 ≤ x1 ∧ x1 < 49) ∧ WP E m_Arranger_bestForm (d + 1) 12 [(0, aP 32), (1, aI x1), (2, aI x2), (3, aI (σ.1 40 x1)), (4, aI ((σ.1 40 x1) + 1))] [] σ Q) : WM E m_Arranger_bestForm (d + 1) [aP 32, aI x1, aI x2] σ Q := s_meth (by decide) (Nat.le_of_ble_eq_true rfl) rfl (b_Arranger_bestForm_0 x1 x2 hF h)
theorem b_Arranger_bestForm_12 {E : EV} {d : Nat} {Q : Option AV → St → Prop} {σ : St} (x1 x2 x3 x4 : Int) (hF : Fix σ) (h : (0 ≤ x1 ∧ x1 < 49) ∧ (rI x4) ∧ (rI (σ.1 41 x1)) ∧ (((σ.1 41 x1) ≤ x4 → Q (some (aI x3)) σ) ∧ (¬ (σ.1 41 x1) ≤ x4 → (WMi E m_Arranger_isForm d [aP 32, aI x4] σ (fun v4 σ4 => Fix σ4 ∧ (rI v4) ∧ ((v4 = 0 → WP E m_Arranger_bestForm (d + 1) 46 [(0, aP 32), (1, aI x1), (2, aI x2), (3, aI x3), (4, aI x4)] [] σ4 Q) ∧ (¬ v4 = 0 → (WMi E m_Arranger_isBetter d [aP 32, aI x4, aI x3, aI x2] σ4 (fun v6 σ6 => (rI v6) ∧ ((v6 = 0 → WP E m_Arranger_bestForm (d + 1) 46 [(0, aP 32), (1, aI x1), (2, aI x2), (3, aI x3), (4, aI x4)] [] σ6 Q) ∧ (¬ v6 = 0 → WP E m_Arranger_bestForm (d + 1) 46 [(0, aP 32), (1, aI x1), (2, aI x2), (3, aI x4), (4, aI x4)] [] σ6 Q))))))))))) : WP E m_Arranger_bestForm (d + 1) 12 [(0, aP 32), (1, aI x1), (2, aI x2), (3, aI x3), (4, aI x4)] [] σ Q := by
  refine s_iload 4 d_Arranger_bestForm_12 rfl ?_
  refine s_aload_n 0 d_Arranger_bestForm_14 rfl rfl ?_
  refine s_getF (v := 41) d_Arranger_bestForm_15 fl_Arranger_41 rfl (sf_32 hF) (ff_27 hF) ?_
  refine s_iload_n 1 d_Arranger_bestForm_18 rfl rfl ?_
  obtain ⟨g1, h⟩ := h
  refine s_ialoadv (v := σ.1 41 x1) d_Arranger_bestForm_19 ⟨_, sf_41 hF, g1.1, g1.2, by have := g1.2; omega⟩ rfl ?_
  obtain ⟨g2, h⟩ := h
  obtain ⟨g3, h⟩ := h
  refine s_icmp_ge d_Arranger_bestForm_20 rfl g2 g3 (fun c => ?_) (fun c => ?_)
  · have h := h.1 c
    refine s_iload_n 3 d_Arranger_bestForm_52 rfl rfl ?_
    exact s_ireturn d_Arranger_bestForm_53 rfl h
  · have h := h.2 c
    refine s_aload_n 0 d_Arranger_bestForm_23 rfl rfl ?_
    refine s_iload 4 d_Arranger_bestForm_24 rfl ?_
    refine s_callV (as := [aI x4]) (ci := 0) d_Arranger_bestForm_26 ok_Arranger_isForm lk_Arranger_148 io_Arranger_isForm so_Arranger_isForm (by decide) rfl rfl rfl (Nat.le_of_ble_eq_true rfl) rfl (sf_32 hF) (WM.mono h ?_)
    rintro _ σ4 ⟨v4, rfl, hp, h⟩
    obtain ⟨hF4, h⟩ := h
    show WP E m_Arranger_bestForm (d + 1) 29 [(0, aP 32), (1, aI x1), (2, aI x2), (3, aI x3), (4, aI x4)] [aI v4] σ4 Q
    obtain ⟨g5, h⟩ := h
    refine s_if_eq d_Arranger_bestForm_29 rfl g5 (fun c => ?_) (fun c => ?_)
    · have h := h.1 c
      exact h
    · have h := h.2 c
      refine s_aload_n 0 d_Arranger_bestForm_32 rfl rfl ?_
      refine s_iload 4 d_Arranger_bestForm_33 rfl ?_
      refine s_iload_n 3 d_Arranger_bestForm_35 rfl rfl ?_
      refine s_iload_n 2 d_Arranger_bestForm_36 rfl rfl ?_
      refine s_callV (as := [aI x4, aI x3, aI x2]) (ci := 0) d_Arranger_bestForm_37 ok_Arranger_isBetter lk_Arranger_172 io_Arranger_isBetter so_Arranger_isBetter (by decide) rfl rfl rfl (Nat.le_of_ble_eq_true rfl) rfl (sf_32 hF4) (WM.mono h ?_)
      rintro _ σ6 ⟨v6, rfl, hp, h⟩
      show WP E m_Arranger_bestForm (d + 1) 40 [(0, aP 32), (1, aI x1), (2, aI x2), (3, aI x3), (4, aI x4)] [aI v6] σ6 Q
      obtain ⟨g7, h⟩ := h
      refine s_if_eq d_Arranger_bestForm_40 rfl g7 (fun c => ?_) (fun c => ?_)
      · have h := h.1 c
        exact h
      · have h := h.2 c
        refine s_iload 4 d_Arranger_bestForm_43 rfl ?_
        refine s_istore_n d_Arranger_bestForm_45 rfl (by decide) rfl ?_
        refine wp_drop [1, 2, 3, 0, 4] rfl ?_
        exact h
theorem b_Arranger_bestForm_46 {E : EV} {d : Nat} {Q : Option AV → St → Prop} {σ : St} (x1 x2 x3 x4 : Int) (h : WP E m_Arranger_bestForm (d + 1) 12 [(0, aP 32), (1, aI x1), (2, aI x2), (3, aI x3), (4, aI (x4 + 1))] [] σ Q) : WP E m_Arranger_bestForm (d + 1) 46 [(0, aP 32), (1, aI x1), (2, aI x2), (3, aI x3), (4, aI x4)] [] σ Q := by
  refine s_iinc 4 d_Arranger_bestForm_46 rfl (by decide) rfl ?_
  refine s_goto d_Arranger_bestForm_49 rfl ?_
  refine wp_drop [1, 2, 3, 4, 0] rfl ?_
  exact h
theorem d_Arranger_isBetter_0 : decode m_Arranger_isBetter.2.1 0 = .ok (.iload_n 3, 1) := by decide +kernel
theorem d_Arranger_isBetter_1 : decode m_Arranger_isBetter.2.1 1 = .ok (.aload_n 0, 1) := by decide +kernel
theorem d_Arranger_isBetter_2 : decode m_Arranger_isBetter.2.1 2 = .ok (.getfield 21, 3) := by decide +kernel
theorem d_Arranger_isBetter_5 : decode m_Arranger_isBetter.2.1 5 = .ok (.iload_n 1, 1) := by decide +kernel
theorem d_Arranger_isBetter_6 : decode m_Arranger_isBetter.2.1 6 = .ok (.iaload, 1) := by decide +kernel
theorem d_Arranger_isBetter_7 : decode m_Arranger_isBetter.2.1 7 = .ok (.aload_n 0, 1) := by decide +kernel
theorem d_Arranger_isBetter_8 : decode m_Arranger_isBetter.2.1 8 = .ok (.getfield 24, 3) := by decide +kernel
theorem d_Arranger_isBetter_11 : decode m_Arranger_isBetter.2.1 11 = .ok (.iload_n 1, 1) := by decide +kernel
theorem d_Arranger_isBetter_12 : decode m_Arranger_isBetter.2.1 12 = .ok (.iaload, 1) := by decide +kernel
theorem d_Arranger_isBetter_13 : decode m_Arranger_isBetter.2.1 13 = .ok (.invokestatic 137, 3) := by decide +kernel
theorem d_Arranger_isBetter_16 : decode m_Arranger_isBetter.2.1 16 = .ok (.invokestatic 137, 3) := by decide +kernel
theorem d_Arranger_isBetter_19 : decode m_Arranger_isBetter.2.1 19 = .ok (.istore 4, 2) := by decide +kernel
theorem d_Arranger_isBetter_21 : decode m_Arranger_isBetter.2.1 21 = .ok (.iload_n 3, 1) := by decide +kernel
theorem d_Arranger_isBetter_22 : decode m_Arranger_isBetter.2.1 22 = .ok (.aload_n 0, 1) := by decide +kernel
theorem d_Arranger_isBetter_23 : decode m_Arranger_isBetter.2.1 23 = .ok (.getfield 21, 3) := by decide +kernel
theorem d_Arranger_isBetter_26 : decode m_Arranger_isBetter.2.1 26 = .ok (.iload_n 2, 1) := by decide +kernel
theorem d_Arranger_isBetter_27 : decode m_Arranger_isBetter.2.1 27 = .ok (.iaload, 1) := by decide +kernel
theorem d_Arranger_isBetter_28 : decode m_Arranger_isBetter.2.1 28 = .ok (.aload_n 0, 1) := by decide +kernel
theorem d_Arranger_isBetter_29 : decode m_Arranger_isBetter.2.1 29 = .ok (.getfield 24, 3) := by decide +kernel
theorem d_Arranger_isBetter_32 : decode m_Arranger_isBetter.2.1 32 = .ok (.iload_n 2, 1) := by decide +kernel
theorem d_Arranger_isBetter_33 : decode m_Arranger_isBetter.2.1 33 = .ok (.iaload, 1) := by decide +kernel
theorem d_Arranger_isBetter_34 : decode m_Arranger_isBetter.2.1 34 = .ok (.invokestatic 137, 3) := by decide +kernel
theorem d_Arranger_isBetter_37 : decode m_Arranger_isBetter.2.1 37 = .ok (.invokestatic 137, 3) := by decide +kernel
theorem d_Arranger_isBetter_40 : decode m_Arranger_isBetter.2.1 40 = .ok (.istore 5, 2) := by decide +kernel
theorem d_Arranger_isBetter_42 : decode m_Arranger_isBetter.2.1 42 = .ok (.iload 4, 2) := by decide +kernel
theorem d_Arranger_isBetter_44 : decode m_Arranger_isBetter.2.1 44 = .ok (.iload 5, 2) := by decide +kernel
theorem d_Arranger_isBetter_46 : decode m_Arranger_isBetter.2.1 46 = .ok (.if_icmp .eq 16, 3) := by decide +kernel
theorem d_Arranger_isBetter_49 : decode m_Arranger_isBetter.2.1 49 = .ok (.iload 4, 2) := by decide +kernel
theorem d_Arranger_isBetter_51 : decode m_Arranger_isBetter.2.1 51 = .ok (.iload 5, 2) := by decide +kernel
theorem d_Arranger_isBetter_53 : decode m_Arranger_isBetter.2.1 53 = .ok (.if_icmp .ge 7, 3) := by decide +kernel
theorem d_Arranger_isBetter_56 : decode m_Arranger_isBetter.2.1 56 = .ok (.iconst 1, 1) := by decide +kernel
theorem d_Arranger_isBetter_57 : decode m_Arranger_isBetter.2.1 57 = .ok (.goto 4, 3) := by decide +kernel
theorem d_Arranger_isBetter_60 : decode m_Arranger_isBetter.2.1 60 = .ok (.iconst 0, 1) := by decide +kernel
theorem d_Arranger_isBetter_61 : decode m_Arranger_isBetter.2.1 61 = .ok (.ireturn, 1) := by decide +kernel
theorem d_Arranger_isBetter_62 : decode m_Arranger_isBetter.2.1 62 = .ok (.aload_n 0, 1) := by decide +kernel
theorem d_Arranger_isBetter_63 : decode m_Arranger_isBetter.2.1 63 = .ok (.getfield 27, 3) := by decide +kernel
theorem d_Arranger_isBetter_66 : decode m_Arranger_isBetter.2.1 66 = .ok (.iload_n 1, 1) := by decide +kernel
theorem d_Arranger_isBetter_67 : decode m_Arranger_isBetter.2.1 67 = .ok (.iaload, 1) := by decide +kernel
theorem d_Arranger_isBetter_68 : decode m_Arranger_isBetter.2.1 68 = .ok (.aload_n 0, 1) := by decide +kernel
theorem d_Arranger_isBetter_69 : decode m_Arranger_isBetter.2.1 69 = .ok (.getfield 27, 3) := by decide +kernel
theorem d_Arranger_isBetter_72 : decode m_Arranger_isBetter.2.1 72 = .ok (.iload_n 2, 1) := by decide +kernel
theorem d_Arranger_isBetter_73 : decode m_Arranger_isBetter.2.1 73 = .ok (.iaload, 1) := by decide +kernel
theorem d_Arranger_isBetter_74 : decode m_Arranger_isBetter.2.1 74 = .ok (.if_icmp .eq 24, 3) := by decide +kernel
theorem d_Arranger_isBetter_77 : decode m_Arranger_isBetter.2.1 77 = .ok (.aload_n 0, 1) := by decide +kernel
theorem d_Arranger_isBetter_78 : decode m_Arranger_isBetter.2.1 78 = .ok (.getfield 27, 3) := by decide +kernel
theorem d_Arranger_isBetter_81 : decode m_Arranger_isBetter.2.1 81 = .ok (.iload_n 1, 1) := by decide +kernel
theorem d_Arranger_isBetter_82 : decode m_Arranger_isBetter.2.1 82 = .ok (.iaload, 1) := by decide +kernel
theorem d_Arranger_isBetter_83 : decode m_Arranger_isBetter.2.1 83 = .ok (.aload_n 0, 1) := by decide +kernel
theorem d_Arranger_isBetter_84 : decode m_Arranger_isBetter.2.1 84 = .ok (.getfield 27, 3) := by decide +kernel
theorem d_Arranger_isBetter_87 : decode m_Arranger_isBetter.2.1 87 = .ok (.iload_n 2, 1) := by decide +kernel
theorem d_Arranger_isBetter_88 : decode m_Arranger_isBetter.2.1 88 = .ok (.iaload, 1) := by decide +kernel
theorem d_Arranger_isBetter_89 : decode m_Arranger_isBetter.2.1 89 = .ok (.if_icmp .ge 7, 3) := by decide +kernel
theorem d_Arranger_isBetter_92 : decode m_Arranger_isBetter.2.1 92 = .ok (.iconst 1, 1) := by decide +kernel
theorem d_Arranger_isBetter_93 : decode m_Arranger_isBetter.2.1 93 = .ok (.goto 4, 3) := by decide +kernel
theorem d_Arranger_isBetter_96 : decode m_Arranger_isBetter.2.1 96 = .ok (.iconst 0, 1) := by decide +kernel
theorem d_Arranger_isBetter_97 : decode m_Arranger_isBetter.2.1 97 = .ok (.ireturn, 1) := by decide +kernel
theorem d_Arranger_isBetter_98 : decode m_Arranger_isBetter.2.1 98 = .ok (.aload_n 0, 1) := by decide +kernel
theorem d_Arranger_isBetter_99 : decode m_Arranger_isBetter.2.1 99 = .ok (.getfield 30, 3) := by decide +kernel
theorem d_Arranger_isBetter_102 : decode m_Arranger_isBetter.2.1 102 = .ok (.iload_n 1, 1) := by decide +kernel
theorem d_Arranger_isBetter_103 : decode m_Arranger_isBetter.2.1 103 = .ok (.laload, 1) := by decide +kernel
theorem d_Arranger_isBetter_104 : decode m_Arranger_isBetter.2.1 104 = .ok (.aload_n 0, 1) := by decide +kernel
theorem d_Arranger_isBetter_105 : decode m_Arranger_isBetter.2.1 105 = .ok (.getfield 30, 3) := by decide +kernel
theorem d_Arranger_isBetter_108 : decode m_Arranger_isBetter.2.1 108 = .ok (.iload_n 2, 1) := by decide +kernel
theorem d_Arranger_isBetter_109 : decode m_Arranger_isBetter.2.1 109 = .ok (.laload, 1) := by decide +kernel
theorem d_Arranger_isBetter_110 : decode m_Arranger_isBetter.2.1 110 = .ok (.lcmp, 1) := by decide +kernel
theorem d_Arranger_isBetter_111 : decode m_Arranger_isBetter.2.1 111 = .ok (.ifCond .ge 7, 3) := by decide +kernel
theorem d_Arranger_isBetter_114 : decode m_Arranger_isBetter.2.1 114 = .ok (.iconst 1, 1) := by decide +kernel
theorem d_Arranger_isBetter_115 : decode m_Arranger_isBetter.2.1 115 = .ok (.goto 4, 3) := by decide +kernel
theorem d_Arranger_isBetter_118 : decode m_Arranger_isBetter.2.1 118 = .ok (.iconst 0, 1) := by decide +kernel
theorem d_Arranger_isBetter_119 : decode m_Arranger_isBetter.2.1 119 = .ok (.ireturn, 1) := by decide +kernel
theorem b_Arranger_isBetter_0 {E : EV} {d : Nat} {Q : Option AV → St → Prop} {σ : St} (x1 x2 x3 : Int) (hF : Fix σ) (h : (0 ≤ x1 ∧ x1 < 680) ∧ (0 ≤ x1 ∧ x1 < 680) ∧ (rI (σ.1 36 x1)) ∧ (rI (σ.1 37 x1)) ∧ (rI x3) ∧ (rI (max (σ.1 36 x1) (σ.1 37 x1))) ∧ (0 ≤ x2 ∧ x2 < 680) ∧ (0 ≤ x2 ∧ x2 < 680) ∧ (rI (σ.1 36 x2)) ∧ (rI (σ.1 37 x2)) ∧ (rI x3) ∧ (rI (max (σ.1 36 x2) (σ.1 37 x2))) ∧ (rI (max x3 (max (σ.1 36 x1) (σ.1 37 x1)))) ∧ (rI (max x3 (max (σ.1 36 x2) (σ.1 37 x2)))) ∧ (((max x3 (max (σ.1 36 x1) (σ.1 37 x1))) = (max x3 (max (σ.1 36 x2) (σ.1 37 x2))) → (0 ≤ x1 ∧ x1 < 680) ∧ (0 ≤ x2 ∧ x2 < 680) ∧ (rI (σ.1 38 x1)) ∧ (rI (σ.1 38 x2)) ∧ (((σ.1 38 x1) = (σ.1 38 x2) → (0 ≤ x1 ∧ x1 < 680) ∧ (0 ≤ x2 ∧ x2 < 680) ∧ (rL (σ.1 39 x1)) ∧ (rL (σ.1 39 x2)) ∧ (((σ.1 39 x2) ≤ (σ.1 39 x1) → Q (some (aI 0)) σ) ∧ (¬ (σ.1 39 x2) ≤ (σ.1 39 x1) → Q (some (aI 1)) σ))) ∧ (¬ (σ.1 38 x1) = (σ.1 38 x2) → (0 ≤ x1 ∧ x1 < 680) ∧ (0 ≤ x2 ∧ x2 < 680) ∧ (rI (σ.1 38 x1)) ∧ (rI (σ.1 38 x2)) ∧ (((σ.1 38 x2) ≤ (σ.1 38 x1) → Q (some (aI 0)) σ) ∧ (¬ (σ.1 38 x2) ≤ (σ.1 38 x1) → Q (some (aI 1)) σ))))) ∧ (¬ (max x3 (max (σ.1 36 x1) (σ.1 37 x1))) = (max x3 (max (σ.1 36 x2) (σ.1 37 x2))) → (rI (max x3 (max (σ.1 36 x1) (σ.1 37 x1)))) ∧ (rI (max x3 (max (σ.1 36 x2) (σ.1 37 x2)))) ∧ (((max x3 (max (σ.1 36 x2) (σ.1 37 x2))) ≤ (max x3 (max (σ.1 36 x1) (σ.1 37 x1))) → Q (some (aI 0)) σ) ∧ (¬ (max x3 (max (σ.1 36 x2) (σ.1 37 x2))) ≤ (max x3 (max (σ.1 36 x1) (σ.1 37 x1))) → Q (some (aI 1)) σ))))) : WP E m_Arranger_isBetter (d + 1) 0 [(0, aP 32), (1, aI x1), (2, aI x2), (3, aI x3)] [] σ Q := by
  refine s_iload_n 3 d_Arranger_isBetter_0 rfl rfl ?_
  refine s_aload_n 0 d_Arranger_isBetter_1 rfl rfl ?_
  refine s_getF (v := 36) d_Arranger_isBetter_2 fl_Arranger_21 rfl (sf_32 hF) (ff_22 hF) ?_
  refine s_iload_n 1 d_Arranger_isBetter_5 rfl rfl ?_
  obtain ⟨g1, h⟩ := h
  refine s_ialoadv (v := σ.1 36 x1) d_Arranger_isBetter_6 ⟨_, sf_36 hF, g1.1, g1.2, by have := g1.2; omega⟩ rfl ?_
  refine s_aload_n 0 d_Arranger_isBetter_7 rfl rfl ?_
  refine s_getF (v := 37) d_Arranger_isBetter_8 fl_Arranger_24 rfl (sf_32 hF) (ff_23 hF) ?_
  refine s_iload_n 1 d_Arranger_isBetter_11 rfl rfl ?_
  obtain ⟨g2, h⟩ := h
  refine s_ialoadv (v := σ.1 37 x1) d_Arranger_isBetter_12 ⟨_, sf_37 hF, g2.1, g2.2, by have := g2.2; omega⟩ rfl ?_
  obtain ⟨g3, h⟩ := h
  obtain ⟨g4, h⟩ := h
  refine s_mmax d_Arranger_isBetter_13 lm_Arranger_137 lm_max_s lm_i lm_max_c (Nat.le_of_ble_eq_true rfl) g3 g4 ?_
  obtain ⟨g5, h⟩ := h
  obtain ⟨g6, h⟩ := h
  refine s_mmax d_Arranger_isBetter_16 lm_Arranger_137 lm_max_s lm_i lm_max_c (Nat.le_of_ble_eq_true rfl) g5 g6 ?_
  refine s_istore d_Arranger_isBetter_19 (by decide) rfl ?_
  refine s_iload_n 4 d_Arranger_isBetter_21 rfl rfl ?_
  refine s_aload_n 1 d_Arranger_isBetter_22 rfl rfl ?_
  refine s_getF (v := 36) d_Arranger_isBetter_23 fl_Arranger_21 rfl (sf_32 hF) (ff_22 hF) ?_
  refine s_iload_n 3 d_Arranger_isBetter_26 rfl rfl ?_
  obtain ⟨g7, h⟩ := h
  refine s_ialoadv (v := σ.1 36 x2) d_Arranger_isBetter_27 ⟨_, sf_36 hF, g7.1, g7.2, by have := g7.2; omega⟩ rfl ?_
  refine s_aload_n 1 d_Arranger_isBetter_28 rfl rfl ?_
  refine s_getF (v := 37) d_Arranger_isBetter_29 fl_Arranger_24 rfl (sf_32 hF) (ff_23 hF) ?_
  refine s_iload_n 3 d_Arranger_isBetter_32 rfl rfl ?_
  obtain ⟨g8, h⟩ := h
  refine s_ialoadv (v := σ.1 37 x2) d_Arranger_isBetter_33 ⟨_, sf_37 hF, g8.1, g8.2, by have := g8.2; omega⟩ rfl ?_
  obtain ⟨g9, h⟩ := h
  obtain ⟨g10, h⟩ := h
  refine s_mmax d_Arranger_isBetter_34 lm_Arranger_137 lm_max_s lm_i lm_max_c (Nat.le_of_ble_eq_true rfl) g9 g10 ?_
  obtain ⟨g11, h⟩ := h
  obtain ⟨g12, h⟩ := h
  refine s_mmax d_Arranger_isBetter_37 lm_Arranger_137 lm_max_s lm_i lm_max_c (Nat.le_of_ble_eq_true rfl) g11 g12 ?_
  refine s_istore d_Arranger_isBetter_40 (by decide) rfl ?_
  refine s_iload 1 d_Arranger_isBetter_42 rfl ?_
  refine s_iload 0 d_Arranger_isBetter_44 rfl ?_
  obtain ⟨g13, h⟩ := h
  obtain ⟨g14, h⟩ := h
  refine s_icmp_eq d_Arranger_isBetter_46 rfl g13 g14 (fun c => ?_) (fun c => ?_)
  · have h := h.1 c
    refine s_aload_n 2 d_Arranger_isBetter_62 rfl rfl ?_
    refine s_getF (v := 38) d_Arranger_isBetter_63 fl_Arranger_27 rfl (sf_32 hF) (ff_24 hF) ?_
    refine s_iload_n 3 d_Arranger_isBetter_66 rfl rfl ?_
    obtain ⟨g15, h⟩ := h
    refine s_ialoadv (v := σ.1 38 x1) d_Arranger_isBetter_67 ⟨_, sf_38 hF, g15.1, g15.2, by have := g15.2; omega⟩ rfl ?_
    refine s_aload_n 2 d_Arranger_isBetter_68 rfl rfl ?_
    refine s_getF (v := 38) d_Arranger_isBetter_69 fl_Arranger_27 rfl (sf_32 hF) (ff_24 hF) ?_
    refine s_iload_n 4 d_Arranger_isBetter_72 rfl rfl ?_
    obtain ⟨g16, h⟩ := h
    refine s_ialoadv (v := σ.1 38 x2) d_Arranger_isBetter_73 ⟨_, sf_38 hF, g16.1, g16.2, by have := g16.2; omega⟩ rfl ?_
    obtain ⟨g17, h⟩ := h
    obtain ⟨g18, h⟩ := h
    refine s_icmp_eq d_Arranger_isBetter_74 rfl g17 g18 (fun c => ?_) (fun c => ?_)
    · have h := h.1 c
      refine s_aload_n 2 d_Arranger_isBetter_98 rfl rfl ?_
      refine s_getF (v := 39) d_Arranger_isBetter_99 fl_Arranger_30 rfl (sf_32 hF) (ff_25 hF) ?_
      refine s_iload_n 3 d_Arranger_isBetter_102 rfl rfl ?_
      obtain ⟨g19, h⟩ := h
      refine s_laloadv (v := σ.1 39 x1) d_Arranger_isBetter_103 ⟨_, sf_39 hF, g19.1, g19.2, by have := g19.2; omega⟩ rfl ?_
      refine s_aload_n 2 d_Arranger_isBetter_104 rfl rfl ?_
      refine s_getF (v := 39) d_Arranger_isBetter_105 fl_Arranger_30 rfl (sf_32 hF) (ff_25 hF) ?_
      refine s_iload_n 4 d_Arranger_isBetter_108 rfl rfl ?_
      obtain ⟨g20, h⟩ := h
      refine s_laloadv (v := σ.1 39 x2) d_Arranger_isBetter_109 ⟨_, sf_39 hF, g20.1, g20.2, by have := g20.2; omega⟩ rfl ?_
      obtain ⟨g21, h⟩ := h
      obtain ⟨g22, h⟩ := h
      refine s_lcmp d_Arranger_isBetter_110 g21 g22 ?_
      refine s_if_ge d_Arranger_isBetter_111 rfl (lcmp_r _ _) (fun c => ?_) (fun c => ?_)
      · have h := h.1 (lcmp_ge.mp c)
        refine s_iconst d_Arranger_isBetter_118 ?_
        exact s_zreturn d_Arranger_isBetter_119 rfl (by decide) h
      · have h := h.2 (nlcmp_ge c)
        refine s_iconst d_Arranger_isBetter_114 ?_
        refine s_goto d_Arranger_isBetter_115 rfl ?_
        exact s_zreturn d_Arranger_isBetter_119 rfl (by decide) h
    · have h := h.2 c
      refine s_aload_n 2 d_Arranger_isBetter_77 rfl rfl ?_
      refine s_getF (v := 38) d_Arranger_isBetter_78 fl_Arranger_27 rfl (sf_32 hF) (ff_24 hF) ?_
      refine s_iload_n 3 d_Arranger_isBetter_81 rfl rfl ?_
      obtain ⟨g23, h⟩ := h
      refine s_ialoadv (v := σ.1 38 x1) d_Arranger_isBetter_82 ⟨_, sf_38 hF, g23.1, g23.2, by have := g23.2; omega⟩ rfl ?_
      refine s_aload_n 2 d_Arranger_isBetter_83 rfl rfl ?_
      refine s_getF (v := 38) d_Arranger_isBetter_84 fl_Arranger_27 rfl (sf_32 hF) (ff_24 hF) ?_
      refine s_iload_n 4 d_Arranger_isBetter_87 rfl rfl ?_
      obtain ⟨g24, h⟩ := h
      refine s_ialoadv (v := σ.1 38 x2) d_Arranger_isBetter_88 ⟨_, sf_38 hF, g24.1, g24.2, by have := g24.2; omega⟩ rfl ?_
      obtain ⟨g25, h⟩ := h
      obtain ⟨g26, h⟩ := h
      refine s_icmp_ge d_Arranger_isBetter_89 rfl g25 g26 (fun c => ?_) (fun c => ?_)
      · have h := h.1 c
        refine s_iconst d_Arranger_isBetter_96 ?_
        exact s_zreturn d_Arranger_isBetter_97 rfl (by decide) h
      · have h := h.2 c
        refine s_iconst d_Arranger_isBetter_92 ?_
        refine s_goto d_Arranger_isBetter_93 rfl ?_
        exact s_zreturn d_Arranger_isBetter_97 rfl (by decide) h
  · have h := h.2 c
    refine s_iload 1 d_Arranger_isBetter_49 rfl ?_
    refine s_iload 0 d_Arranger_isBetter_51 rfl ?_
    obtain ⟨g27, h⟩ := h
    obtain ⟨g28, h⟩ := h
    refine s_icmp_ge d_Arranger_isBetter_53 rfl g27 g28 (fun c => ?_) (fun c => ?_)
    · have h := h.1 c
      refine s_iconst d_Arranger_isBetter_60 ?_
      exact s_zreturn d_Arranger_isBetter_61 rfl (by decide) h
    · have h := h.2 c
      refine s_iconst d_Arranger_isBetter_56 ?_
      refine s_goto d_Arranger_isBetter_57 rfl ?_
      exact s_zreturn d_Arranger_isBetter_61 rfl (by decide) h
theorem e_Arranger_isBetter {E : EV} {d : Nat} {Q : Option AV → St → Prop} {σ : St} (x1 x2 x3 : Int) (hF : Fix σ) (h : (0 ≤ x1 ∧ x1 < 680) ∧ (0 ≤ x1 ∧ x1 < 680) ∧ (rI (σ.1 36 x1)) ∧ (rI (σ.1 37 x1)) ∧ (rI x3) ∧ (rI (max (σ.1 36 x1) (σ.1 37 x1))) ∧ (0 ≤ x2 ∧ x2 < 680) ∧ (0 ≤ x2 ∧ x2 < 680) ∧ (rI (σ.1 36 x2)) ∧ (rI (σ.1 37 x2)) ∧ (rI x3) ∧ (rI (max (σ.1 36 x2) (σ.1 37 x2))) ∧ (rI (max x3 (max (σ.1 36 x1) (σ.1 37 x1)))) ∧ (rI (max x3 (max (σ.1 36 x2) (σ.1 37 x2)))) ∧ (((max x3 (max (σ.1 36 x1) (σ.1 37 x1))) = (max x3 (max (σ.1 36 x2) (σ.1 37 x2))) → (0 ≤ x1 ∧ x1 < 680) ∧ (0 ≤ x2 ∧ x2 < 680) ∧ (rI (σ.1 38 x1)) ∧ (rI (σ.1 38 x2)) ∧ (((σ.1 38 x1) = (σ.1 38 x2) → (0 ≤ x1 ∧ x1 < 680) ∧ (0 ≤ x2 ∧ x2 < 680) ∧ (rL (σ.1 39 x1)) ∧ (rL (σ.1 39 x2)) ∧ (((σ.1 39 x2) ≤ (σ.1 39 x1) → Q (some (aI 0)) σ) ∧ (¬ (σ.1 39 x2) ≤ (σ.1 39 x1) → Q (some (aI 1)) σ))) ∧ (¬ (σ.1 38 x1) = (σ.1 38 x2) → (0 ≤ x1 ∧ x1 < 680) ∧ (0 ≤ x2 ∧ x2 < 680) ∧ (rI (σ.1 38 x1)) ∧ (rI (σ.1 38 x2)) ∧ (((σ.1 38 x2) ≤ (σ.1 38 x1) → Q (some (aI 0)) σ) ∧ (¬ (σ.1 38 x2) ≤ (σ.1 38 x1) → Q (some (aI 1)) σ))))) ∧ (¬ (max x3 (max (σ.1 36 x1) (σ.1 37 x1))) = (max x3 (max (σ.1 36 x2) (σ.1 37 x2))) → (rI (max x3 (max (σ.1 36 x1) (σ.1 37 x1)))) ∧ (rI (max x3 (max (σ.1 36 x2) (σ.1 37 x2)))) ∧ (((max x3 (max (σ.1 36 x2) (σ.1 37 x2))) ≤ (max x3 (max (σ.1 36 x1) (σ.1 37 x1))) → Q (some (aI 0)) σ) ∧ (¬ (max x3 (max (σ.1 36 x2) (σ.1 37 x2))) ≤ (max x3 (max (σ.1 36 x1) (σ.1 37 x1))) → Q (some (aI 1)) σ))))) : WM E m_Arranger_isBetter (d + 1) [aP 32, aI x1, aI x2, aI x3] σ Q := s_meth (by decide) (Nat.le_of_ble_eq_true rfl) rfl (b_Arranger_isBetter_0 x1 x2 x3 hF h)
theorem d_Arranger_write_0 : decode m_Arranger_write.2.1 0 = .ok (.aload_n 0, 1) := by decide +kernel
theorem d_Arranger_write_1 : decode m_Arranger_write.2.1 1 = .ok (.iload_n 1, 1) := by decide +kernel
theorem d_Arranger_write_2 : decode m_Arranger_write.2.1 2 = .ok (.invokevirtual 148, 3) := by decide +kernel
theorem d_Arranger_write_5 : decode m_Arranger_write.2.1 5 = .ok (.ifCond .eq 10, 3) := by decide +kernel
theorem d_Arranger_write_8 : decode m_Arranger_write.2.1 8 = .ok (.iload 4, 2) := by decide +kernel
theorem d_Arranger_write_10 : decode m_Arranger_write.2.1 10 = .ok (.bipush 6, 2) := by decide +kernel
theorem d_Arranger_write_12 : decode m_Arranger_write.2.1 12 = .ok (.if_icmp .le 4, 3) := by decide +kernel
theorem d_Arranger_write_15 : decode m_Arranger_write.2.1 15 = .ok (.return_, 1) := by decide +kernel
theorem d_Arranger_write_16 : decode m_Arranger_write.2.1 16 = .ok (.aload_n 0, 1) := by decide +kernel
theorem d_Arranger_write_17 : decode m_Arranger_write.2.1 17 = .ok (.getfield 11, 3) := by decide +kernel
theorem d_Arranger_write_20 : decode m_Arranger_write.2.1 20 = .ok (.iload_n 1, 1) := by decide +kernel
theorem d_Arranger_write_21 : decode m_Arranger_write.2.1 21 = .ok (.iaload, 1) := by decide +kernel
theorem d_Arranger_write_22 : decode m_Arranger_write.2.1 22 = .ok (.ifCond .ne 25, 3) := by decide +kernel
theorem d_Arranger_write_25 : decode m_Arranger_write.2.1 25 = .ok (.aload_n 3, 1) := by decide +kernel
theorem d_Arranger_write_26 : decode m_Arranger_write.2.1 26 = .ok (.aload_n 2, 1) := by decide +kernel
theorem d_Arranger_write_27 : decode m_Arranger_write.2.1 27 = .ok (.aload_n 0, 1) := by decide +kernel
theorem d_Arranger_write_28 : decode m_Arranger_write.2.1 28 = .ok (.getfield 15, 3) := by decide +kernel
theorem d_Arranger_write_31 : decode m_Arranger_write.2.1 31 = .ok (.iload_n 1, 1) := by decide +kernel
theorem d_Arranger_write_32 : decode m_Arranger_write.2.1 32 = .ok (.iaload, 1) := by decide +kernel
theorem d_Arranger_write_33 : decode m_Arranger_write.2.1 33 = .ok (.aload_n 2, 1) := by decide +kernel
theorem d_Arranger_write_34 : decode m_Arranger_write.2.1 34 = .ok (.aload_n 0, 1) := by decide +kernel
theorem d_Arranger_write_35 : decode m_Arranger_write.2.1 35 = .ok (.getfield 15, 3) := by decide +kernel
theorem d_Arranger_write_38 : decode m_Arranger_write.2.1 38 = .ok (.iload_n 1, 1) := by decide +kernel
theorem d_Arranger_write_39 : decode m_Arranger_write.2.1 39 = .ok (.iaload, 1) := by decide +kernel
theorem d_Arranger_write_40 : decode m_Arranger_write.2.1 40 = .ok (.invokevirtual 134, 3) := by decide +kernel
theorem d_Arranger_write_43 : decode m_Arranger_write.2.1 43 = .ok (.invokevirtual 176, 3) := by decide +kernel
theorem d_Arranger_write_46 : decode m_Arranger_write.2.1 46 = .ok (.return_, 1) := by decide +kernel
theorem d_Arranger_write_47 : decode m_Arranger_write.2.1 47 = .ok (.aload_n 3, 1) := by decide +kernel
theorem d_Arranger_write_48 : decode m_Arranger_write.2.1 48 = .ok (.aload_n 0, 1) := by decide +kernel
theorem d_Arranger_write_49 : decode m_Arranger_write.2.1 49 = .ok (.getfield 11, 3) := by decide +kernel
theorem d_Arranger_write_52 : decode m_Arranger_write.2.1 52 = .ok (.iload_n 1, 1) := by decide +kernel
theorem d_Arranger_write_53 : decode m_Arranger_write.2.1 53 = .ok (.iaload, 1) := by decide +kernel
theorem d_Arranger_write_54 : decode m_Arranger_write.2.1 54 = .ok (.invokevirtual 180, 3) := by decide +kernel
theorem d_Arranger_write_57 : decode m_Arranger_write.2.1 57 = .ok (.aload_n 0, 1) := by decide +kernel
theorem d_Arranger_write_58 : decode m_Arranger_write.2.1 58 = .ok (.aload_n 0, 1) := by decide +kernel
theorem d_Arranger_write_59 : decode m_Arranger_write.2.1 59 = .ok (.getfield 15, 3) := by decide +kernel
theorem d_Arranger_write_62 : decode m_Arranger_write.2.1 62 = .ok (.iload_n 1, 1) := by decide +kernel
theorem d_Arranger_write_63 : decode m_Arranger_write.2.1 63 = .ok (.iaload, 1) := by decide +kernel
theorem d_Arranger_write_64 : decode m_Arranger_write.2.1 64 = .ok (.aload_n 2, 1) := by decide +kernel
theorem d_Arranger_write_65 : decode m_Arranger_write.2.1 65 = .ok (.aload_n 3, 1) := by decide +kernel
theorem d_Arranger_write_66 : decode m_Arranger_write.2.1 66 = .ok (.iload 4, 2) := by decide +kernel
theorem d_Arranger_write_68 : decode m_Arranger_write.2.1 68 = .ok (.iconst 1, 1) := by decide +kernel
theorem d_Arranger_write_69 : decode m_Arranger_write.2.1 69 = .ok (.iadd, 1) := by decide +kernel
theorem d_Arranger_write_70 : decode m_Arranger_write.2.1 70 = .ok (.invokevirtual 88, 3) := by decide +kernel
theorem d_Arranger_write_73 : decode m_Arranger_write.2.1 73 = .ok (.aload_n 0, 1) := by decide +kernel
theorem d_Arranger_write_74 : decode m_Arranger_write.2.1 74 = .ok (.aload_n 0, 1) := by decide +kernel
theorem d_Arranger_write_75 : decode m_Arranger_write.2.1 75 = .ok (.getfield 18, 3) := by decide +kernel
theorem d_Arranger_write_78 : decode m_Arranger_write.2.1 78 = .ok (.iload_n 1, 1) := by decide +kernel
theorem d_Arranger_write_79 : decode m_Arranger_write.2.1 79 = .ok (.iaload, 1) := by decide +kernel
theorem d_Arranger_write_80 : decode m_Arranger_write.2.1 80 = .ok (.aload_n 2, 1) := by decide +kernel
theorem d_Arranger_write_81 : decode m_Arranger_write.2.1 81 = .ok (.aload_n 3, 1) := by decide +kernel
theorem d_Arranger_write_82 : decode m_Arranger_write.2.1 82 = .ok (.iload 4, 2) := by decide +kernel
theorem d_Arranger_write_84 : decode m_Arranger_write.2.1 84 = .ok (.iconst 1, 1) := by decide +kernel
theorem d_Arranger_write_85 : decode m_Arranger_write.2.1 85 = .ok (.iadd, 1) := by decide +kernel
theorem d_Arranger_write_86 : decode m_Arranger_write.2.1 86 = .ok (.invokevirtual 88, 3) := by decide +kernel
theorem d_Arranger_write_89 : decode m_Arranger_write.2.1 89 = .ok (.return_, 1) := by decide +kernel
theorem b_Arranger_write_0 {E : EV} {d : Nat} {Q : Option AV → St → Prop} {σ : St} (x1 x2 x3 x4 : Int) (hF : Fix σ) (h : (WMi E m_Arranger_isForm d [aP 32, aI x1] σ (fun v1 σ1 => Fix σ1 ∧ (rI v1) ∧ ((v1 = 0 → Q none σ1) ∧ (¬ v1 = 0 → (rI x4) ∧ ((x4 ≤ 6 → (0 ≤ x1 ∧ x1 < 680) ∧ (rI (σ1.1 33 x1)) ∧ ((¬ (σ1.1 33 x1) = 0 → (0 ≤ x1 ∧ x1 < 680) ∧ (sh σ1 x3 = some (1, 2)) ∧ (WMv E m_Draft_put d [aP x3, aI (σ1.1 33 x1)] σ1 (fun σ7 => Fix σ7 ∧ (0 ≤ x1 ∧ x1 < 680) ∧ (WMv E m_Arranger_write d [aP 32, aI (σ7.1 34 x1), aP x2, aP x3, aI (x4 + 1)] σ7 (fun σ10 => Fix σ10 ∧ (0 ≤ x1 ∧ x1 < 680) ∧ (WMv E m_Arranger_write d [aP 32, aI (σ10.1 35 x1), aP x2, aP x3, aI (x4 + 1)] σ10 (fun σ12 => Q none σ12))))))) ∧ ((σ1.1 33 x1) = 0 → (0 ≤ x1 ∧ x1 < 680) ∧ (0 ≤ x1 ∧ x1 < 680) ∧ (sh σ1 x2 = some (7, 1)) ∧ (WMi E m_Sq_endOf d [aP x2, aI (σ1.1 34 x1)] σ1 (fun v15 σ15 => (sh σ15 x3 = some (1, 2)) ∧ (WMv E m_Draft_putAll d [aP x3, aP x2, aI (σ1.1 34 x1), aI v15] σ15 (fun σ17 => Q none σ17))))))) ∧ (¬ x4 ≤ 6 → Q none σ1))))))) : WP E m_Arranger_write (d + 1) 0 [(0, aP 32), (1, aI x1), (2, aP x2), (3, aP x3), (4, aI x4)] [] σ Q := by
  refine s_aload_n 0 d_Arranger_write_0 rfl rfl ?_
  refine s_iload_n 1 d_Arranger_write_1 rfl rfl ?_
  refine s_callV (as := [aI x1]) (ci := 0) d_Arranger_write_2 ok_Arranger_isForm lk_Arranger_148 io_Arranger_isForm so_Arranger_isForm (by decide) rfl rfl rfl (Nat.le_of_ble_eq_true rfl) rfl (sf_32 hF) (WM.mono h ?_)
  rintro _ σ1 ⟨v1, rfl, hp, h⟩
  obtain ⟨hF1, h⟩ := h
  show WP E m_Arranger_write (d + 1) 5 [(0, aP 32), (1, aI x1), (2, aP x2), (3, aP x3), (4, aI x4)] [aI v1] σ1 Q
  obtain ⟨g2, h⟩ := h
  refine s_if_eq d_Arranger_write_5 rfl g2 (fun c => ?_) (fun c => ?_)
  · have h := h.1 c
    exact s_return d_Arranger_write_15 rfl h
  · have h := h.2 c
    refine s_iload 4 d_Arranger_write_8 rfl ?_
    refine s_bipush d_Arranger_write_10 (by decide) ?_
    obtain ⟨g3, h⟩ := h
    refine s_icmp_le d_Arranger_write_12 rfl g3 (by decide) (fun c => ?_) (fun c => ?_)
    · have h := h.1 c
      refine s_aload_n 0 d_Arranger_write_16 rfl rfl ?_
      refine s_getF (v := 33) d_Arranger_write_17 fl_Arranger_11 rfl (sf_32 hF1) (ff_19 hF1) ?_
      refine s_iload_n 1 d_Arranger_write_20 rfl rfl ?_
      obtain ⟨g4, h⟩ := h
      refine s_ialoadv (v := σ1.1 33 x1) d_Arranger_write_21 ⟨_, sf_33 hF1, g4.1, g4.2, by have := g4.2; omega⟩ rfl ?_
      obtain ⟨g5, h⟩ := h
      refine s_if_ne d_Arranger_write_22 rfl g5 (fun c => ?_) (fun c => ?_)
      · have h := h.1 c
        refine s_aload_n 3 d_Arranger_write_47 rfl rfl ?_
        refine s_aload_n 0 d_Arranger_write_48 rfl rfl ?_
        refine s_getF (v := 33) d_Arranger_write_49 fl_Arranger_11 rfl (sf_32 hF1) (ff_19 hF1) ?_
        refine s_iload_n 1 d_Arranger_write_52 rfl rfl ?_
        obtain ⟨g6, h⟩ := h
        refine s_ialoadv (v := σ1.1 33 x1) d_Arranger_write_53 ⟨_, sf_33 hF1, g6.1, g6.2, by have := g6.2; omega⟩ rfl ?_
        obtain ⟨g8, h⟩ := h
        refine s_callV (as := [aI (σ1.1 33 x1)]) (ci := 1) d_Arranger_write_54 ok_Draft_put lk_Arranger_180 io_Draft_put so_Draft_put (by decide) rfl rfl rfl (Nat.le_of_ble_eq_true rfl) rfl g8 (WM.mono h ?_)
        rintro _ σ7 ⟨rfl, hp, h⟩
        obtain ⟨hF8, h⟩ := h
        show WP E m_Arranger_write (d + 1) 57 [(0, aP 32), (1, aI x1), (2, aP x2), (3, aP x3), (4, aI x4)] [] σ7 Q
        refine s_aload_n 0 d_Arranger_write_57 rfl rfl ?_
        refine s_aload_n 0 d_Arranger_write_58 rfl rfl ?_
        refine s_getF (v := 34) d_Arranger_write_59 fl_Arranger_15 rfl (sf_32 hF8) (ff_20 hF8) ?_
        refine s_iload_n 1 d_Arranger_write_62 rfl rfl ?_
        obtain ⟨g9, h⟩ := h
        refine s_ialoadv (v := σ7.1 34 x1) d_Arranger_write_63 ⟨_, sf_34 hF8, g9.1, g9.2, by have := g9.2; omega⟩ rfl ?_
        refine s_aload_n 2 d_Arranger_write_64 rfl rfl ?_
        refine s_aload_n 3 d_Arranger_write_65 rfl rfl ?_
        refine s_iload 4 d_Arranger_write_66 rfl ?_
        refine s_iconst d_Arranger_write_68 ?_
        refine s_iadd d_Arranger_write_69 ?_
        refine s_callV (as := [aI (σ7.1 34 x1), aP x2, aP x3, aI (x4 + 1)]) (ci := 0) d_Arranger_write_70 ok_Arranger_write lk_Arranger_88 io_Arranger_write so_Arranger_write (by decide) rfl rfl rfl (Nat.le_of_ble_eq_true rfl) rfl (sf_32 hF8) (WM.mono h ?_)
        rintro _ σ10 ⟨rfl, hp, h⟩
        obtain ⟨hF10, h⟩ := h
        show WP E m_Arranger_write (d + 1) 73 [(0, aP 32), (1, aI x1), (2, aP x2), (3, aP x3), (4, aI x4)] [] σ10 Q
        refine s_aload_n 0 d_Arranger_write_73 rfl rfl ?_
        refine s_aload_n 0 d_Arranger_write_74 rfl rfl ?_
        refine s_getF (v := 35) d_Arranger_write_75 fl_Arranger_18 rfl (sf_32 hF10) (ff_21 hF10) ?_
        refine s_iload_n 1 d_Arranger_write_78 rfl rfl ?_
        obtain ⟨g11, h⟩ := h
        refine s_ialoadv (v := σ10.1 35 x1) d_Arranger_write_79 ⟨_, sf_35 hF10, g11.1, g11.2, by have := g11.2; omega⟩ rfl ?_
        refine s_aload_n 2 d_Arranger_write_80 rfl rfl ?_
        refine s_aload_n 3 d_Arranger_write_81 rfl rfl ?_
        refine s_iload 4 d_Arranger_write_82 rfl ?_
        refine s_iconst d_Arranger_write_84 ?_
        refine s_iadd d_Arranger_write_85 ?_
        refine s_callV (as := [aI (σ10.1 35 x1), aP x2, aP x3, aI (x4 + 1)]) (ci := 0) d_Arranger_write_86 ok_Arranger_write lk_Arranger_88 io_Arranger_write so_Arranger_write (by decide) rfl rfl rfl (Nat.le_of_ble_eq_true rfl) rfl (sf_32 hF10) (WM.mono h ?_)
        rintro _ σ12 ⟨rfl, hp, h⟩
        show WP E m_Arranger_write (d + 1) 89 [(0, aP 32), (1, aI x1), (2, aP x2), (3, aP x3), (4, aI x4)] [] σ12 Q
        exact s_return d_Arranger_write_89 rfl h
      · have h := h.2 c
        refine s_aload_n 3 d_Arranger_write_25 rfl rfl ?_
        refine s_aload_n 2 d_Arranger_write_26 rfl rfl ?_
        refine s_aload_n 0 d_Arranger_write_27 rfl rfl ?_
        refine s_getF (v := 34) d_Arranger_write_28 fl_Arranger_15 rfl (sf_32 hF1) (ff_20 hF1) ?_
        refine s_iload_n 1 d_Arranger_write_31 rfl rfl ?_
        obtain ⟨g13, h⟩ := h
        refine s_ialoadv (v := σ1.1 34 x1) d_Arranger_write_32 ⟨_, sf_34 hF1, g13.1, g13.2, by have := g13.2; omega⟩ rfl ?_
        refine s_aload_n 2 d_Arranger_write_33 rfl rfl ?_
        refine s_aload_n 0 d_Arranger_write_34 rfl rfl ?_
        refine s_getF (v := 34) d_Arranger_write_35 fl_Arranger_15 rfl (sf_32 hF1) (ff_20 hF1) ?_
        refine s_iload_n 1 d_Arranger_write_38 rfl rfl ?_
        obtain ⟨g14, h⟩ := h
        refine s_ialoadv (v := σ1.1 34 x1) d_Arranger_write_39 ⟨_, sf_34 hF1, g14.1, g14.2, by have := g14.2; omega⟩ rfl ?_
        obtain ⟨g16, h⟩ := h
        refine s_callV (as := [aI (σ1.1 34 x1)]) (ci := 7) d_Arranger_write_40 ok_Sq_endOf lk_Arranger_134 io_Sq_endOf so_Sq_endOf (by decide) rfl rfl rfl (Nat.le_of_ble_eq_true rfl) rfl g16 (WM.mono h ?_)
        rintro _ σ15 ⟨v15, rfl, hp, h⟩
        show WP E m_Arranger_write (d + 1) 43 [(0, aP 32), (1, aI x1), (2, aP x2), (3, aP x3), (4, aI x4)] [aI v15, aI (σ1.1 34 x1), aP x2, aP x3] σ15 Q
        obtain ⟨g18, h⟩ := h
        refine s_callV (as := [aP x2, aI (σ1.1 34 x1), aI v15]) (ci := 1) d_Arranger_write_43 ok_Draft_putAll lk_Arranger_176 io_Draft_putAll so_Draft_putAll (by decide) rfl rfl rfl (Nat.le_of_ble_eq_true rfl) rfl g18 (WM.mono h ?_)
        rintro _ σ17 ⟨rfl, hp, h⟩
        show WP E m_Arranger_write (d + 1) 46 [(0, aP 32), (1, aI x1), (2, aP x2), (3, aP x3), (4, aI x4)] [] σ17 Q
        exact s_return d_Arranger_write_46 rfl h
    · have h := h.2 c
      exact s_return d_Arranger_write_15 rfl h
theorem e_Arranger_write {E : EV} {d : Nat} {Q : Option AV → St → Prop} {σ : St} (x1 x2 x3 x4 : Int) (hF : Fix σ) (h : (WMi E m_Arranger_isForm d [aP 32, aI x1] σ (fun v1 σ1 => Fix σ1 ∧ (rI v1) ∧ ((v1 = 0 → Q none σ1) ∧ (¬ v1 = 0 → (rI x4) ∧ ((x4 ≤ 6 → (0 ≤ x1 ∧ x1 < 680) ∧ (rI (σ1.1 33 x1)) ∧ ((¬ (σ1.1 33 x1) = 0 → (0 ≤ x1 ∧ x1 < 680) ∧ (sh σ1 x3 = some (1, 2)) ∧ (WMv E m_Draft_put d [aP x3, aI (σ1.1 33 x1)] σ1 (fun σ7 => Fix σ7 ∧ (0 ≤ x1 ∧ x1 < 680) ∧ (WMv E m_Arranger_write d [aP 32, aI (σ7.1 34 x1), aP x2, aP x3, aI (x4 + 1)] σ7 (fun σ10 => Fix σ10 ∧ (0 ≤ x1 ∧ x1 < 680) ∧ (WMv E m_Arranger_write d [aP 32, aI (σ10.1 35 x1), aP x2, aP x3, aI (x4 + 1)] σ10 (fun σ12 => Q none σ12))))))) ∧ ((σ1.1 33 x1) = 0 → (0 ≤ x1 ∧ x1 < 680) ∧ (0 ≤ x1 ∧ x1 < 680) ∧ (sh σ1 x2 = some (7, 1)) ∧ (WMi E m_Sq_endOf d [aP x2, aI (σ1.1 34 x1)] σ1 (fun v15 σ15 => (sh σ15 x3 = some (1, 2)) ∧ (WMv E m_Draft_putAll d [aP x3, aP x2, aI (σ1.1 34 x1), aI v15] σ15 (fun σ17 => Q none σ17))))))) ∧ (¬ x4 ≤ 6 → Q none σ1))))))) : WM E m_Arranger_write (d + 1) [aP 32, aI x1, aP x2, aP x3, aI x4] σ Q := s_meth (by decide) (Nat.le_of_ble_eq_true rfl) rfl (b_Arranger_write_0 x1 x2 x3 x4 hF h)
