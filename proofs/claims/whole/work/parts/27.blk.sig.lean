theorem d_S_init_0 : decode m_S_init.2.1 0 = .ok (.aload_n 0, 1) := by decide +kernel
theorem d_S_init_1 : decode m_S_init.2.1 1 = .ok (.invokespecial 1, 3) := by decide +kernel
theorem d_S_init_4 : decode m_S_init.2.1 4 = .ok (.aload_n 0, 1) := by decide +kernel
theorem d_S_init_5 : decode m_S_init.2.1 5 = .ok (.new 7, 3) := by decide +kernel
theorem d_S_init_8 : decode m_S_init.2.1 8 = .ok (.dup, 1) := by decide +kernel
theorem d_S_init_9 : decode m_S_init.2.1 9 = .ok (.invokespecial 9, 3) := by decide +kernel
theorem d_S_init_12 : decode m_S_init.2.1 12 = .ok (.putfield 10, 3) := by decide +kernel
theorem d_S_init_15 : decode m_S_init.2.1 15 = .ok (.aload_n 0, 1) := by decide +kernel
theorem d_S_init_16 : decode m_S_init.2.1 16 = .ok (.new 16, 3) := by decide +kernel
theorem d_S_init_19 : decode m_S_init.2.1 19 = .ok (.dup, 1) := by decide +kernel
theorem d_S_init_20 : decode m_S_init.2.1 20 = .ok (.iconst 0, 1) := by decide +kernel
theorem d_S_init_21 : decode m_S_init.2.1 21 = .ok (.anewarray 18, 3) := by decide +kernel
theorem d_S_init_24 : decode m_S_init.2.1 24 = .ok (.bipush 12, 2) := by decide +kernel
theorem d_S_init_26 : decode m_S_init.2.1 26 = .ok (.iconst 1, 1) := by decide +kernel
theorem d_S_init_27 : decode m_S_init.2.1 27 = .ok (.invokespecial 20, 3) := by decide +kernel
theorem d_S_init_30 : decode m_S_init.2.1 30 = .ok (.putfield 23, 3) := by decide +kernel
theorem d_S_init_33 : decode m_S_init.2.1 33 = .ok (.aload_n 0, 1) := by decide +kernel
theorem d_S_init_34 : decode m_S_init.2.1 34 = .ok (.bipush 12, 2) := by decide +kernel
theorem d_S_init_36 : decode m_S_init.2.1 36 = .ok (.anewarray 16, 3) := by decide +kernel
theorem d_S_init_39 : decode m_S_init.2.1 39 = .ok (.putfield 27, 3) := by decide +kernel
theorem d_S_init_42 : decode m_S_init.2.1 42 = .ok (.aload_n 0, 1) := by decide +kernel
theorem d_S_init_43 : decode m_S_init.2.1 43 = .ok (.iconst 0, 1) := by decide +kernel
theorem d_S_init_44 : decode m_S_init.2.1 44 = .ok (.putfield 31, 3) := by decide +kernel
theorem d_S_init_47 : decode m_S_init.2.1 47 = .ok (.aload_n 0, 1) := by decide +kernel
theorem d_S_init_48 : decode m_S_init.2.1 48 = .ok (.new 35, 3) := by decide +kernel
theorem d_S_init_51 : decode m_S_init.2.1 51 = .ok (.dup, 1) := by decide +kernel
theorem d_S_init_52 : decode m_S_init.2.1 52 = .ok (.invokespecial 37, 3) := by decide +kernel
theorem d_S_init_55 : decode m_S_init.2.1 55 = .ok (.putfield 38, 3) := by decide +kernel
theorem d_S_init_58 : decode m_S_init.2.1 58 = .ok (.aload_n 0, 1) := by decide +kernel
theorem d_S_init_59 : decode m_S_init.2.1 59 = .ok (.new 42, 3) := by decide +kernel
theorem d_S_init_62 : decode m_S_init.2.1 62 = .ok (.dup, 1) := by decide +kernel
theorem d_S_init_63 : decode m_S_init.2.1 63 = .ok (.invokespecial 44, 3) := by decide +kernel
theorem d_S_init_66 : decode m_S_init.2.1 66 = .ok (.putfield 45, 3) := by decide +kernel
theorem d_S_init_69 : decode m_S_init.2.1 69 = .ok (.aload_n 0, 1) := by decide +kernel
theorem d_S_init_70 : decode m_S_init.2.1 70 = .ok (.new 49, 3) := by decide +kernel
theorem d_S_init_73 : decode m_S_init.2.1 73 = .ok (.dup, 1) := by decide +kernel
theorem d_S_init_74 : decode m_S_init.2.1 74 = .ok (.invokespecial 51, 3) := by decide +kernel
theorem d_S_init_77 : decode m_S_init.2.1 77 = .ok (.putfield 52, 3) := by decide +kernel
theorem d_S_init_80 : decode m_S_init.2.1 80 = .ok (.aload_n 0, 1) := by decide +kernel
theorem d_S_init_81 : decode m_S_init.2.1 81 = .ok (.new 56, 3) := by decide +kernel
theorem d_S_init_84 : decode m_S_init.2.1 84 = .ok (.dup, 1) := by decide +kernel
theorem d_S_init_85 : decode m_S_init.2.1 85 = .ok (.invokespecial 58, 3) := by decide +kernel
theorem d_S_init_88 : decode m_S_init.2.1 88 = .ok (.putfield 59, 3) := by decide +kernel
theorem d_S_init_91 : decode m_S_init.2.1 91 = .ok (.aload_n 0, 1) := by decide +kernel
theorem d_S_init_92 : decode m_S_init.2.1 92 = .ok (.new 63, 3) := by decide +kernel
theorem d_S_init_95 : decode m_S_init.2.1 95 = .ok (.dup, 1) := by decide +kernel
theorem d_S_init_96 : decode m_S_init.2.1 96 = .ok (.invokespecial 65, 3) := by decide +kernel
theorem d_S_init_99 : decode m_S_init.2.1 99 = .ok (.putfield 66, 3) := by decide +kernel
theorem d_S_init_102 : decode m_S_init.2.1 102 = .ok (.return_, 1) := by decide +kernel
theorem b_S_init_0 {E : EV} {d : Nat} {Q : Option AV → St → Prop} {σ : St} (hF : Fix σ) (h : (0 < (nx σ)) ∧ (WMv E m_Table_init d [aP (nx σ)] (al σ 8 4) (fun σ1 => Fix σ1 ∧ WP E m_S_init (d + 1) 15 [(0, aP 1)] [] (wr σ1 1 0 (nx σ)) Q))) : WP E m_S_init (d + 1) 0 [(0, aP 1)] [] σ Q := by
  refine s_aload_n 0 d_S_init_0 rfl rfl ?_
  refine s_objInit d_S_init_1 lo_S_1 lo_inst lo_code (by decide) (Nat.le_of_ble_eq_true rfl) ?_
  refine s_aload_n 0 d_S_init_4 rfl rfl ?_
  refine s_new (ci := 8) d_S_init_5 (by decide) rfl inG8 tyX8_ok (df_8 E) nw_S_7 in_8 ii_8 ?_
  refine s_dup d_S_init_8 (Nat.ne_of_beq_eq_false rfl) ?_
  obtain ⟨g2, h⟩ := h
  refine s_callI (as := []) d_S_init_9 ok_Table_init lk_S_9 io_Table_init rfl rfl rfl (Nat.le_of_ble_eq_true rfl) rfl g2 (WM.mono h ?_)
  rintro _ σ1 ⟨rfl, hp, h⟩
  obtain ⟨hF2, h⟩ := h
  show WP E m_S_init (d + 1) 12 [(0, aP 1)] [aP (nx σ), aP 1] σ1 Q
  refine s_putf 0 rfl d_S_init_12 fl_S_10 (fun C T h => by cases h; exact Or.inl rfl) rfl (Or.inr (Or.inr (Or.inr (Or.inl ⟨_, rfl⟩)))) (fun h => nomatch h) (sf_1 hF2) ?_
  exact h
theorem e_S_init {E : EV} {d : Nat} {Q : Option AV → St → Prop} {σ : St} (hF : Fix σ) (h : (0 < (nx σ)) ∧ (WMv E m_Table_init d [aP (nx σ)] (al σ 8 4) (fun σ1 => Fix σ1 ∧ WP E m_S_init (d + 1) 15 [(0, aP 1)] [] (wr σ1 1 0 (nx σ)) Q))) : WM E m_S_init (d + 1) [aP 1] σ Q := s_meth (by decide) (Nat.le_of_ble_eq_true rfl) rfl (b_S_init_0 hF h)
theorem b_S_init_15 {E : EV} {d : Nat} {Q : Option AV → St → Prop} {σ : St} (hF : Fix σ) (h : (0 < (nx σ)) ∧ (WMv E m_Moment_init d [aP (nx σ), aP (nx (al σ 4 3)), aI 12, aI 1] (al (al σ 4 3) 25 0) (fun σ1 => Fix σ1 ∧ WP E m_S_init (d + 1) 33 [(0, aP 1)] [] (wr σ1 1 1 (nx σ)) Q))) : WP E m_S_init (d + 1) 15 [(0, aP 1)] [] σ Q := by
  refine s_aload_n 0 d_S_init_15 rfl rfl ?_
  refine s_new (ci := 4) d_S_init_16 (by decide) rfl inG4 tyX4_ok (df_4 E) nw_S_16 in_4 ii_4 ?_
  refine s_dup d_S_init_19 (Nat.ne_of_beq_eq_false rfl) ?_
  refine s_iconst d_S_init_20 ?_
  refine s_anewarray (kd := 25) d_S_init_21 (by decide) rfl nw_S_18 (by decide) ?_
  refine s_bipush d_S_init_24 (by decide) ?_
  refine s_iconst d_S_init_26 ?_
  obtain ⟨g2, h⟩ := h
  refine s_callI (as := [aP (nx (al σ 4 3)), aI 12, aI 1]) d_S_init_27 ok_Moment_init lk_S_20 io_Moment_init rfl rfl rfl (Nat.le_of_ble_eq_true rfl) rfl g2 (WM.mono h ?_)
  rintro _ σ1 ⟨rfl, hp, h⟩
  obtain ⟨hF2, h⟩ := h
  show WP E m_S_init (d + 1) 30 [(0, aP 1)] [aP (nx σ), aP 1] σ1 Q
  refine s_putf 1 rfl d_S_init_30 fl_S_23 (fun C T h => by cases h; exact Or.inl rfl) rfl (Or.inr (Or.inr (Or.inr (Or.inl ⟨_, rfl⟩)))) (fun h => nomatch h) (sf_1 hF2) ?_
  exact h
theorem b_S_init_33 {E : EV} {d : Nat} {Q : Option AV → St → Prop} {σ : St} (hF : Fix σ) (h : WP E m_S_init (d + 1) 42 [(0, aP 1)] [] (wr (al σ 26 12) 1 2 (nx σ)) Q) : WP E m_S_init (d + 1) 33 [(0, aP 1)] [] σ Q := by
  refine s_aload_n 0 d_S_init_33 rfl rfl ?_
  refine s_bipush d_S_init_34 (by decide) ?_
  refine s_anewarray (kd := 26) d_S_init_36 (by decide) rfl nw_S_16 (by decide) ?_
  refine s_putf 2 rfl d_S_init_39 fl_S_27 (fun C T h => by cases h; exact Or.inr ⟨rfl, rfl, rfl, fk_S_27⟩) rfl (Or.inr (Or.inr (Or.inr (Or.inr ⟨_, rfl⟩)))) (fun h => nomatch h) (sf_1 hF.al_) ?_
  exact h
theorem b_S_init_42 {E : EV} {d : Nat} {Q : Option AV → St → Prop} {σ : St} (hF : Fix σ) (h : WP E m_S_init (d + 1) 47 [(0, aP 1)] [] (wr σ 1 3 0) Q) : WP E m_S_init (d + 1) 42 [(0, aP 1)] [] σ Q := by
  refine s_aload_n 0 d_S_init_42 rfl rfl ?_
  refine s_iconst d_S_init_43 ?_
  refine s_putf 3 rfl d_S_init_44 fl_S_31 (fun C T h => by cases h; exact Or.inl rfl) rfl (Or.inl rfl) (fun h => nomatch h) (sf_1 hF) ?_
  exact h
theorem b_S_init_47 {E : EV} {d : Nat} {Q : Option AV → St → Prop} {σ : St} (hF : Fix σ) (h : (0 < (nx σ)) ∧ (WMv E m_Draft_init d [aP (nx σ)] (al σ 1 2) (fun σ1 => Fix σ1 ∧ WP E m_S_init (d + 1) 58 [(0, aP 1)] [] (wr σ1 1 4 (nx σ)) Q))) : WP E m_S_init (d + 1) 47 [(0, aP 1)] [] σ Q := by
  refine s_aload_n 0 d_S_init_47 rfl rfl ?_
  refine s_new (ci := 1) d_S_init_48 (by decide) rfl inG1 tyX1_ok (df_1 E) nw_S_35 in_1 ii_1 ?_
  refine s_dup d_S_init_51 (Nat.ne_of_beq_eq_false rfl) ?_
  obtain ⟨g2, h⟩ := h
  refine s_callI (as := []) d_S_init_52 ok_Draft_init lk_S_37 io_Draft_init rfl rfl rfl (Nat.le_of_ble_eq_true rfl) rfl g2 (WM.mono h ?_)
  rintro _ σ1 ⟨rfl, hp, h⟩
  obtain ⟨hF2, h⟩ := h
  show WP E m_S_init (d + 1) 55 [(0, aP 1)] [aP (nx σ), aP 1] σ1 Q
  refine s_putf 4 rfl d_S_init_55 fl_S_38 (fun C T h => by cases h; exact Or.inr ⟨rfl, rfl, rfl, fk_S_38⟩) rfl (Or.inr (Or.inr (Or.inr (Or.inl ⟨_, rfl⟩)))) (fun h => nomatch h) (sf_1 hF2) ?_
  exact h
theorem b_S_init_58 {E : EV} {d : Nat} {Q : Option AV → St → Prop} {σ : St} (hF : Fix σ) (h : (0 < (nx σ)) ∧ (WMv E m_Reader_init d [aP (nx σ)] (al σ 5 12) (fun σ1 => Fix σ1 ∧ WP E m_S_init (d + 1) 69 [(0, aP 1)] [] (wr σ1 1 5 (nx σ)) Q))) : WP E m_S_init (d + 1) 58 [(0, aP 1)] [] σ Q := by
  refine s_aload_n 0 d_S_init_58 rfl rfl ?_
  refine s_new (ci := 5) d_S_init_59 (by decide) rfl inG5 tyX5_ok (df_5 E) nw_S_42 in_5 ii_5 ?_
  refine s_dup d_S_init_62 (Nat.ne_of_beq_eq_false rfl) ?_
  obtain ⟨g2, h⟩ := h
  refine s_callI (as := []) d_S_init_63 ok_Reader_init lk_S_44 io_Reader_init rfl rfl rfl (Nat.le_of_ble_eq_true rfl) rfl g2 (WM.mono h ?_)
  rintro _ σ1 ⟨rfl, hp, h⟩
  obtain ⟨hF2, h⟩ := h
  show WP E m_S_init (d + 1) 66 [(0, aP 1)] [aP (nx σ), aP 1] σ1 Q
  refine s_putf 5 rfl d_S_init_66 fl_S_45 (fun C T h => by cases h; exact Or.inr ⟨rfl, rfl, rfl, fk_S_45⟩) rfl (Or.inr (Or.inr (Or.inr (Or.inl ⟨_, rfl⟩)))) (fun h => nomatch h) (sf_1 hF2) ?_
  exact h
theorem b_S_init_69 {E : EV} {d : Nat} {Q : Option AV → St → Prop} {σ : St} (hF : Fix σ) (h : (0 < (nx σ)) ∧ (WMv E m_Layout_init d [aP (nx σ)] (al σ 2 8) (fun σ1 => Fix σ1 ∧ WP E m_S_init (d + 1) 80 [(0, aP 1)] [] (wr σ1 1 6 (nx σ)) Q))) : WP E m_S_init (d + 1) 69 [(0, aP 1)] [] σ Q := by
  refine s_aload_n 0 d_S_init_69 rfl rfl ?_
  refine s_new (ci := 2) d_S_init_70 (by decide) rfl inG2 tyX2_ok (df_2 E) nw_S_49 in_2 ii_2 ?_
  refine s_dup d_S_init_73 (Nat.ne_of_beq_eq_false rfl) ?_
  obtain ⟨g2, h⟩ := h
  refine s_callI (as := []) d_S_init_74 ok_Layout_init lk_S_51 io_Layout_init rfl rfl rfl (Nat.le_of_ble_eq_true rfl) rfl g2 (WM.mono h ?_)
  rintro _ σ1 ⟨rfl, hp, h⟩
  obtain ⟨hF2, h⟩ := h
  show WP E m_S_init (d + 1) 77 [(0, aP 1)] [aP (nx σ), aP 1] σ1 Q
  refine s_putf 6 rfl d_S_init_77 fl_S_52 (fun C T h => by cases h; exact Or.inr ⟨rfl, rfl, rfl, fk_S_52⟩) rfl (Or.inr (Or.inr (Or.inr (Or.inl ⟨_, rfl⟩)))) (fun h => nomatch h) (sf_1 hF2) ?_
  exact h
theorem b_S_init_80 {E : EV} {d : Nat} {Q : Option AV → St → Prop} {σ : St} (hF : Fix σ) (h : (0 < (nx σ)) ∧ (WMv E m_Speller_init d [aP (nx σ)] (al σ 6 9) (fun σ1 => Fix σ1 ∧ WP E m_S_init (d + 1) 91 [(0, aP 1)] [] (wr σ1 1 7 (nx σ)) Q))) : WP E m_S_init (d + 1) 80 [(0, aP 1)] [] σ Q := by
  refine s_aload_n 0 d_S_init_80 rfl rfl ?_
  refine s_new (ci := 6) d_S_init_81 (by decide) rfl inG6 tyX6_ok (df_6 E) nw_S_56 in_6 ii_6 ?_
  refine s_dup d_S_init_84 (Nat.ne_of_beq_eq_false rfl) ?_
  obtain ⟨g2, h⟩ := h
  refine s_callI (as := []) d_S_init_85 ok_Speller_init lk_S_58 io_Speller_init rfl rfl rfl (Nat.le_of_ble_eq_true rfl) rfl g2 (WM.mono h ?_)
  rintro _ σ1 ⟨rfl, hp, h⟩
  obtain ⟨hF2, h⟩ := h
  show WP E m_S_init (d + 1) 88 [(0, aP 1)] [aP (nx σ), aP 1] σ1 Q
  refine s_putf 7 rfl d_S_init_88 fl_S_59 (fun C T h => by cases h; exact Or.inr ⟨rfl, rfl, rfl, fk_S_59⟩) rfl (Or.inr (Or.inr (Or.inr (Or.inl ⟨_, rfl⟩)))) (fun h => nomatch h) (sf_1 hF2) ?_
  exact h
theorem b_S_init_91 {E : EV} {d : Nat} {Q : Option AV → St → Prop} {σ : St} (hF : Fix σ) (h : (0 < (nx σ)) ∧ (WMv E m_Arranger_init d [aP (nx σ)] (al σ 0 14) (fun σ1 => Fix σ1 ∧ WP E m_S_init (d + 1) 102 [] [] (wr σ1 1 8 (nx σ)) Q))) : WP E m_S_init (d + 1) 91 [(0, aP 1)] [] σ Q := by
  refine s_aload_n 0 d_S_init_91 rfl rfl ?_
  refine s_new (ci := 0) d_S_init_92 (by decide) rfl inG0 tyX0_ok (df_0 E) nw_S_63 in_0 ii_0 ?_
  refine s_dup d_S_init_95 (Nat.ne_of_beq_eq_false rfl) ?_
  obtain ⟨g2, h⟩ := h
  refine s_callI (as := []) d_S_init_96 ok_Arranger_init lk_S_65 io_Arranger_init rfl rfl rfl (Nat.le_of_ble_eq_true rfl) rfl g2 (WM.mono h ?_)
  rintro _ σ1 ⟨rfl, hp, h⟩
  obtain ⟨hF2, h⟩ := h
  show WP E m_S_init (d + 1) 99 [(0, aP 1)] [aP (nx σ), aP 1] σ1 Q
  refine s_putf 8 rfl d_S_init_99 fl_S_66 (fun C T h => by cases h; exact Or.inr ⟨rfl, rfl, rfl, fk_S_66⟩) rfl (Or.inr (Or.inr (Or.inr (Or.inl ⟨_, rfl⟩)))) (fun h => nomatch h) (sf_1 hF2) ?_
  refine wp_drop [] rfl ?_
  exact h
theorem b_S_init_102 {E : EV} {d : Nat} {Q : Option AV → St → Prop} {σ : St} (h : Q none σ) : WP E m_S_init (d + 1) 102 [] [] σ Q := by
  exact s_return d_S_init_102 rfl h
theorem d_S_feed_0 : decode m_S_feed.2.1 0 = .ok (.aload_n 0, 1) := by decide +kernel
theorem d_S_feed_1 : decode m_S_feed.2.1 1 = .ok (.getfield 45, 3) := by decide +kernel
theorem d_S_feed_4 : decode m_S_feed.2.1 4 = .ok (.getfield 70, 3) := by decide +kernel
theorem d_S_feed_7 : decode m_S_feed.2.1 7 = .ok (.bipush 20, 2) := by decide +kernel
theorem d_S_feed_9 : decode m_S_feed.2.1 9 = .ok (.iadd, 1) := by decide +kernel
theorem d_S_feed_10 : decode m_S_feed.2.1 10 = .ok (.sipush 400, 3) := by decide +kernel
theorem d_S_feed_13 : decode m_S_feed.2.1 13 = .ok (.if_icmp .le 5, 3) := by decide +kernel
theorem d_S_feed_16 : decode m_S_feed.2.1 16 = .ok (.iconst (-1), 1) := by decide +kernel
theorem d_S_feed_17 : decode m_S_feed.2.1 17 = .ok (.ireturn, 1) := by decide +kernel
theorem d_S_feed_18 : decode m_S_feed.2.1 18 = .ok (.aload_n 0, 1) := by decide +kernel
theorem d_S_feed_19 : decode m_S_feed.2.1 19 = .ok (.getfield 45, 3) := by decide +kernel
theorem d_S_feed_22 : decode m_S_feed.2.1 22 = .ok (.iload_n 1, 1) := by decide +kernel
theorem d_S_feed_23 : decode m_S_feed.2.1 23 = .ok (.invokevirtual 73, 3) := by decide +kernel
theorem d_S_feed_26 : decode m_S_feed.2.1 26 = .ok (.aload_n 0, 1) := by decide +kernel
theorem d_S_feed_27 : decode m_S_feed.2.1 27 = .ok (.getfield 45, 3) := by decide +kernel
theorem d_S_feed_30 : decode m_S_feed.2.1 30 = .ok (.iload_n 2, 1) := by decide +kernel
theorem d_S_feed_31 : decode m_S_feed.2.1 31 = .ok (.invokevirtual 73, 3) := by decide +kernel
theorem d_S_feed_34 : decode m_S_feed.2.1 34 = .ok (.aload_n 0, 1) := by decide +kernel
theorem d_S_feed_35 : decode m_S_feed.2.1 35 = .ok (.getfield 45, 3) := by decide +kernel
theorem d_S_feed_38 : decode m_S_feed.2.1 38 = .ok (.iload_n 3, 1) := by decide +kernel
theorem d_S_feed_39 : decode m_S_feed.2.1 39 = .ok (.invokevirtual 73, 3) := by decide +kernel
theorem d_S_feed_42 : decode m_S_feed.2.1 42 = .ok (.aload_n 0, 1) := by decide +kernel
theorem d_S_feed_43 : decode m_S_feed.2.1 43 = .ok (.getfield 45, 3) := by decide +kernel
theorem d_S_feed_46 : decode m_S_feed.2.1 46 = .ok (.iload 4, 2) := by decide +kernel
theorem d_S_feed_48 : decode m_S_feed.2.1 48 = .ok (.invokevirtual 73, 3) := by decide +kernel
theorem d_S_feed_51 : decode m_S_feed.2.1 51 = .ok (.aload_n 0, 1) := by decide +kernel
theorem d_S_feed_52 : decode m_S_feed.2.1 52 = .ok (.getfield 45, 3) := by decide +kernel
theorem d_S_feed_55 : decode m_S_feed.2.1 55 = .ok (.iload 5, 2) := by decide +kernel
theorem d_S_feed_57 : decode m_S_feed.2.1 57 = .ok (.invokevirtual 73, 3) := by decide +kernel
theorem d_S_feed_60 : decode m_S_feed.2.1 60 = .ok (.aload_n 0, 1) := by decide +kernel
theorem d_S_feed_61 : decode m_S_feed.2.1 61 = .ok (.getfield 45, 3) := by decide +kernel
theorem d_S_feed_64 : decode m_S_feed.2.1 64 = .ok (.getfield 70, 3) := by decide +kernel
theorem d_S_feed_67 : decode m_S_feed.2.1 67 = .ok (.ireturn, 1) := by decide +kernel
theorem b_S_feed_0 {E : EV} {d : Nat} {Q : Option AV → St → Prop} {σ : St} (x1 x2 x3 x4 x5 : Int) (hF : Fix σ) (h : (rI ((σ.1 12 1) + 20)) ∧ ((((σ.1 12 1) + 20) ≤ 400 → (WMv E m_Reader_takeFour d [aP 12, aI x1] σ (fun σ2 => Fix σ2 ∧ (WMv E m_Reader_takeFour d [aP 12, aI x2] σ2 (fun σ3 => Fix σ3 ∧ (WMv E m_Reader_takeFour d [aP 12, aI x3] σ3 (fun σ4 => Fix σ4 ∧ (WMv E m_Reader_takeFour d [aP 12, aI x4] σ4 (fun σ5 => Fix σ5 ∧ (WMv E m_Reader_takeFour d [aP 12, aI x5] σ5 (fun σ6 => Fix σ6 ∧ Q (some (aI (σ6.1 12 1))) σ6))))))))))) ∧ (¬ ((σ.1 12 1) + 20) ≤ 400 → Q (some (aI (-1))) σ))) : WP E m_S_feed (d + 1) 0 [(0, aP 1), (1, aI x1), (2, aI x2), (3, aI x3), (4, aI x4), (5, aI x5)] [] σ Q := by
  refine s_aload_n 0 d_S_feed_0 rfl rfl ?_
  refine s_getF (v := 12) d_S_feed_1 fl_S_45 rfl (sf_1 hF) (ff_2 hF) ?_
  refine s_getF (v := σ.1 12 1) d_S_feed_4 fl_S_70 rfl (sf_12 hF) rfl ?_
  refine s_bipush d_S_feed_7 (by decide) ?_
  refine s_iadd d_S_feed_9 ?_
  refine s_sipush d_S_feed_10 (by decide) ?_
  obtain ⟨g1, h⟩ := h
  refine s_icmp_le d_S_feed_13 rfl g1 (by decide) (fun c => ?_) (fun c => ?_)
  · have h := h.1 c
    refine s_aload_n 0 d_S_feed_18 rfl rfl ?_
    refine s_getF (v := 12) d_S_feed_19 fl_S_45 rfl (sf_1 hF) (ff_2 hF) ?_
    refine s_iload_n 1 d_S_feed_22 rfl rfl ?_
    refine s_callV (as := [aI x1]) (ci := 5) d_S_feed_23 ok_Reader_takeFour lk_S_73 io_Reader_takeFour so_Reader_takeFour (by decide) rfl rfl rfl (Nat.le_of_ble_eq_true rfl) rfl (sf_12 hF) (WM.mono h ?_)
    rintro _ σ2 ⟨rfl, hp, h⟩
    obtain ⟨hF2, h⟩ := h
    show WP E m_S_feed (d + 1) 26 [(0, aP 1), (1, aI x1), (2, aI x2), (3, aI x3), (4, aI x4), (5, aI x5)] [] σ2 Q
    refine s_aload_n 0 d_S_feed_26 rfl rfl ?_
    refine s_getF (v := 12) d_S_feed_27 fl_S_45 rfl (sf_1 hF2) (ff_2 hF2) ?_
    refine s_iload_n 2 d_S_feed_30 rfl rfl ?_
    refine s_callV (as := [aI x2]) (ci := 5) d_S_feed_31 ok_Reader_takeFour lk_S_73 io_Reader_takeFour so_Reader_takeFour (by decide) rfl rfl rfl (Nat.le_of_ble_eq_true rfl) rfl (sf_12 hF2) (WM.mono h ?_)
    rintro _ σ3 ⟨rfl, hp, h⟩
    obtain ⟨hF3, h⟩ := h
    show WP E m_S_feed (d + 1) 34 [(0, aP 1), (1, aI x1), (2, aI x2), (3, aI x3), (4, aI x4), (5, aI x5)] [] σ3 Q
    refine s_aload_n 0 d_S_feed_34 rfl rfl ?_
    refine s_getF (v := 12) d_S_feed_35 fl_S_45 rfl (sf_1 hF3) (ff_2 hF3) ?_
    refine s_iload_n 3 d_S_feed_38 rfl rfl ?_
    refine s_callV (as := [aI x3]) (ci := 5) d_S_feed_39 ok_Reader_takeFour lk_S_73 io_Reader_takeFour so_Reader_takeFour (by decide) rfl rfl rfl (Nat.le_of_ble_eq_true rfl) rfl (sf_12 hF3) (WM.mono h ?_)
    rintro _ σ4 ⟨rfl, hp, h⟩
    obtain ⟨hF4, h⟩ := h
    show WP E m_S_feed (d + 1) 42 [(0, aP 1), (1, aI x1), (2, aI x2), (3, aI x3), (4, aI x4), (5, aI x5)] [] σ4 Q
    refine s_aload_n 0 d_S_feed_42 rfl rfl ?_
    refine s_getF (v := 12) d_S_feed_43 fl_S_45 rfl (sf_1 hF4) (ff_2 hF4) ?_
    refine s_iload 4 d_S_feed_46 rfl ?_
    refine s_callV (as := [aI x4]) (ci := 5) d_S_feed_48 ok_Reader_takeFour lk_S_73 io_Reader_takeFour so_Reader_takeFour (by decide) rfl rfl rfl (Nat.le_of_ble_eq_true rfl) rfl (sf_12 hF4) (WM.mono h ?_)
    rintro _ σ5 ⟨rfl, hp, h⟩
    obtain ⟨hF5, h⟩ := h
    show WP E m_S_feed (d + 1) 51 [(0, aP 1), (1, aI x1), (2, aI x2), (3, aI x3), (4, aI x4), (5, aI x5)] [] σ5 Q
    refine s_aload_n 0 d_S_feed_51 rfl rfl ?_
    refine s_getF (v := 12) d_S_feed_52 fl_S_45 rfl (sf_1 hF5) (ff_2 hF5) ?_
    refine s_iload 5 d_S_feed_55 rfl ?_
    refine s_callV (as := [aI x5]) (ci := 5) d_S_feed_57 ok_Reader_takeFour lk_S_73 io_Reader_takeFour so_Reader_takeFour (by decide) rfl rfl rfl (Nat.le_of_ble_eq_true rfl) rfl (sf_12 hF5) (WM.mono h ?_)
    rintro _ σ6 ⟨rfl, hp, h⟩
    obtain ⟨hF6, h⟩ := h
    show WP E m_S_feed (d + 1) 60 [(0, aP 1), (1, aI x1), (2, aI x2), (3, aI x3), (4, aI x4), (5, aI x5)] [] σ6 Q
    refine s_aload_n 0 d_S_feed_60 rfl rfl ?_
    refine s_getF (v := 12) d_S_feed_61 fl_S_45 rfl (sf_1 hF6) (ff_2 hF6) ?_
    refine s_getF (v := σ6.1 12 1) d_S_feed_64 fl_S_70 rfl (sf_12 hF6) rfl ?_
    exact s_ireturn d_S_feed_67 rfl h
  · have h := h.2 c
    refine s_iconst d_S_feed_16 ?_
    exact s_ireturn d_S_feed_17 rfl h
theorem e_S_feed {E : EV} {d : Nat} {Q : Option AV → St → Prop} {σ : St} (x1 x2 x3 x4 x5 : Int) (hF : Fix σ) (h : (rI ((σ.1 12 1) + 20)) ∧ ((((σ.1 12 1) + 20) ≤ 400 → (WMv E m_Reader_takeFour d [aP 12, aI x1] σ (fun σ2 => Fix σ2 ∧ (WMv E m_Reader_takeFour d [aP 12, aI x2] σ2 (fun σ3 => Fix σ3 ∧ (WMv E m_Reader_takeFour d [aP 12, aI x3] σ3 (fun σ4 => Fix σ4 ∧ (WMv E m_Reader_takeFour d [aP 12, aI x4] σ4 (fun σ5 => Fix σ5 ∧ (WMv E m_Reader_takeFour d [aP 12, aI x5] σ5 (fun σ6 => Fix σ6 ∧ Q (some (aI (σ6.1 12 1))) σ6))))))))))) ∧ (¬ ((σ.1 12 1) + 20) ≤ 400 → Q (some (aI (-1))) σ))) : WM E m_S_feed (d + 1) [aP 1, aI x1, aI x2, aI x3, aI x4, aI x5] σ Q := s_meth (by decide) (Nat.le_of_ble_eq_true rfl) rfl (b_S_feed_0 x1 x2 x3 x4 x5 hF h)
theorem d_S_back_0 : decode m_S_back.2.1 0 = .ok (.iload_n 1, 1) := by decide +kernel
theorem d_S_back_1 : decode m_S_back.2.1 1 = .ok (.ifCond .lt 14, 3) := by decide +kernel
theorem d_S_back_4 : decode m_S_back.2.1 4 = .ok (.iload_n 1, 1) := by decide +kernel
theorem d_S_back_5 : decode m_S_back.2.1 5 = .ok (.aload_n 0, 1) := by decide +kernel
theorem d_S_back_6 : decode m_S_back.2.1 6 = .ok (.getfield 45, 3) := by decide +kernel
theorem d_S_back_9 : decode m_S_back.2.1 9 = .ok (.getfield 70, 3) := by decide +kernel
theorem d_S_back_12 : decode m_S_back.2.1 12 = .ok (.if_icmp .le 5, 3) := by decide +kernel
theorem d_S_back_15 : decode m_S_back.2.1 15 = .ok (.iconst (-1), 1) := by decide +kernel
theorem d_S_back_16 : decode m_S_back.2.1 16 = .ok (.ireturn, 1) := by decide +kernel
theorem d_S_back_17 : decode m_S_back.2.1 17 = .ok (.aload_n 0, 1) := by decide +kernel
theorem d_S_back_18 : decode m_S_back.2.1 18 = .ok (.getfield 45, 3) := by decide +kernel
theorem d_S_back_21 : decode m_S_back.2.1 21 = .ok (.dup, 1) := by decide +kernel
theorem d_S_back_22 : decode m_S_back.2.1 22 = .ok (.getfield 70, 3) := by decide +kernel
theorem d_S_back_25 : decode m_S_back.2.1 25 = .ok (.iload_n 1, 1) := by decide +kernel
theorem d_S_back_26 : decode m_S_back.2.1 26 = .ok (.isub, 1) := by decide +kernel
theorem d_S_back_27 : decode m_S_back.2.1 27 = .ok (.putfield 70, 3) := by decide +kernel
theorem d_S_back_30 : decode m_S_back.2.1 30 = .ok (.aload_n 0, 1) := by decide +kernel
theorem d_S_back_31 : decode m_S_back.2.1 31 = .ok (.getfield 45, 3) := by decide +kernel
theorem d_S_back_34 : decode m_S_back.2.1 34 = .ok (.getfield 70, 3) := by decide +kernel
theorem d_S_back_37 : decode m_S_back.2.1 37 = .ok (.ireturn, 1) := by decide +kernel
theorem b_S_back_0 {E : EV} {d : Nat} {Q : Option AV → St → Prop} {σ : St} (x1 : Int) (hF : Fix σ) (h : (rI x1) ∧ ((x1 < 0 → Q (some (aI (-1))) σ) ∧ (¬ x1 < 0 → (rI x1) ∧ (rI (σ.1 12 1)) ∧ ((x1 ≤ (σ.1 12 1) → Q (some (aI ((σ.1 12 1) - x1))) (wr σ 12 1 ((σ.1 12 1) - x1))) ∧ (¬ x1 ≤ (σ.1 12 1) → Q (some (aI (-1))) σ))))) : WP E m_S_back d 0 [(0, aP 1), (1, aI x1)] [] σ Q := by
  refine s_iload_n 1 d_S_back_0 rfl rfl ?_
  obtain ⟨g1, h⟩ := h
  refine s_if_lt d_S_back_1 rfl g1 (fun c => ?_) (fun c => ?_)
  · have h := h.1 c
    refine s_iconst d_S_back_15 ?_
    exact s_ireturn d_S_back_16 rfl h
  · have h := h.2 c
    refine s_iload_n 1 d_S_back_4 rfl rfl ?_
    refine s_aload_n 0 d_S_back_5 rfl rfl ?_
    refine s_getF (v := 12) d_S_back_6 fl_S_45 rfl (sf_1 hF) (ff_2 hF) ?_
    refine s_getF (v := σ.1 12 1) d_S_back_9 fl_S_70 rfl (sf_12 hF) rfl ?_
    obtain ⟨g2, h⟩ := h
    obtain ⟨g3, h⟩ := h
    refine s_icmp_le d_S_back_12 rfl g2 g3 (fun c => ?_) (fun c => ?_)
    · have h := h.1 c
      refine s_aload_n 0 d_S_back_17 rfl rfl ?_
      refine s_getF (v := 12) d_S_back_18 fl_S_45 rfl (sf_1 hF) (ff_2 hF) ?_
      refine s_dup d_S_back_21 (Nat.ne_of_beq_eq_false rfl) ?_
      refine s_getF (v := σ.1 12 1) d_S_back_22 fl_S_70 rfl (sf_12 hF) rfl ?_
      refine s_iload_n 1 d_S_back_25 rfl rfl ?_
      refine s_isub d_S_back_26 ?_
      refine s_putf 1 rfl d_S_back_27 fl_S_70 (fun C T h => by cases h; exact Or.inl rfl) rfl (Or.inl rfl) (fun h => nomatch h) (sf_12 hF) ?_
      refine s_aload_n 0 d_S_back_30 rfl rfl ?_
      refine s_getF (v := 12) d_S_back_31 fl_S_45 rfl (sf_1 (hF.wf (a := 12) (k := 1) (by decide))) (ff_2 (hF.wf (a := 12) (k := 1) (by decide))) ?_
      refine s_getF (v := (σ.1 12 1) - x1) d_S_back_34 fl_S_70 rfl (sf_12 (hF.wf (a := 12) (k := 1) (by decide))) rfl ?_
      exact s_ireturn d_S_back_37 rfl h
    · have h := h.2 c
      refine s_iconst d_S_back_15 ?_
      exact s_ireturn d_S_back_16 rfl h
theorem e_S_back {E : EV} {d : Nat} {Q : Option AV → St → Prop} {σ : St} (x1 : Int) (hF : Fix σ) (h : (rI x1) ∧ ((x1 < 0 → Q (some (aI (-1))) σ) ∧ (¬ x1 < 0 → (rI x1) ∧ (rI (σ.1 12 1)) ∧ ((x1 ≤ (σ.1 12 1) → Q (some (aI ((σ.1 12 1) - x1))) (wr σ 12 1 ((σ.1 12 1) - x1))) ∧ (¬ x1 ≤ (σ.1 12 1) → Q (some (aI (-1))) σ))))) : WM E m_S_back d [aP 1, aI x1] σ Q := s_meth (by decide) (Nat.le_of_ble_eq_true rfl) rfl (b_S_back_0 x1 hF h)
theorem d_S_text_0 : decode m_S_text.2.1 0 = .ok (.aload_n 0, 1) := by decide +kernel
theorem d_S_text_1 : decode m_S_text.2.1 1 = .ok (.getfield 45, 3) := by decide +kernel
theorem d_S_text_4 : decode m_S_text.2.1 4 = .ok (.invokevirtual 77, 3) := by decide +kernel
theorem d_S_text_7 : decode m_S_text.2.1 7 = .ok (.aload_n 0, 1) := by decide +kernel
theorem d_S_text_8 : decode m_S_text.2.1 8 = .ok (.getfield 45, 3) := by decide +kernel
theorem d_S_text_11 : decode m_S_text.2.1 11 = .ok (.invokevirtual 80, 3) := by decide +kernel
theorem d_S_text_14 : decode m_S_text.2.1 14 = .ok (.ifCond .ne 14, 3) := by decide +kernel
theorem d_S_text_17 : decode m_S_text.2.1 17 = .ok (.bipush (-4), 2) := by decide +kernel
theorem d_S_text_19 : decode m_S_text.2.1 19 = .ok (.aload_n 0, 1) := by decide +kernel
theorem d_S_text_20 : decode m_S_text.2.1 20 = .ok (.getfield 45, 3) := by decide +kernel
theorem d_S_text_23 : decode m_S_text.2.1 23 = .ok (.getfield 84, 3) := by decide +kernel
theorem d_S_text_26 : decode m_S_text.2.1 26 = .ok (.isub, 1) := by decide +kernel
theorem d_S_text_27 : decode m_S_text.2.1 27 = .ok (.ireturn, 1) := by decide +kernel
theorem d_S_text_28 : decode m_S_text.2.1 28 = .ok (.aload_n 0, 1) := by decide +kernel
theorem d_S_text_29 : decode m_S_text.2.1 29 = .ok (.aload_n 0, 1) := by decide +kernel
theorem d_S_text_30 : decode m_S_text.2.1 30 = .ok (.getfield 45, 3) := by decide +kernel
theorem d_S_text_33 : decode m_S_text.2.1 33 = .ok (.getfield 87, 3) := by decide +kernel
theorem d_S_text_36 : decode m_S_text.2.1 36 = .ok (.putfield 10, 3) := by decide +kernel
theorem d_S_text_39 : decode m_S_text.2.1 39 = .ok (.aload_n 0, 1) := by decide +kernel
theorem d_S_text_40 : decode m_S_text.2.1 40 = .ok (.aload_n 0, 1) := by decide +kernel
theorem d_S_text_41 : decode m_S_text.2.1 41 = .ok (.getfield 45, 3) := by decide +kernel
theorem d_S_text_44 : decode m_S_text.2.1 44 = .ok (.invokevirtual 88, 3) := by decide +kernel
theorem d_S_text_47 : decode m_S_text.2.1 47 = .ok (.putfield 23, 3) := by decide +kernel
theorem d_S_text_50 : decode m_S_text.2.1 50 = .ok (.aload_n 0, 1) := by decide +kernel
theorem d_S_text_51 : decode m_S_text.2.1 51 = .ok (.invokevirtual 92, 3) := by decide +kernel
theorem d_S_text_54 : decode m_S_text.2.1 54 = .ok (.aload_n 0, 1) := by decide +kernel
theorem d_S_text_55 : decode m_S_text.2.1 55 = .ok (.getfield 23, 3) := by decide +kernel
theorem d_S_text_58 : decode m_S_text.2.1 58 = .ok (.getfield 95, 3) := by decide +kernel
theorem d_S_text_61 : decode m_S_text.2.1 61 = .ok (.arraylength, 1) := by decide +kernel
theorem d_S_text_62 : decode m_S_text.2.1 62 = .ok (.ireturn, 1) := by decide +kernel
theorem b_S_text_0 {E : EV} {d : Nat} {Q : Option AV → St → Prop} {σ : St} (hF : Fix σ) (h : (WMv E m_Reader_begin d [aP 12] σ (fun σ1 => Fix σ1 ∧ (WMi E m_Reader_readAll d [aP 12] σ1 (fun v2 σ2 => Fix σ2 ∧ (rI v2) ∧ ((¬ v2 = 0 → (WMr E m_Reader_told d [aP 12] (wr σ2 1 0 (σ2.1 12 7)) (fun v4 σ4 => Fix σ4 ∧ (WMv E m_S_forgetActs d [aP 1] (wr σ4 1 1 v4) (fun σ5 => Fix σ5 ∧ (sh σ5 (σ5.1 1 1) = some (4, 3)) ∧ (sa σ5 (σ5.1 (σ5.1 1 1) 0) 25) ∧ Q (some (aI (ln σ5 (σ5.1 (σ5.1 1 1) 0)))) σ5))))) ∧ (v2 = 0 → Q (some (aI ((-4) - (σ2.1 12 6)))) σ2))))))) : WP E m_S_text (d + 1) 0 [(0, aP 1)] [] σ Q := by
  refine s_aload_n 0 d_S_text_0 rfl rfl ?_
  refine s_getF (v := 12) d_S_text_1 fl_S_45 rfl (sf_1 hF) (ff_2 hF) ?_
  refine s_callV (as := []) (ci := 5) d_S_text_4 ok_Reader_begin lk_S_77 io_Reader_begin so_Reader_begin (by decide) rfl rfl rfl (Nat.le_of_ble_eq_true rfl) rfl (sf_12 hF) (WM.mono h ?_)
  rintro _ σ1 ⟨rfl, hp, h⟩
  obtain ⟨hF1, h⟩ := h
  show WP E m_S_text (d + 1) 7 [(0, aP 1)] [] σ1 Q
  refine s_aload_n 0 d_S_text_7 rfl rfl ?_
  refine s_getF (v := 12) d_S_text_8 fl_S_45 rfl (sf_1 hF1) (ff_2 hF1) ?_
  refine s_callV (as := []) (ci := 5) d_S_text_11 ok_Reader_readAll lk_S_80 io_Reader_readAll so_Reader_readAll (by decide) rfl rfl rfl (Nat.le_of_ble_eq_true rfl) rfl (sf_12 hF1) (WM.mono h ?_)
  rintro _ σ2 ⟨v2, rfl, hp, h⟩
  obtain ⟨hF2, h⟩ := h
  show WP E m_S_text (d + 1) 14 [(0, aP 1)] [aI v2] σ2 Q
  obtain ⟨g3, h⟩ := h
  refine s_if_ne d_S_text_14 rfl g3 (fun c => ?_) (fun c => ?_)
  · have h := h.1 c
    refine s_aload_n 0 d_S_text_28 rfl rfl ?_
    refine s_aload_n 0 d_S_text_29 rfl rfl ?_
    refine s_getF (v := 12) d_S_text_30 fl_S_45 rfl (sf_1 hF2) (ff_2 hF2) ?_
    refine s_getF (v := σ2.1 12 7) d_S_text_33 fl_S_87 rfl (sf_12 hF2) rfl ?_
    refine s_putf 0 rfl d_S_text_36 fl_S_10 (fun C T h => by cases h; exact Or.inl rfl) rfl (Or.inr (Or.inr (Or.inr (Or.inl ⟨_, rfl⟩)))) (fun h => nomatch h) (sf_1 hF2) ?_
    refine s_aload_n 0 d_S_text_39 rfl rfl ?_
    refine s_aload_n 0 d_S_text_40 rfl rfl ?_
    refine s_getF (v := 12) d_S_text_41 fl_S_45 rfl (sf_1 (hF2.wf (a := 1) (k := 0) (by decide))) (ff_2 (hF2.wf (a := 1) (k := 0) (by decide))) ?_
    refine s_callV (as := []) (ci := 5) d_S_text_44 ok_Reader_told lk_S_88 io_Reader_told so_Reader_told (by decide) rfl rfl rfl (Nat.le_of_ble_eq_true rfl) rfl (sf_12 (hF2.wf (a := 1) (k := 0) (by decide))) (WM.mono h ?_)
    rintro _ σ4 ⟨v4, rfl, hp, h⟩
    obtain ⟨hF4, h⟩ := h
    show WP E m_S_text (d + 1) 47 [(0, aP 1)] [aP v4, aP 1] σ4 Q
    refine s_putf 1 rfl d_S_text_47 fl_S_23 (fun C T h => by cases h; exact Or.inl rfl) rfl (Or.inr (Or.inr (Or.inr (Or.inl ⟨_, rfl⟩)))) (fun h => nomatch h) (sf_1 hF4) ?_
    refine s_aload_n 0 d_S_text_50 rfl rfl ?_
    refine s_callV (as := []) (ci := 9) d_S_text_51 ok_S_forgetActs lk_S_92 io_S_forgetActs so_S_forgetActs (by decide) rfl rfl rfl (Nat.le_of_ble_eq_true rfl) rfl (sf_1 (hF4.wf (a := 1) (k := 1) (by decide))) (WM.mono h ?_)
    rintro _ σ5 ⟨rfl, hp, h⟩
    obtain ⟨hF5, h⟩ := h
    show WP E m_S_text (d + 1) 54 [(0, aP 1)] [] σ5 Q
    refine s_aload_n 0 d_S_text_54 rfl rfl ?_
    refine s_getF (v := σ5.1 1 1) d_S_text_55 fl_S_23 rfl (sf_1 hF5) rfl ?_
    obtain ⟨g6, h⟩ := h
    refine s_getF (v := σ5.1 (σ5.1 1 1) 0) d_S_text_58 fl_S_95 rfl g6 rfl ?_
    obtain ⟨g7, h⟩ := h
    refine s_alenS (by decide) d_S_text_61 g7 ?_
    exact s_ireturn d_S_text_62 rfl h
  · have h := h.2 c
    refine s_bipush d_S_text_17 (by decide) ?_
    refine s_aload_n 0 d_S_text_19 rfl rfl ?_
    refine s_getF (v := 12) d_S_text_20 fl_S_45 rfl (sf_1 hF2) (ff_2 hF2) ?_
    refine s_getF (v := σ2.1 12 6) d_S_text_23 fl_S_84 rfl (sf_12 hF2) rfl ?_
    refine s_isub d_S_text_26 ?_
    exact s_ireturn d_S_text_27 rfl h
theorem e_S_text {E : EV} {d : Nat} {Q : Option AV → St → Prop} {σ : St} (hF : Fix σ) (h : (WMv E m_Reader_begin d [aP 12] σ (fun σ1 => Fix σ1 ∧ (WMi E m_Reader_readAll d [aP 12] σ1 (fun v2 σ2 => Fix σ2 ∧ (rI v2) ∧ ((¬ v2 = 0 → (WMr E m_Reader_told d [aP 12] (wr σ2 1 0 (σ2.1 12 7)) (fun v4 σ4 => Fix σ4 ∧ (WMv E m_S_forgetActs d [aP 1] (wr σ4 1 1 v4) (fun σ5 => Fix σ5 ∧ (sh σ5 (σ5.1 1 1) = some (4, 3)) ∧ (sa σ5 (σ5.1 (σ5.1 1 1) 0) 25) ∧ Q (some (aI (ln σ5 (σ5.1 (σ5.1 1 1) 0)))) σ5))))) ∧ (v2 = 0 → Q (some (aI ((-4) - (σ2.1 12 6)))) σ2))))))) : WM E m_S_text (d + 1) [aP 1] σ Q := s_meth (by decide) (Nat.le_of_ble_eq_true rfl) rfl (b_S_text_0 hF h)
theorem d_S_isJoint_0 : decode m_S_isJoint.2.1 0 = .ok (.iload_n 0, 1) := by decide +kernel
theorem d_S_isJoint_1 : decode m_S_isJoint.2.1 1 = .ok (.bipush 64, 2) := by decide +kernel
theorem d_S_isJoint_3 : decode m_S_isJoint.2.1 3 = .ok (.if_icmp .eq 9, 3) := by decide +kernel
theorem d_S_isJoint_6 : decode m_S_isJoint.2.1 6 = .ok (.iload_n 0, 1) := by decide +kernel
theorem d_S_isJoint_7 : decode m_S_isJoint.2.1 7 = .ok (.bipush 65, 2) := by decide +kernel
theorem d_S_isJoint_9 : decode m_S_isJoint.2.1 9 = .ok (.if_icmp .ne 7, 3) := by decide +kernel
theorem d_S_isJoint_12 : decode m_S_isJoint.2.1 12 = .ok (.iconst 1, 1) := by decide +kernel
theorem d_S_isJoint_13 : decode m_S_isJoint.2.1 13 = .ok (.goto 4, 3) := by decide +kernel
theorem d_S_isJoint_16 : decode m_S_isJoint.2.1 16 = .ok (.iconst 0, 1) := by decide +kernel
theorem d_S_isJoint_17 : decode m_S_isJoint.2.1 17 = .ok (.ireturn, 1) := by decide +kernel
theorem b_S_isJoint_0 {E : EV} {d : Nat} {Q : Option AV → St → Prop} {σ : St} (x0 : Int) (h : (rI x0) ∧ ((x0 = 64 → Q (some (aI 1)) σ) ∧ (¬ x0 = 64 → (rI x0) ∧ ((¬ x0 = 65 → Q (some (aI 0)) σ) ∧ (x0 = 65 → Q (some (aI 1)) σ))))) : WP E m_S_isJoint d 0 [(0, aI x0)] [] σ Q := by
  refine s_iload_n 0 d_S_isJoint_0 rfl rfl ?_
  refine s_bipush d_S_isJoint_1 (by decide) ?_
  obtain ⟨g1, h⟩ := h
  refine s_icmp_eq d_S_isJoint_3 rfl g1 (by decide) (fun c => ?_) (fun c => ?_)
  · have h := h.1 c
    refine s_iconst d_S_isJoint_12 ?_
    refine s_goto d_S_isJoint_13 rfl ?_
    exact s_zreturn d_S_isJoint_17 rfl (by decide) h
  · have h := h.2 c
    refine s_iload_n 0 d_S_isJoint_6 rfl rfl ?_
    refine s_bipush d_S_isJoint_7 (by decide) ?_
    obtain ⟨g2, h⟩ := h
    refine s_icmp_ne d_S_isJoint_9 rfl g2 (by decide) (fun c => ?_) (fun c => ?_)
    · have h := h.1 c
      refine s_iconst d_S_isJoint_16 ?_
      exact s_zreturn d_S_isJoint_17 rfl (by decide) h
    · have h := h.2 c
      refine s_iconst d_S_isJoint_12 ?_
      refine s_goto d_S_isJoint_13 rfl ?_
      exact s_zreturn d_S_isJoint_17 rfl (by decide) h
theorem e_S_isJoint {E : EV} {d : Nat} {Q : Option AV → St → Prop} {σ : St} (x0 : Int) (h : (rI x0) ∧ ((x0 = 64 → Q (some (aI 1)) σ) ∧ (¬ x0 = 64 → (rI x0) ∧ ((¬ x0 = 65 → Q (some (aI 0)) σ) ∧ (x0 = 65 → Q (some (aI 1)) σ))))) : WM E m_S_isJoint d [aI x0] σ Q := s_meth (by decide) (Nat.le_of_ble_eq_true rfl) rfl (b_S_isJoint_0 x0 h)
theorem d_S_endOfPart_0 : decode m_S_endOfPart.2.1 0 = .ok (.iconst 1, 1) := by decide +kernel
theorem d_S_endOfPart_1 : decode m_S_endOfPart.2.1 1 = .ok (.istore_n 3, 1) := by decide +kernel
theorem d_S_endOfPart_2 : decode m_S_endOfPart.2.1 2 = .ok (.iconst 0, 1) := by decide +kernel
theorem d_S_endOfPart_3 : decode m_S_endOfPart.2.1 3 = .ok (.iload_n 2, 1) := by decide +kernel
theorem d_S_endOfPart_4 : decode m_S_endOfPart.2.1 4 = .ok (.invokestatic 399, 3) := by decide +kernel
theorem d_S_endOfPart_7 : decode m_S_endOfPart.2.1 7 = .ok (.istore 4, 2) := by decide +kernel
theorem d_S_endOfPart_9 : decode m_S_endOfPart.2.1 9 = .ok (.iload_n 3, 1) := by decide +kernel
theorem d_S_endOfPart_10 : decode m_S_endOfPart.2.1 10 = .ok (.ifCond .le 53, 3) := by decide +kernel
theorem d_S_endOfPart_13 : decode m_S_endOfPart.2.1 13 = .ok (.iload 4, 2) := by decide +kernel
theorem d_S_endOfPart_15 : decode m_S_endOfPart.2.1 15 = .ok (.iload_n 1, 1) := by decide +kernel
theorem d_S_endOfPart_16 : decode m_S_endOfPart.2.1 16 = .ok (.if_icmp .ge 47, 3) := by decide +kernel
theorem d_S_endOfPart_19 : decode m_S_endOfPart.2.1 19 = .ok (.iload 4, 2) := by decide +kernel
theorem d_S_endOfPart_21 : decode m_S_endOfPart.2.1 21 = .ok (.aload_n 0, 1) := by decide +kernel
theorem d_S_endOfPart_22 : decode m_S_endOfPart.2.1 22 = .ok (.arraylength, 1) := by decide +kernel
theorem d_S_endOfPart_23 : decode m_S_endOfPart.2.1 23 = .ok (.if_icmp .ge 40, 3) := by decide +kernel
theorem d_S_endOfPart_26 : decode m_S_endOfPart.2.1 26 = .ok (.aload_n 0, 1) := by decide +kernel
theorem d_S_endOfPart_27 : decode m_S_endOfPart.2.1 27 = .ok (.iload 4, 2) := by decide +kernel
theorem d_S_endOfPart_29 : decode m_S_endOfPart.2.1 29 = .ok (.baload, 1) := by decide +kernel
theorem d_S_endOfPart_30 : decode m_S_endOfPart.2.1 30 = .ok (.istore 5, 2) := by decide +kernel
theorem d_S_endOfPart_32 : decode m_S_endOfPart.2.1 32 = .ok (.iload 5, 2) := by decide +kernel
theorem d_S_endOfPart_34 : decode m_S_endOfPart.2.1 34 = .ok (.invokestatic 141, 3) := by decide +kernel
theorem d_S_endOfPart_37 : decode m_S_endOfPart.2.1 37 = .ok (.ifCond .eq 9, 3) := by decide +kernel
theorem d_S_endOfPart_40 : decode m_S_endOfPart.2.1 40 = .ok (.iinc 3 1, 3) := by decide +kernel
theorem d_S_endOfPart_43 : decode m_S_endOfPart.2.1 43 = .ok (.goto 14, 3) := by decide +kernel
theorem d_S_endOfPart_46 : decode m_S_endOfPart.2.1 46 = .ok (.iload 5, 2) := by decide +kernel
theorem d_S_endOfPart_48 : decode m_S_endOfPart.2.1 48 = .ok (.invokestatic 119, 3) := by decide +kernel
theorem d_S_endOfPart_51 : decode m_S_endOfPart.2.1 51 = .ok (.ifCond .ne 6, 3) := by decide +kernel
theorem d_S_endOfPart_54 : decode m_S_endOfPart.2.1 54 = .ok (.iinc 3 (-1), 3) := by decide +kernel
theorem d_S_endOfPart_57 : decode m_S_endOfPart.2.1 57 = .ok (.iinc 4 1, 3) := by decide +kernel
theorem d_S_endOfPart_60 : decode m_S_endOfPart.2.1 60 = .ok (.goto (-51), 3) := by decide +kernel
theorem d_S_endOfPart_63 : decode m_S_endOfPart.2.1 63 = .ok (.iload 4, 2) := by decide +kernel
theorem d_S_endOfPart_65 : decode m_S_endOfPart.2.1 65 = .ok (.ireturn, 1) := by decide +kernel
theorem b_S_endOfPart_0 {E : EV} {d : Nat} {Q : Option AV → St → Prop} {σ : St} (x0 x1 x2 : Int) (h : (rI x2) ∧ WP E m_S_endOfPart (d + 1) 9 [(0, aP x0), (1, aI x1), (3, aI 1), (4, aI (max 0 x2))] [] σ Q) : WP E m_S_endOfPart (d + 1) 0 [(0, aP x0), (1, aI x1), (2, aI x2)] [] σ Q := by
  refine s_iconst d_S_endOfPart_0 ?_
  refine s_istore_n d_S_endOfPart_1 rfl (by decide) rfl ?_
  refine s_iconst d_S_endOfPart_2 ?_
  refine s_iload_n 3 d_S_endOfPart_3 rfl rfl ?_
  obtain ⟨g1, h⟩ := h
  refine s_mmax d_S_endOfPart_4 lm_S_399 lm_max_s lm_i lm_max_c (Nat.le_of_ble_eq_true rfl) (by decide) g1 ?_
  refine s_istore d_S_endOfPart_7 (by decide) rfl ?_
  refine wp_drop [2, 3, 1, 0] rfl ?_
  exact h
theorem e_S_endOfPart {E : EV} {d : Nat} {Q : Option AV → St → Prop} {σ : St} (x0 x1 x2 : Int) (h : (rI x2) ∧ WP E m_S_endOfPart (d + 1) 9 [(0, aP x0), (1, aI x1), (3, aI 1), (4, aI (max 0 x2))] [] σ Q) : WM E m_S_endOfPart (d + 1) [aP x0, aI x1, aI x2] σ Q := s_meth (by decide) (Nat.le_of_ble_eq_true rfl) rfl (b_S_endOfPart_0 x0 x1 x2 h)
theorem b_S_endOfPart_9 {E : EV} {d : Nat} {Q : Option AV → St → Prop} {σ : St} (x0 x1 x3 x4 : Int) (h : (rI x3) ∧ ((x3 ≤ 0 → Q (some (aI x4)) σ) ∧ (¬ x3 ≤ 0 → (rI x4) ∧ (rI x1) ∧ ((x1 ≤ x4 → Q (some (aI x4)) σ) ∧ (¬ x1 ≤ x4 → (sa σ x0 21) ∧ (rI x4) ∧ (rI (ln σ x0)) ∧ (((ln σ x0) ≤ x4 → Q (some (aI x4)) σ) ∧ (¬ (ln σ x0) ≤ x4 → (inb σ x0 21 x4) ∧ (WMi E m_S_isJoint d [aI (σ.1 x0 x4)] σ (fun v8 σ8 => (rI v8) ∧ ((v8 = 0 → (WMi E m_S_holds d [aI (σ.1 x0 x4)] σ8 (fun v10 σ10 => (rI v10) ∧ ((¬ v10 = 0 → WP E m_S_endOfPart (d + 1) 57 [(0, aP x0), (1, aI x1), (3, aI x3), (4, aI x4)] [] σ10 Q) ∧ (v10 = 0 → WP E m_S_endOfPart (d + 1) 57 [(0, aP x0), (1, aI x1), (3, aI (x3 + (-1))), (4, aI x4)] [] σ10 Q))))) ∧ (¬ v8 = 0 → WP E m_S_endOfPart (d + 1) 57 [(0, aP x0), (1, aI x1), (3, aI (x3 + 1)), (4, aI x4)] [] σ8 Q))))))))))) : WP E m_S_endOfPart (d + 1) 9 [(0, aP x0), (1, aI x1), (3, aI x3), (4, aI x4)] [] σ Q := by
  refine s_iload_n 2 d_S_endOfPart_9 rfl rfl ?_
  obtain ⟨g1, h⟩ := h
  refine s_if_le d_S_endOfPart_10 rfl g1 (fun c => ?_) (fun c => ?_)
  · have h := h.1 c
    refine s_iload 3 d_S_endOfPart_63 rfl ?_
    exact s_ireturn d_S_endOfPart_65 rfl h
  · have h := h.2 c
    refine s_iload 3 d_S_endOfPart_13 rfl ?_
    refine s_iload_n 1 d_S_endOfPart_15 rfl rfl ?_
    obtain ⟨g2, h⟩ := h
    obtain ⟨g3, h⟩ := h
    refine s_icmp_ge d_S_endOfPart_16 rfl g2 g3 (fun c => ?_) (fun c => ?_)
    · have h := h.1 c
      refine s_iload 3 d_S_endOfPart_63 rfl ?_
      exact s_ireturn d_S_endOfPart_65 rfl h
    · have h := h.2 c
      refine s_iload 3 d_S_endOfPart_19 rfl ?_
      refine s_aload_n 0 d_S_endOfPart_21 rfl rfl ?_
      obtain ⟨g4, h⟩ := h
      refine s_alenS (by decide) d_S_endOfPart_22 g4 ?_
      obtain ⟨g5, h⟩ := h
      obtain ⟨g6, h⟩ := h
      refine s_icmp_ge d_S_endOfPart_23 rfl g5 g6 (fun c => ?_) (fun c => ?_)
      · have h := h.1 c
        refine s_iload 3 d_S_endOfPart_63 rfl ?_
        exact s_ireturn d_S_endOfPart_65 rfl h
      · have h := h.2 c
        refine s_aload_n 0 d_S_endOfPart_26 rfl rfl ?_
        refine s_iload 3 d_S_endOfPart_27 rfl ?_
        obtain ⟨g7, h⟩ := h
        refine s_baloadv (v := σ.1 x0 x4) (by decide) d_S_endOfPart_29 g7 rfl ?_
        refine s_istore d_S_endOfPart_30 (by decide) rfl ?_
        refine s_iload 0 d_S_endOfPart_32 rfl ?_
        refine s_callS (as := [aI (σ.1 x0 x4)]) d_S_endOfPart_34 ok_S_isJoint lk_S_141 to_S_isJoint rfl (Nat.le_of_ble_eq_true rfl) rfl (WM.mono h ?_)
        rintro _ σ8 ⟨v8, rfl, hp, h⟩
        show WP E m_S_endOfPart (d + 1) 37 [(5, aI (σ.1 x0 x4)), (0, aP x0), (1, aI x1), (3, aI x3), (4, aI x4)] [aI v8] σ8 Q
        obtain ⟨g9, h⟩ := h
        refine s_if_eq d_S_endOfPart_37 rfl g9 (fun c => ?_) (fun c => ?_)
        · have h := h.1 c
          refine s_iload 0 d_S_endOfPart_46 rfl ?_
          refine s_callS (as := [aI (σ.1 x0 x4)]) d_S_endOfPart_48 ok_S_holds lk_S_119 to_S_holds rfl (Nat.le_of_ble_eq_true rfl) rfl (WM.mono h ?_)
          rintro _ σ10 ⟨v10, rfl, hp, h⟩
          show WP E m_S_endOfPart (d + 1) 51 [(5, aI (σ.1 x0 x4)), (0, aP x0), (1, aI x1), (3, aI x3), (4, aI x4)] [aI v10] σ10 Q
          obtain ⟨g11, h⟩ := h
          refine s_if_ne d_S_endOfPart_51 rfl g11 (fun c => ?_) (fun c => ?_)
          · have h := h.1 c
            refine wp_drop [1, 2, 3, 4] rfl ?_
            exact h
          · have h := h.2 c
            refine s_iinc 3 d_S_endOfPart_54 rfl (by decide) rfl ?_
            refine wp_drop [2, 3, 0, 4] rfl ?_
            exact h
        · have h := h.2 c
          refine s_iinc 3 d_S_endOfPart_40 rfl (by decide) rfl ?_
          refine s_goto d_S_endOfPart_43 rfl ?_
          refine wp_drop [2, 3, 0, 4] rfl ?_
          exact h
theorem b_S_endOfPart_57 {E : EV} {d : Nat} {Q : Option AV → St → Prop} {σ : St} (x0 x1 x3 x4 : Int) (h : WP E m_S_endOfPart (d + 1) 9 [(0, aP x0), (1, aI x1), (3, aI x3), (4, aI (x4 + 1))] [] σ Q) : WP E m_S_endOfPart (d + 1) 57 [(0, aP x0), (1, aI x1), (3, aI x3), (4, aI x4)] [] σ Q := by
  refine s_iinc 3 d_S_endOfPart_57 rfl (by decide) rfl ?_
  refine s_goto d_S_endOfPart_60 rfl ?_
  refine wp_drop [1, 2, 3, 0] rfl ?_
  exact h
theorem d_S_holds_0 : decode m_S_holds.2.1 0 = .ok (.iload_n 0, 1) := by decide +kernel
theorem d_S_holds_1 : decode m_S_holds.2.1 1 = .ok (.bipush 32, 2) := by decide +kernel
theorem d_S_holds_3 : decode m_S_holds.2.1 3 = .ok (.if_icmp .lt 13, 3) := by decide +kernel
theorem d_S_holds_6 : decode m_S_holds.2.1 6 = .ok (.iload_n 0, 1) := by decide +kernel
theorem d_S_holds_7 : decode m_S_holds.2.1 7 = .ok (.bipush 58, 2) := by decide +kernel
theorem d_S_holds_9 : decode m_S_holds.2.1 9 = .ok (.if_icmp .ge 7, 3) := by decide +kernel
theorem d_S_holds_12 : decode m_S_holds.2.1 12 = .ok (.iconst 1, 1) := by decide +kernel
theorem d_S_holds_13 : decode m_S_holds.2.1 13 = .ok (.goto 4, 3) := by decide +kernel
theorem d_S_holds_16 : decode m_S_holds.2.1 16 = .ok (.iconst 0, 1) := by decide +kernel
theorem d_S_holds_17 : decode m_S_holds.2.1 17 = .ok (.ireturn, 1) := by decide +kernel
theorem b_S_holds_0 {E : EV} {d : Nat} {Q : Option AV → St → Prop} {σ : St} (x0 : Int) (h : (rI x0) ∧ ((x0 < 32 → Q (some (aI 0)) σ) ∧ (¬ x0 < 32 → (rI x0) ∧ ((58 ≤ x0 → Q (some (aI 0)) σ) ∧ (¬ 58 ≤ x0 → Q (some (aI 1)) σ))))) : WP E m_S_holds d 0 [(0, aI x0)] [] σ Q := by
  refine s_iload_n 0 d_S_holds_0 rfl rfl ?_
  refine s_bipush d_S_holds_1 (by decide) ?_
  obtain ⟨g1, h⟩ := h
  refine s_icmp_lt d_S_holds_3 rfl g1 (by decide) (fun c => ?_) (fun c => ?_)
  · have h := h.1 c
    refine s_iconst d_S_holds_16 ?_
    exact s_zreturn d_S_holds_17 rfl (by decide) h
  · have h := h.2 c
    refine s_iload_n 0 d_S_holds_6 rfl rfl ?_
    refine s_bipush d_S_holds_7 (by decide) ?_
    obtain ⟨g2, h⟩ := h
    refine s_icmp_ge d_S_holds_9 rfl g2 (by decide) (fun c => ?_) (fun c => ?_)
    · have h := h.1 c
      refine s_iconst d_S_holds_16 ?_
      exact s_zreturn d_S_holds_17 rfl (by decide) h
    · have h := h.2 c
      refine s_iconst d_S_holds_12 ?_
      refine s_goto d_S_holds_13 rfl ?_
      exact s_zreturn d_S_holds_17 rfl (by decide) h
theorem e_S_holds {E : EV} {d : Nat} {Q : Option AV → St → Prop} {σ : St} (x0 : Int) (h : (rI x0) ∧ ((x0 < 32 → Q (some (aI 0)) σ) ∧ (¬ x0 < 32 → (rI x0) ∧ ((58 ≤ x0 → Q (some (aI 0)) σ) ∧ (¬ 58 ≤ x0 → Q (some (aI 1)) σ))))) : WM E m_S_holds d [aI x0] σ Q := s_meth (by decide) (Nat.le_of_ble_eq_true rfl) rfl (b_S_holds_0 x0 h)
theorem d_S_forgetActs_0 : decode m_S_forgetActs.2.1 0 = .ok (.iconst 0, 1) := by decide +kernel
theorem d_S_forgetActs_1 : decode m_S_forgetActs.2.1 1 = .ok (.istore_n 1, 1) := by decide +kernel
theorem d_S_forgetActs_2 : decode m_S_forgetActs.2.1 2 = .ok (.iload_n 1, 1) := by decide +kernel
theorem d_S_forgetActs_3 : decode m_S_forgetActs.2.1 3 = .ok (.bipush 12, 2) := by decide +kernel
theorem d_S_forgetActs_5 : decode m_S_forgetActs.2.1 5 = .ok (.if_icmp .ge 16, 3) := by decide +kernel
theorem d_S_forgetActs_8 : decode m_S_forgetActs.2.1 8 = .ok (.aload_n 0, 1) := by decide +kernel
theorem d_S_forgetActs_9 : decode m_S_forgetActs.2.1 9 = .ok (.getfield 27, 3) := by decide +kernel
theorem d_S_forgetActs_12 : decode m_S_forgetActs.2.1 12 = .ok (.iload_n 1, 1) := by decide +kernel
theorem d_S_forgetActs_13 : decode m_S_forgetActs.2.1 13 = .ok (.aconst_null, 1) := by decide +kernel
theorem d_S_forgetActs_14 : decode m_S_forgetActs.2.1 14 = .ok (.aastore, 1) := by decide +kernel
theorem d_S_forgetActs_15 : decode m_S_forgetActs.2.1 15 = .ok (.iinc 1 1, 3) := by decide +kernel
theorem d_S_forgetActs_18 : decode m_S_forgetActs.2.1 18 = .ok (.goto (-16), 3) := by decide +kernel
theorem d_S_forgetActs_21 : decode m_S_forgetActs.2.1 21 = .ok (.aload_n 0, 1) := by decide +kernel
theorem d_S_forgetActs_22 : decode m_S_forgetActs.2.1 22 = .ok (.iconst 0, 1) := by decide +kernel
theorem d_S_forgetActs_23 : decode m_S_forgetActs.2.1 23 = .ok (.putfield 31, 3) := by decide +kernel
theorem d_S_forgetActs_26 : decode m_S_forgetActs.2.1 26 = .ok (.return_, 1) := by decide +kernel
theorem b_S_forgetActs_0 {E : EV} {d : Nat} {Q : Option AV → St → Prop} {σ : St} (h : WP E m_S_forgetActs d 2 [(0, aP 1), (1, aI 0)] [] σ Q) : WP E m_S_forgetActs d 0 [(0, aP 1)] [] σ Q := by
  refine s_iconst d_S_forgetActs_0 ?_
  refine s_istore_n d_S_forgetActs_1 rfl (by decide) rfl ?_
  refine wp_drop [1, 0] rfl ?_
  exact h
theorem e_S_forgetActs {E : EV} {d : Nat} {Q : Option AV → St → Prop} {σ : St} (h : WP E m_S_forgetActs d 2 [(0, aP 1), (1, aI 0)] [] σ Q) : WM E m_S_forgetActs d [aP 1] σ Q := s_meth (by decide) (Nat.le_of_ble_eq_true rfl) rfl (b_S_forgetActs_0 h)
theorem b_S_forgetActs_2 {E : EV} {d : Nat} {Q : Option AV → St → Prop} {σ : St} (x1 : Int) (hF : Fix σ) (h : (rI x1) ∧ ((12 ≤ x1 → Q none (wr σ 1 3 0)) ∧ (¬ 12 ≤ x1 → (0 ≤ x1 ∧ x1 < 12) ∧ WP E m_S_forgetActs d 2 [(0, aP 1), (1, aI (x1 + 1))] [] (wr σ 9 x1 0) Q))) : WP E m_S_forgetActs d 2 [(0, aP 1), (1, aI x1)] [] σ Q := by
  refine s_iload_n 1 d_S_forgetActs_2 rfl rfl ?_
  refine s_bipush d_S_forgetActs_3 (by decide) ?_
  obtain ⟨g1, h⟩ := h
  refine s_icmp_ge d_S_forgetActs_5 rfl g1 (by decide) (fun c => ?_) (fun c => ?_)
  · have h := h.1 c
    refine s_aload_n 0 d_S_forgetActs_21 rfl rfl ?_
    refine s_iconst d_S_forgetActs_22 ?_
    refine s_putf 3 rfl d_S_forgetActs_23 fl_S_31 (fun C T h => by cases h; exact Or.inl rfl) rfl (Or.inl rfl) (fun h => nomatch h) (sf_1 hF) ?_
    exact s_return d_S_forgetActs_26 rfl h
  · have h := h.2 c
    refine s_aload_n 0 d_S_forgetActs_8 rfl rfl ?_
    refine s_getF (v := 9) d_S_forgetActs_9 fl_S_27 rfl (sf_1 hF) (ff_0 hF) ?_
    refine s_iload_n 1 d_S_forgetActs_12 rfl rfl ?_
    refine s_null d_S_forgetActs_13 ?_
    obtain ⟨g2, h⟩ := h
    refine s_aastore (ci := 4) (N := 3) (by decide) d_S_forgetActs_14 ⟨_, sf_9 hF, g2.1, g2.2, by have := g2.2; omega⟩ (Or.inl rfl) ?_
    refine s_iinc 1 d_S_forgetActs_15 rfl (by decide) rfl ?_
    refine s_goto d_S_forgetActs_18 rfl ?_
    refine wp_drop [1, 0] rfl ?_
    exact h
theorem d_S_exchange_0 : decode m_S_exchange.2.1 0 = .ok (.aload_n 0, 1) := by decide +kernel
theorem d_S_exchange_1 : decode m_S_exchange.2.1 1 = .ok (.iload_n 1, 1) := by decide +kernel
theorem d_S_exchange_2 : decode m_S_exchange.2.1 2 = .ok (.iload_n 2, 1) := by decide +kernel
theorem d_S_exchange_3 : decode m_S_exchange.2.1 3 = .ok (.invokevirtual 99, 3) := by decide +kernel
theorem d_S_exchange_6 : decode m_S_exchange.2.1 6 = .ok (.astore 5, 2) := by decide +kernel
theorem d_S_exchange_8 : decode m_S_exchange.2.1 8 = .ok (.aload 5, 2) := by decide +kernel
theorem d_S_exchange_10 : decode m_S_exchange.2.1 10 = .ok (.ifnull 15, 3) := by decide +kernel
theorem d_S_exchange_13 : decode m_S_exchange.2.1 13 = .ok (.aload_n 0, 1) := by decide +kernel
theorem d_S_exchange_14 : decode m_S_exchange.2.1 14 = .ok (.getfield 10, 3) := by decide +kernel
theorem d_S_exchange_17 : decode m_S_exchange.2.1 17 = .ok (.iload 4, 2) := by decide +kernel
theorem d_S_exchange_19 : decode m_S_exchange.2.1 19 = .ok (.invokevirtual 103, 3) := by decide +kernel
theorem d_S_exchange_22 : decode m_S_exchange.2.1 22 = .ok (.ifCond .ne 5, 3) := by decide +kernel
theorem d_S_exchange_25 : decode m_S_exchange.2.1 25 = .ok (.iconst 0, 1) := by decide +kernel
theorem d_S_exchange_26 : decode m_S_exchange.2.1 26 = .ok (.ireturn, 1) := by decide +kernel
theorem d_S_exchange_27 : decode m_S_exchange.2.1 27 = .ok (.aload 5, 2) := by decide +kernel
theorem d_S_exchange_29 : decode m_S_exchange.2.1 29 = .ok (.iload_n 3, 1) := by decide +kernel
theorem d_S_exchange_30 : decode m_S_exchange.2.1 30 = .ok (.invokevirtual 107, 3) := by decide +kernel
theorem d_S_exchange_33 : decode m_S_exchange.2.1 33 = .ok (.istore 6, 2) := by decide +kernel
theorem d_S_exchange_35 : decode m_S_exchange.2.1 35 = .ok (.aload 5, 2) := by decide +kernel
theorem d_S_exchange_37 : decode m_S_exchange.2.1 37 = .ok (.iload 6, 2) := by decide +kernel
theorem d_S_exchange_39 : decode m_S_exchange.2.1 39 = .ok (.invokevirtual 113, 3) := by decide +kernel
theorem d_S_exchange_42 : decode m_S_exchange.2.1 42 = .ok (.istore 7, 2) := by decide +kernel
theorem d_S_exchange_44 : decode m_S_exchange.2.1 44 = .ok (.iload 6, 2) := by decide +kernel
theorem d_S_exchange_46 : decode m_S_exchange.2.1 46 = .ok (.iconst (-1), 1) := by decide +kernel
theorem d_S_exchange_47 : decode m_S_exchange.2.1 47 = .ok (.if_icmp .eq 33, 3) := by decide +kernel
theorem d_S_exchange_50 : decode m_S_exchange.2.1 50 = .ok (.iload 7, 2) := by decide +kernel
theorem d_S_exchange_52 : decode m_S_exchange.2.1 52 = .ok (.invokestatic 116, 3) := by decide +kernel
theorem d_S_exchange_55 : decode m_S_exchange.2.1 55 = .ok (.iload 4, 2) := by decide +kernel
theorem d_S_exchange_57 : decode m_S_exchange.2.1 57 = .ok (.if_icmp .eq 23, 3) := by decide +kernel
theorem d_S_exchange_60 : decode m_S_exchange.2.1 60 = .ok (.iload 7, 2) := by decide +kernel
theorem d_S_exchange_62 : decode m_S_exchange.2.1 62 = .ok (.invokestatic 119, 3) := by decide +kernel
theorem d_S_exchange_65 : decode m_S_exchange.2.1 65 = .ok (.ifCond .eq 17, 3) := by decide +kernel
theorem d_S_exchange_68 : decode m_S_exchange.2.1 68 = .ok (.aload_n 0, 1) := by decide +kernel
theorem d_S_exchange_69 : decode m_S_exchange.2.1 69 = .ok (.getfield 10, 3) := by decide +kernel
theorem d_S_exchange_72 : decode m_S_exchange.2.1 72 = .ok (.iload 4, 2) := by decide +kernel
theorem d_S_exchange_74 : decode m_S_exchange.2.1 74 = .ok (.invokevirtual 122, 3) := by decide +kernel
theorem d_S_exchange_77 : decode m_S_exchange.2.1 77 = .ok (.ifCond .ne 5, 3) := by decide +kernel
theorem d_S_exchange_80 : decode m_S_exchange.2.1 80 = .ok (.iconst 0, 1) := by decide +kernel
theorem d_S_exchange_81 : decode m_S_exchange.2.1 81 = .ok (.ireturn, 1) := by decide +kernel
theorem d_S_exchange_82 : decode m_S_exchange.2.1 82 = .ok (.aload_n 0, 1) := by decide +kernel
theorem d_S_exchange_83 : decode m_S_exchange.2.1 83 = .ok (.getfield 38, 3) := by decide +kernel
theorem d_S_exchange_86 : decode m_S_exchange.2.1 86 = .ok (.aload 5, 2) := by decide +kernel
theorem d_S_exchange_88 : decode m_S_exchange.2.1 88 = .ok (.invokevirtual 125, 3) := by decide +kernel
theorem d_S_exchange_91 : decode m_S_exchange.2.1 91 = .ok (.aload_n 0, 1) := by decide +kernel
theorem d_S_exchange_92 : decode m_S_exchange.2.1 92 = .ok (.getfield 38, 3) := by decide +kernel
theorem d_S_exchange_95 : decode m_S_exchange.2.1 95 = .ok (.iload 6, 2) := by decide +kernel
theorem d_S_exchange_97 : decode m_S_exchange.2.1 97 = .ok (.iload 7, 2) := by decide +kernel
theorem d_S_exchange_99 : decode m_S_exchange.2.1 99 = .ok (.invokestatic 119, 3) := by decide +kernel
theorem d_S_exchange_102 : decode m_S_exchange.2.1 102 = .ok (.ifCond .eq 11, 3) := by decide +kernel
theorem d_S_exchange_105 : decode m_S_exchange.2.1 105 = .ok (.iload 4, 2) := by decide +kernel
theorem d_S_exchange_107 : decode m_S_exchange.2.1 107 = .ok (.bipush 32, 2) := by decide +kernel
theorem d_S_exchange_109 : decode m_S_exchange.2.1 109 = .ok (.iadd, 1) := by decide +kernel
theorem d_S_exchange_110 : decode m_S_exchange.2.1 110 = .ok (.goto 5, 3) := by decide +kernel
theorem d_S_exchange_113 : decode m_S_exchange.2.1 113 = .ok (.iload 4, 2) := by decide +kernel
theorem d_S_exchange_115 : decode m_S_exchange.2.1 115 = .ok (.invokevirtual 129, 3) := by decide +kernel
theorem d_S_exchange_118 : decode m_S_exchange.2.1 118 = .ok (.aload_n 0, 1) := by decide +kernel
theorem d_S_exchange_119 : decode m_S_exchange.2.1 119 = .ok (.iload_n 1, 1) := by decide +kernel
theorem d_S_exchange_120 : decode m_S_exchange.2.1 120 = .ok (.iload_n 2, 1) := by decide +kernel
theorem d_S_exchange_121 : decode m_S_exchange.2.1 121 = .ok (.aload_n 0, 1) := by decide +kernel
theorem d_S_exchange_122 : decode m_S_exchange.2.1 122 = .ok (.getfield 38, 3) := by decide +kernel
theorem d_S_exchange_125 : decode m_S_exchange.2.1 125 = .ok (.invokevirtual 133, 3) := by decide +kernel
theorem d_S_exchange_128 : decode m_S_exchange.2.1 128 = .ok (.invokevirtual 137, 3) := by decide +kernel
theorem d_S_exchange_131 : decode m_S_exchange.2.1 131 = .ok (.ireturn, 1) := by decide +kernel
theorem b_S_exchange_0 {E : EV} {d : Nat} {Q : Option AV → St → Prop} {σ : St} (x1 x2 x3 x4 : Int) (hF : Fix σ) (h : (WMr E m_S_squareAt d [aP 1, aI x1, aI x2] σ (fun v1 σ1 => Fix σ1 ∧ ((v1 = 0 → Q (some (aI 0)) σ1) ∧ (¬ v1 = 0 → (sh σ1 (σ1.1 1 0) = some (8, 4)) ∧ (WMi E m_Table_has d [aP (σ1.1 1 0), aI x4] σ1 (fun v2 σ2 => Fix σ2 ∧ (rI v2) ∧ ((¬ v2 = 0 → (sh σ2 v1 = some (7, 1)) ∧ (WMi E m_Sq_placeOf d [aP v1, aI x3] σ2 (fun v5 σ5 => Fix σ5 ∧ (sh σ5 v1 = some (7, 1)) ∧ (WMi E m_Sq_symbol d [aP v1, aI v5] σ5 (fun v7 σ7 => Fix σ7 ∧ (rI v5) ∧ ((v5 = (-1) → Q (some (aI 0)) σ7) ∧ (¬ v5 = (-1) → (WMi E m_S_letterOf d [aI v7] σ7 (fun v10 σ10 => Fix σ10 ∧ (rI v10) ∧ (rI x4) ∧ ((v10 = x4 → Q (some (aI 0)) σ10) ∧ (¬ v10 = x4 → (WMi E m_S_holds d [aI v7] σ10 (fun v13 σ13 => Fix σ13 ∧ (rI v13) ∧ ((v13 = 0 → WP E m_S_exchange (d + 1) 82 [(0, aP 1), (1, aI x1), (2, aI x2), (4, aI x4), (5, aP v1), (6, aI v5), (7, aI v7)] [] σ13 Q) ∧ (¬ v13 = 0 → (sh σ13 (σ13.1 1 0) = some (8, 4)) ∧ (WMi E m_Table_hasCore d [aP (σ13.1 1 0), aI x4] σ13 (fun v15 σ15 => (rI v15) ∧ ((¬ v15 = 0 → WP E m_S_exchange (d + 1) 82 [(0, aP 1), (1, aI x1), (2, aI x2), (4, aI x4), (5, aP v1), (6, aI v5), (7, aI v7)] [] σ15 Q) ∧ (v15 = 0 → Q (some (aI 0)) σ15))))))))))))))))))) ∧ (v2 = 0 → Q (some (aI 0)) σ2))))))))) : WP E m_S_exchange (d + 1) 0 [(0, aP 1), (1, aI x1), (2, aI x2), (3, aI x3), (4, aI x4)] [] σ Q := by
  refine s_aload_n 0 d_S_exchange_0 rfl rfl ?_
  refine s_iload_n 1 d_S_exchange_1 rfl rfl ?_
  refine s_iload_n 2 d_S_exchange_2 rfl rfl ?_
  refine s_callV (as := [aI x1, aI x2]) (ci := 9) d_S_exchange_3 ok_S_squareAt lk_S_99 io_S_squareAt so_S_squareAt (by decide) rfl rfl rfl (Nat.le_of_ble_eq_true rfl) rfl (sf_1 hF) (WM.mono h ?_)
  rintro _ σ1 ⟨v1, rfl, hp, h⟩
  obtain ⟨hF1, h⟩ := h
  show WP E m_S_exchange (d + 1) 6 [(0, aP 1), (1, aI x1), (2, aI x2), (3, aI x3), (4, aI x4)] [aP v1] σ1 Q
  refine s_astore d_S_exchange_6 (by decide) rfl ?_
  refine s_aload 0 d_S_exchange_8 rfl ?_
  refine s_ifnull d_S_exchange_10 rfl (fun c => ?_) (fun c => ?_)
  · have h := h.1 c
    refine s_iconst d_S_exchange_25 ?_
    exact s_zreturn d_S_exchange_26 rfl (by decide) h
  · have h := h.2 c
    refine s_aload_n 1 d_S_exchange_13 rfl rfl ?_
    refine s_getF (v := σ1.1 1 0) d_S_exchange_14 fl_S_10 rfl (sf_1 hF1) rfl ?_
    refine s_iload 5 d_S_exchange_17 rfl ?_
    obtain ⟨g3, h⟩ := h
    refine s_callV (as := [aI x4]) (ci := 8) d_S_exchange_19 ok_Table_has lk_S_103 io_Table_has so_Table_has (by decide) rfl rfl rfl (Nat.le_of_ble_eq_true rfl) rfl g3 (WM.mono h ?_)
    rintro _ σ2 ⟨v2, rfl, hp, h⟩
    obtain ⟨hF3, h⟩ := h
    show WP E m_S_exchange (d + 1) 22 [(5, aP v1), (0, aP 1), (1, aI x1), (2, aI x2), (3, aI x3), (4, aI x4)] [aI v2] σ2 Q
    obtain ⟨g4, h⟩ := h
    refine s_if_ne d_S_exchange_22 rfl g4 (fun c => ?_) (fun c => ?_)
    · have h := h.1 c
      refine s_aload 0 d_S_exchange_27 rfl ?_
      refine s_iload_n 4 d_S_exchange_29 rfl rfl ?_
      obtain ⟨g6, h⟩ := h
      refine s_callV (as := [aI x3]) (ci := 7) d_S_exchange_30 ok_Sq_placeOf lk_S_107 io_Sq_placeOf so_Sq_placeOf (by decide) rfl rfl rfl (Nat.le_of_ble_eq_true rfl) rfl g6 (WM.mono h ?_)
      rintro _ σ5 ⟨v5, rfl, hp, h⟩
      obtain ⟨hF6, h⟩ := h
      show WP E m_S_exchange (d + 1) 33 [(5, aP v1), (0, aP 1), (1, aI x1), (2, aI x2), (3, aI x3), (4, aI x4)] [aI v5] σ5 Q
      refine s_istore d_S_exchange_33 (by decide) rfl ?_
      refine s_aload 1 d_S_exchange_35 rfl ?_
      refine s_iload 0 d_S_exchange_37 rfl ?_
      obtain ⟨g8, h⟩ := h
      refine s_callV (as := [aI v5]) (ci := 7) d_S_exchange_39 ok_Sq_symbol lk_S_113 io_Sq_symbol so_Sq_symbol (by decide) rfl rfl rfl (Nat.le_of_ble_eq_true rfl) rfl g8 (WM.mono h ?_)
      rintro _ σ7 ⟨v7, rfl, hp, h⟩
      obtain ⟨hF8, h⟩ := h
      show WP E m_S_exchange (d + 1) 42 [(6, aI v5), (5, aP v1), (0, aP 1), (1, aI x1), (2, aI x2), (3, aI x3), (4, aI x4)] [aI v7] σ7 Q
      refine s_istore d_S_exchange_42 (by decide) rfl ?_
      refine s_iload 1 d_S_exchange_44 rfl ?_
      refine s_iconst d_S_exchange_46 ?_
      obtain ⟨g9, h⟩ := h
      refine s_icmp_eq d_S_exchange_47 rfl g9 (by decide) (fun c => ?_) (fun c => ?_)
      · have h := h.1 c
        refine s_iconst d_S_exchange_80 ?_
        exact s_zreturn d_S_exchange_81 rfl (by decide) h
      · have h := h.2 c
        refine s_iload 0 d_S_exchange_50 rfl ?_
        refine s_callS (as := [aI v7]) d_S_exchange_52 ok_S_letterOf lk_S_116 to_S_letterOf rfl (Nat.le_of_ble_eq_true rfl) rfl (WM.mono h ?_)
        rintro _ σ10 ⟨v10, rfl, hp, h⟩
        obtain ⟨hF10, h⟩ := h
        show WP E m_S_exchange (d + 1) 55 [(7, aI v7), (6, aI v5), (5, aP v1), (0, aP 1), (1, aI x1), (2, aI x2), (3, aI x3), (4, aI x4)] [aI v10] σ10 Q
        refine s_iload 7 d_S_exchange_55 rfl ?_
        obtain ⟨g11, h⟩ := h
        obtain ⟨g12, h⟩ := h
        refine s_icmp_eq d_S_exchange_57 rfl g11 g12 (fun c => ?_) (fun c => ?_)
        · have h := h.1 c
          refine s_iconst d_S_exchange_80 ?_
          exact s_zreturn d_S_exchange_81 rfl (by decide) h
        · have h := h.2 c
          refine s_iload 0 d_S_exchange_60 rfl ?_
          refine s_callS (as := [aI v7]) d_S_exchange_62 ok_S_holds lk_S_119 to_S_holds rfl (Nat.le_of_ble_eq_true rfl) rfl (WM.mono h ?_)
          rintro _ σ13 ⟨v13, rfl, hp, h⟩
          obtain ⟨hF13, h⟩ := h
          show WP E m_S_exchange (d + 1) 65 [(7, aI v7), (6, aI v5), (5, aP v1), (0, aP 1), (1, aI x1), (2, aI x2), (3, aI x3), (4, aI x4)] [aI v13] σ13 Q
          obtain ⟨g14, h⟩ := h
          refine s_if_eq d_S_exchange_65 rfl g14 (fun c => ?_) (fun c => ?_)
          · have h := h.1 c
            refine wp_drop [3, 4, 5, 7, 2, 1, 0] rfl ?_
            exact h
          · have h := h.2 c
            refine s_aload_n 3 d_S_exchange_68 rfl rfl ?_
            refine s_getF (v := σ13.1 1 0) d_S_exchange_69 fl_S_10 rfl (sf_1 hF13) rfl ?_
            refine s_iload 7 d_S_exchange_72 rfl ?_
            obtain ⟨g16, h⟩ := h
            refine s_callV (as := [aI x4]) (ci := 8) d_S_exchange_74 ok_Table_hasCore lk_S_122 io_Table_hasCore so_Table_hasCore (by decide) rfl rfl rfl (Nat.le_of_ble_eq_true rfl) rfl g16 (WM.mono h ?_)
            rintro _ σ15 ⟨v15, rfl, hp, h⟩
            show WP E m_S_exchange (d + 1) 77 [(7, aI v7), (6, aI v5), (5, aP v1), (0, aP 1), (1, aI x1), (2, aI x2), (3, aI x3), (4, aI x4)] [aI v15] σ15 Q
            obtain ⟨g17, h⟩ := h
            refine s_if_ne d_S_exchange_77 rfl g17 (fun c => ?_) (fun c => ?_)
            · have h := h.1 c
              refine wp_drop [3, 4, 5, 7, 2, 1, 0] rfl ?_
              exact h
            · have h := h.2 c
              refine s_iconst d_S_exchange_80 ?_
              exact s_zreturn d_S_exchange_81 rfl (by decide) h
    · have h := h.2 c
      refine s_iconst d_S_exchange_25 ?_
      exact s_zreturn d_S_exchange_26 rfl (by decide) h
theorem e_S_exchange {E : EV} {d : Nat} {Q : Option AV → St → Prop} {σ : St} (x1 x2 x3 x4 : Int) (hF : Fix σ) (h : (WMr E m_S_squareAt d [aP 1, aI x1, aI x2] σ (fun v1 σ1 => Fix σ1 ∧ ((v1 = 0 → Q (some (aI 0)) σ1) ∧ (¬ v1 = 0 → (sh σ1 (σ1.1 1 0) = some (8, 4)) ∧ (WMi E m_Table_has d [aP (σ1.1 1 0), aI x4] σ1 (fun v2 σ2 => Fix σ2 ∧ (rI v2) ∧ ((¬ v2 = 0 → (sh σ2 v1 = some (7, 1)) ∧ (WMi E m_Sq_placeOf d [aP v1, aI x3] σ2 (fun v5 σ5 => Fix σ5 ∧ (sh σ5 v1 = some (7, 1)) ∧ (WMi E m_Sq_symbol d [aP v1, aI v5] σ5 (fun v7 σ7 => Fix σ7 ∧ (rI v5) ∧ ((v5 = (-1) → Q (some (aI 0)) σ7) ∧ (¬ v5 = (-1) → (WMi E m_S_letterOf d [aI v7] σ7 (fun v10 σ10 => Fix σ10 ∧ (rI v10) ∧ (rI x4) ∧ ((v10 = x4 → Q (some (aI 0)) σ10) ∧ (¬ v10 = x4 → (WMi E m_S_holds d [aI v7] σ10 (fun v13 σ13 => Fix σ13 ∧ (rI v13) ∧ ((v13 = 0 → WP E m_S_exchange (d + 1) 82 [(0, aP 1), (1, aI x1), (2, aI x2), (4, aI x4), (5, aP v1), (6, aI v5), (7, aI v7)] [] σ13 Q) ∧ (¬ v13 = 0 → (sh σ13 (σ13.1 1 0) = some (8, 4)) ∧ (WMi E m_Table_hasCore d [aP (σ13.1 1 0), aI x4] σ13 (fun v15 σ15 => (rI v15) ∧ ((¬ v15 = 0 → WP E m_S_exchange (d + 1) 82 [(0, aP 1), (1, aI x1), (2, aI x2), (4, aI x4), (5, aP v1), (6, aI v5), (7, aI v7)] [] σ15 Q) ∧ (v15 = 0 → Q (some (aI 0)) σ15))))))))))))))))))) ∧ (v2 = 0 → Q (some (aI 0)) σ2))))))))) : WM E m_S_exchange (d + 1) [aP 1, aI x1, aI x2, aI x3, aI x4] σ Q := s_meth (by decide) (Nat.le_of_ble_eq_true rfl) rfl (b_S_exchange_0 x1 x2 x3 x4 hF h)
theorem b_S_exchange_82 {E : EV} {d : Nat} {Q : Option AV → St → Prop} {σ : St} (x1 x2 x4 x5 x6 x7 : Int) (hF : Fix σ) (h : (WMv E m_Draft_take d [aP 10, aP x5] σ (fun σ1 => Fix σ1 ∧ (WMi E m_S_holds d [aI x7] σ1 (fun v2 σ2 => (rI v2) ∧ ((v2 = 0 → WP E m_S_exchange (d + 1) 115 [(0, aP 1), (1, aI x1), (2, aI x2)] [aI x4, aI x6, aP 10] σ2 Q) ∧ (¬ v2 = 0 → WP E m_S_exchange (d + 1) 115 [(0, aP 1), (1, aI x1), (2, aI x2)] [aI (x4 + 32), aI x6, aP 10] σ2 Q))))))) : WP E m_S_exchange (d + 1) 82 [(0, aP 1), (1, aI x1), (2, aI x2), (4, aI x4), (5, aP x5), (6, aI x6), (7, aI x7)] [] σ Q := by
  refine s_aload_n 0 d_S_exchange_82 rfl rfl ?_
  refine s_getF (v := 10) d_S_exchange_83 fl_S_38 rfl (sf_1 hF) (ff_1 hF) ?_
  refine s_aload 4 d_S_exchange_86 rfl ?_
  refine s_callV (as := [aP x5]) (ci := 1) d_S_exchange_88 ok_Draft_take lk_S_125 io_Draft_take so_Draft_take (by decide) rfl rfl rfl (Nat.le_of_ble_eq_true rfl) rfl (sf_10 hF) (WM.mono h ?_)
  rintro _ σ1 ⟨rfl, hp, h⟩
  obtain ⟨hF1, h⟩ := h
  show WP E m_S_exchange (d + 1) 91 [(0, aP 1), (1, aI x1), (2, aI x2), (4, aI x4), (5, aP x5), (6, aI x6), (7, aI x7)] [] σ1 Q
  refine s_aload_n 0 d_S_exchange_91 rfl rfl ?_
  refine s_getF (v := 10) d_S_exchange_92 fl_S_38 rfl (sf_1 hF1) (ff_1 hF1) ?_
  refine s_iload 5 d_S_exchange_95 rfl ?_
  refine s_iload 6 d_S_exchange_97 rfl ?_
  refine s_callS (as := [aI x7]) d_S_exchange_99 ok_S_holds lk_S_119 to_S_holds rfl (Nat.le_of_ble_eq_true rfl) rfl (WM.mono h ?_)
  rintro _ σ2 ⟨v2, rfl, hp, h⟩
  show WP E m_S_exchange (d + 1) 102 [(0, aP 1), (1, aI x1), (2, aI x2), (4, aI x4), (5, aP x5), (6, aI x6), (7, aI x7)] [aI v2, aI x6, aP 10] σ2 Q
  obtain ⟨g3, h⟩ := h
  refine s_if_eq d_S_exchange_102 rfl g3 (fun c => ?_) (fun c => ?_)
  · have h := h.1 c
    refine s_iload 3 d_S_exchange_113 rfl ?_
    refine wp_drop [0, 1, 2] rfl ?_
    exact h
  · have h := h.2 c
    refine s_iload 3 d_S_exchange_105 rfl ?_
    refine s_bipush d_S_exchange_107 (by decide) ?_
    refine s_iadd d_S_exchange_109 ?_
    refine s_goto d_S_exchange_110 rfl ?_
    refine wp_drop [0, 1, 2] rfl ?_
    exact h
theorem b_S_exchange_115 {E : EV} {d : Nat} {Q : Option AV → St → Prop} {σ : St} (x1 x2 s0 s1 s2 : Int) (hF : Fix σ) (h : (sh σ s0 = some (1, 2)) ∧ (WMv E m_Draft_change d [aP s0, aI s1, aI s2] σ (fun σ1 => Fix σ1 ∧ (WMr E m_Draft_made d [aP 10] σ1 (fun v3 σ3 => Fix σ3 ∧ (WMi E m_S_become d [aP 1, aI x1, aI x2, aP v3] σ3 (fun v4 σ4 => (v4 = 0 ∨ v4 = 1) ∧ Q (some (aI v4)) σ4))))))) : WP E m_S_exchange (d + 1) 115 [(0, aP 1), (1, aI x1), (2, aI x2)] [aI s2, aI s1, aP s0] σ Q := by
  obtain ⟨g2, h⟩ := h
  refine s_callV (as := [aI s1, aI s2]) (ci := 1) d_S_exchange_115 ok_Draft_change lk_S_129 io_Draft_change so_Draft_change (by decide) rfl rfl rfl (Nat.le_of_ble_eq_true rfl) rfl g2 (WM.mono h ?_)
  rintro _ σ1 ⟨rfl, hp, h⟩
  obtain ⟨hF2, h⟩ := h
  show WP E m_S_exchange (d + 1) 118 [(0, aP 1), (1, aI x1), (2, aI x2)] [] σ1 Q
  refine s_aload_n 0 d_S_exchange_118 rfl rfl ?_
  refine s_iload_n 1 d_S_exchange_119 rfl rfl ?_
  refine s_iload_n 2 d_S_exchange_120 rfl rfl ?_
  refine s_aload_n 0 d_S_exchange_121 rfl rfl ?_
  refine s_getF (v := 10) d_S_exchange_122 fl_S_38 rfl (sf_1 hF2) (ff_1 hF2) ?_
  refine s_callV (as := []) (ci := 1) d_S_exchange_125 ok_Draft_made lk_S_133 io_Draft_made so_Draft_made (by decide) rfl rfl rfl (Nat.le_of_ble_eq_true rfl) rfl (sf_10 hF2) (WM.mono h ?_)
  rintro _ σ3 ⟨v3, rfl, hp, h⟩
  obtain ⟨hF3, h⟩ := h
  show WP E m_S_exchange (d + 1) 128 [(0, aP 1), (1, aI x1), (2, aI x2)] [aP v3, aI x2, aI x1, aP 1] σ3 Q
  refine s_callV (as := [aI x1, aI x2, aP v3]) (ci := 9) d_S_exchange_128 ok_S_become lk_S_137 io_S_become so_S_become (by decide) rfl rfl rfl (Nat.le_of_ble_eq_true rfl) rfl (sf_1 hF3) (WM.mono h ?_)
  rintro _ σ4 ⟨v4, rfl, hp, h⟩
  show WP E m_S_exchange (d + 1) 131 [(0, aP 1), (1, aI x1), (2, aI x2)] [aI v4] σ4 Q
  obtain ⟨g5, h⟩ := h
  exact s_zreturn d_S_exchange_131 rfl g5 h
theorem d_S_squareAt_0 : decode m_S_squareAt.2.1 0 = .ok (.aload_n 0, 1) := by decide +kernel
theorem d_S_squareAt_1 : decode m_S_squareAt.2.1 1 = .ok (.getfield 23, 3) := by decide +kernel
theorem d_S_squareAt_4 : decode m_S_squareAt.2.1 4 = .ok (.iload_n 1, 1) := by decide +kernel
theorem d_S_squareAt_5 : decode m_S_squareAt.2.1 5 = .ok (.invokevirtual 352, 3) := by decide +kernel
theorem d_S_squareAt_8 : decode m_S_squareAt.2.1 8 = .ok (.astore_n 3, 1) := by decide +kernel
theorem d_S_squareAt_9 : decode m_S_squareAt.2.1 9 = .ok (.aload_n 3, 1) := by decide +kernel
theorem d_S_squareAt_10 : decode m_S_squareAt.2.1 10 = .ok (.ifnonnull 7, 3) := by decide +kernel
theorem d_S_squareAt_13 : decode m_S_squareAt.2.1 13 = .ok (.aconst_null, 1) := by decide +kernel
theorem d_S_squareAt_14 : decode m_S_squareAt.2.1 14 = .ok (.goto 8, 3) := by decide +kernel
theorem d_S_squareAt_17 : decode m_S_squareAt.2.1 17 = .ok (.aload_n 3, 1) := by decide +kernel
theorem d_S_squareAt_18 : decode m_S_squareAt.2.1 18 = .ok (.iload_n 2, 1) := by decide +kernel
theorem d_S_squareAt_19 : decode m_S_squareAt.2.1 19 = .ok (.invokevirtual 319, 3) := by decide +kernel
theorem d_S_squareAt_22 : decode m_S_squareAt.2.1 22 = .ok (.areturn, 1) := by decide +kernel
theorem b_S_squareAt_0 {E : EV} {d : Nat} {Q : Option AV → St → Prop} {σ : St} (x1 x2 : Int) (hF : Fix σ) (h : (sh σ (σ.1 1 1) = some (4, 3)) ∧ (WMr E m_Moment_get d [aP (σ.1 1 1), aI x1] σ (fun v1 σ1 => ((¬ v1 = 0 → (sh σ1 v1 = some (3, 2)) ∧ (WMr E m_Line_get d [aP v1, aI x2] σ1 (fun v3 σ3 => Q (some (aP v3)) σ3))) ∧ (v1 = 0 → Q (some (aP 0)) σ1))))) : WP E m_S_squareAt (d + 1) 0 [(0, aP 1), (1, aI x1), (2, aI x2)] [] σ Q := by
  refine s_aload_n 0 d_S_squareAt_0 rfl rfl ?_
  refine s_getF (v := σ.1 1 1) d_S_squareAt_1 fl_S_23 rfl (sf_1 hF) rfl ?_
  refine s_iload_n 1 d_S_squareAt_4 rfl rfl ?_
  obtain ⟨g2, h⟩ := h
  refine s_callV (as := [aI x1]) (ci := 4) d_S_squareAt_5 ok_Moment_get lk_S_352 io_Moment_get so_Moment_get (by decide) rfl rfl rfl (Nat.le_of_ble_eq_true rfl) rfl g2 (WM.mono h ?_)
  rintro _ σ1 ⟨v1, rfl, hp, h⟩
  show WP E m_S_squareAt (d + 1) 8 [(0, aP 1), (1, aI x1), (2, aI x2)] [aP v1] σ1 Q
  refine s_astore_n d_S_squareAt_8 rfl (by decide) rfl ?_
  refine s_aload_n 0 d_S_squareAt_9 rfl rfl ?_
  refine s_ifnonnull d_S_squareAt_10 rfl (fun c => ?_) (fun c => ?_)
  · have h := h.1 c
    refine s_aload_n 0 d_S_squareAt_17 rfl rfl ?_
    refine s_iload_n 3 d_S_squareAt_18 rfl rfl ?_
    obtain ⟨g4, h⟩ := h
    refine s_callV (as := [aI x2]) (ci := 3) d_S_squareAt_19 ok_Line_get lk_S_319 io_Line_get so_Line_get (by decide) rfl rfl rfl (Nat.le_of_ble_eq_true rfl) rfl g4 (WM.mono h ?_)
    rintro _ σ3 ⟨v3, rfl, hp, h⟩
    show WP E m_S_squareAt (d + 1) 22 [(3, aP v1), (0, aP 1), (1, aI x1), (2, aI x2)] [aP v3] σ3 Q
    exact s_areturn d_S_squareAt_22 rfl (Or.inl ⟨_, rfl⟩) h
  · have h := h.2 c
    refine s_null d_S_squareAt_13 ?_
    refine s_goto d_S_squareAt_14 rfl ?_
    exact s_areturn d_S_squareAt_22 rfl (Or.inl ⟨_, rfl⟩) h
theorem e_S_squareAt {E : EV} {d : Nat} {Q : Option AV → St → Prop} {σ : St} (x1 x2 : Int) (hF : Fix σ) (h : (sh σ (σ.1 1 1) = some (4, 3)) ∧ (WMr E m_Moment_get d [aP (σ.1 1 1), aI x1] σ (fun v1 σ1 => ((¬ v1 = 0 → (sh σ1 v1 = some (3, 2)) ∧ (WMr E m_Line_get d [aP v1, aI x2] σ1 (fun v3 σ3 => Q (some (aP v3)) σ3))) ∧ (v1 = 0 → Q (some (aP 0)) σ1))))) : WM E m_S_squareAt (d + 1) [aP 1, aI x1, aI x2] σ Q := s_meth (by decide) (Nat.le_of_ble_eq_true rfl) rfl (b_S_squareAt_0 x1 x2 hF h)
theorem d_S_letterOf_0 : decode m_S_letterOf.2.1 0 = .ok (.iload_n 0, 1) := by decide +kernel
theorem d_S_letterOf_1 : decode m_S_letterOf.2.1 1 = .ok (.invokestatic 119, 3) := by decide +kernel
theorem d_S_letterOf_4 : decode m_S_letterOf.2.1 4 = .ok (.ifCond .eq 10, 3) := by decide +kernel
theorem d_S_letterOf_7 : decode m_S_letterOf.2.1 7 = .ok (.iload_n 0, 1) := by decide +kernel
theorem d_S_letterOf_8 : decode m_S_letterOf.2.1 8 = .ok (.bipush 32, 2) := by decide +kernel
theorem d_S_letterOf_10 : decode m_S_letterOf.2.1 10 = .ok (.isub, 1) := by decide +kernel
theorem d_S_letterOf_11 : decode m_S_letterOf.2.1 11 = .ok (.goto 4, 3) := by decide +kernel
theorem d_S_letterOf_14 : decode m_S_letterOf.2.1 14 = .ok (.iload_n 0, 1) := by decide +kernel
theorem d_S_letterOf_15 : decode m_S_letterOf.2.1 15 = .ok (.ireturn, 1) := by decide +kernel
theorem b_S_letterOf_0 {E : EV} {d : Nat} {Q : Option AV → St → Prop} {σ : St} (x0 : Int) (h : (WMi E m_S_holds d [aI x0] σ (fun v1 σ1 => (rI v1) ∧ ((v1 = 0 → Q (some (aI x0)) σ1) ∧ (¬ v1 = 0 → Q (some (aI (x0 - 32))) σ1))))) : WP E m_S_letterOf (d + 1) 0 [(0, aI x0)] [] σ Q := by
  refine s_iload_n 0 d_S_letterOf_0 rfl rfl ?_
  refine s_callS (as := [aI x0]) d_S_letterOf_1 ok_S_holds lk_S_119 to_S_holds rfl (Nat.le_of_ble_eq_true rfl) rfl (WM.mono h ?_)
  rintro _ σ1 ⟨v1, rfl, hp, h⟩
  show WP E m_S_letterOf (d + 1) 4 [(0, aI x0)] [aI v1] σ1 Q
  obtain ⟨g2, h⟩ := h
  refine s_if_eq d_S_letterOf_4 rfl g2 (fun c => ?_) (fun c => ?_)
  · have h := h.1 c
    refine s_iload_n 0 d_S_letterOf_14 rfl rfl ?_
    exact s_ireturn d_S_letterOf_15 rfl h
  · have h := h.2 c
    refine s_iload_n 0 d_S_letterOf_7 rfl rfl ?_
    refine s_bipush d_S_letterOf_8 (by decide) ?_
    refine s_isub d_S_letterOf_10 ?_
    refine s_goto d_S_letterOf_11 rfl ?_
    exact s_ireturn d_S_letterOf_15 rfl h
theorem e_S_letterOf {E : EV} {d : Nat} {Q : Option AV → St → Prop} {σ : St} (x0 : Int) (h : (WMi E m_S_holds d [aI x0] σ (fun v1 σ1 => (rI v1) ∧ ((v1 = 0 → Q (some (aI x0)) σ1) ∧ (¬ v1 = 0 → Q (some (aI (x0 - 32))) σ1))))) : WM E m_S_letterOf (d + 1) [aI x0] σ Q := s_meth (by decide) (Nat.le_of_ble_eq_true rfl) rfl (b_S_letterOf_0 x0 h)
theorem d_S_become_0 : decode m_S_become.2.1 0 = .ok (.aload_n 0, 1) := by decide +kernel
theorem d_S_become_1 : decode m_S_become.2.1 1 = .ok (.iload_n 1, 1) := by decide +kernel
theorem d_S_become_2 : decode m_S_become.2.1 2 = .ok (.invokevirtual 158, 3) := by decide +kernel
theorem d_S_become_5 : decode m_S_become.2.1 5 = .ok (.astore 4, 2) := by decide +kernel
theorem d_S_become_7 : decode m_S_become.2.1 7 = .ok (.aload 4, 2) := by decide +kernel
theorem d_S_become_9 : decode m_S_become.2.1 9 = .ok (.ifnull 22, 3) := by decide +kernel
theorem d_S_become_12 : decode m_S_become.2.1 12 = .ok (.aload_n 0, 1) := by decide +kernel
theorem d_S_become_13 : decode m_S_become.2.1 13 = .ok (.iload_n 1, 1) := by decide +kernel
theorem d_S_become_14 : decode m_S_become.2.1 14 = .ok (.aload 4, 2) := by decide +kernel
theorem d_S_become_16 : decode m_S_become.2.1 16 = .ok (.iload_n 2, 1) := by decide +kernel
theorem d_S_become_17 : decode m_S_become.2.1 17 = .ok (.aload_n 3, 1) := by decide +kernel
theorem d_S_become_18 : decode m_S_become.2.1 18 = .ok (.invokevirtual 355, 3) := by decide +kernel
theorem d_S_become_21 : decode m_S_become.2.1 21 = .ok (.invokevirtual 166, 3) := by decide +kernel
theorem d_S_become_24 : decode m_S_become.2.1 24 = .ok (.ifCond .eq 7, 3) := by decide +kernel
theorem d_S_become_27 : decode m_S_become.2.1 27 = .ok (.iconst 1, 1) := by decide +kernel
theorem d_S_become_28 : decode m_S_become.2.1 28 = .ok (.goto 4, 3) := by decide +kernel
theorem d_S_become_31 : decode m_S_become.2.1 31 = .ok (.iconst 0, 1) := by decide +kernel
theorem d_S_become_32 : decode m_S_become.2.1 32 = .ok (.ireturn, 1) := by decide +kernel
theorem b_S_become_0 {E : EV} {d : Nat} {Q : Option AV → St → Prop} {σ : St} (x1 x2 x3 : Int) (hF : Fix σ) (h : (WMr E m_S_lineAt d [aP 1, aI x1] σ (fun v1 σ1 => Fix σ1 ∧ ((v1 = 0 → Q (some (aI 0)) σ1) ∧ (¬ v1 = 0 → (sh σ1 v1 = some (3, 2)) ∧ (WMr E m_Line_with d [aP v1, aI x2, aP x3] σ1 (fun v2 σ2 => Fix σ2 ∧ (WMi E m_S_replaceLine d [aP 1, aI x1, aP v2] σ2 (fun v4 σ4 => (rI v4) ∧ ((v4 = 0 → Q (some (aI 0)) σ4) ∧ (¬ v4 = 0 → Q (some (aI 1)) σ4))))))))))) : WP E m_S_become (d + 1) 0 [(0, aP 1), (1, aI x1), (2, aI x2), (3, aP x3)] [] σ Q := by
  refine s_aload_n 0 d_S_become_0 rfl rfl ?_
  refine s_iload_n 1 d_S_become_1 rfl rfl ?_
  refine s_callV (as := [aI x1]) (ci := 9) d_S_become_2 ok_S_lineAt lk_S_158 io_S_lineAt so_S_lineAt (by decide) rfl rfl rfl (Nat.le_of_ble_eq_true rfl) rfl (sf_1 hF) (WM.mono h ?_)
  rintro _ σ1 ⟨v1, rfl, hp, h⟩
  obtain ⟨hF1, h⟩ := h
  show WP E m_S_become (d + 1) 5 [(0, aP 1), (1, aI x1), (2, aI x2), (3, aP x3)] [aP v1] σ1 Q
  refine s_astore d_S_become_5 (by decide) rfl ?_
  refine s_aload 0 d_S_become_7 rfl ?_
  refine s_ifnull d_S_become_9 rfl (fun c => ?_) (fun c => ?_)
  · have h := h.1 c
    refine s_iconst d_S_become_31 ?_
    exact s_zreturn d_S_become_32 rfl (by decide) h
  · have h := h.2 c
    refine s_aload_n 1 d_S_become_12 rfl rfl ?_
    refine s_iload_n 2 d_S_become_13 rfl rfl ?_
    refine s_aload 0 d_S_become_14 rfl ?_
    refine s_iload_n 3 d_S_become_16 rfl rfl ?_
    refine s_aload_n 4 d_S_become_17 rfl rfl ?_
    obtain ⟨g3, h⟩ := h
    refine s_callV (as := [aI x2, aP x3]) (ci := 3) d_S_become_18 ok_Line_with lk_S_355 io_Line_with so_Line_with (by decide) rfl rfl rfl (Nat.le_of_ble_eq_true rfl) rfl g3 (WM.mono h ?_)
    rintro _ σ2 ⟨v2, rfl, hp, h⟩
    obtain ⟨hF3, h⟩ := h
    show WP E m_S_become (d + 1) 21 [(4, aP v1), (0, aP 1), (1, aI x1), (2, aI x2), (3, aP x3)] [aP v2, aI x1, aP 1] σ2 Q
    refine s_callV (as := [aI x1, aP v2]) (ci := 9) d_S_become_21 ok_S_replaceLine lk_S_166 io_S_replaceLine so_S_replaceLine (by decide) rfl rfl rfl (Nat.le_of_ble_eq_true rfl) rfl (sf_1 hF3) (WM.mono h ?_)
    rintro _ σ4 ⟨v4, rfl, hp, h⟩
    show WP E m_S_become (d + 1) 24 [(4, aP v1), (0, aP 1), (1, aI x1), (2, aI x2), (3, aP x3)] [aI v4] σ4 Q
    obtain ⟨g5, h⟩ := h
    refine s_if_eq d_S_become_24 rfl g5 (fun c => ?_) (fun c => ?_)
    · have h := h.1 c
      refine s_iconst d_S_become_31 ?_
      exact s_zreturn d_S_become_32 rfl (by decide) h
    · have h := h.2 c
      refine s_iconst d_S_become_27 ?_
      refine s_goto d_S_become_28 rfl ?_
      exact s_zreturn d_S_become_32 rfl (by decide) h
theorem e_S_become {E : EV} {d : Nat} {Q : Option AV → St → Prop} {σ : St} (x1 x2 x3 : Int) (hF : Fix σ) (h : (WMr E m_S_lineAt d [aP 1, aI x1] σ (fun v1 σ1 => Fix σ1 ∧ ((v1 = 0 → Q (some (aI 0)) σ1) ∧ (¬ v1 = 0 → (sh σ1 v1 = some (3, 2)) ∧ (WMr E m_Line_with d [aP v1, aI x2, aP x3] σ1 (fun v2 σ2 => Fix σ2 ∧ (WMi E m_S_replaceLine d [aP 1, aI x1, aP v2] σ2 (fun v4 σ4 => (rI v4) ∧ ((v4 = 0 → Q (some (aI 0)) σ4) ∧ (¬ v4 = 0 → Q (some (aI 1)) σ4))))))))))) : WM E m_S_become (d + 1) [aP 1, aI x1, aI x2, aP x3] σ Q := s_meth (by decide) (Nat.le_of_ble_eq_true rfl) rfl (b_S_become_0 x1 x2 x3 hF h)
theorem d_S_lineAt_0 : decode m_S_lineAt.2.1 0 = .ok (.aload_n 0, 1) := by decide +kernel
theorem d_S_lineAt_1 : decode m_S_lineAt.2.1 1 = .ok (.getfield 23, 3) := by decide +kernel
theorem d_S_lineAt_4 : decode m_S_lineAt.2.1 4 = .ok (.iload_n 1, 1) := by decide +kernel
theorem d_S_lineAt_5 : decode m_S_lineAt.2.1 5 = .ok (.invokevirtual 352, 3) := by decide +kernel
theorem d_S_lineAt_8 : decode m_S_lineAt.2.1 8 = .ok (.areturn, 1) := by decide +kernel
theorem b_S_lineAt_0 {E : EV} {d : Nat} {Q : Option AV → St → Prop} {σ : St} (x1 : Int) (hF : Fix σ) (h : (sh σ (σ.1 1 1) = some (4, 3)) ∧ (WMr E m_Moment_get d [aP (σ.1 1 1), aI x1] σ (fun v1 σ1 => Q (some (aP v1)) σ1))) : WP E m_S_lineAt (d + 1) 0 [(0, aP 1), (1, aI x1)] [] σ Q := by
  refine s_aload_n 0 d_S_lineAt_0 rfl rfl ?_
  refine s_getF (v := σ.1 1 1) d_S_lineAt_1 fl_S_23 rfl (sf_1 hF) rfl ?_
  refine s_iload_n 1 d_S_lineAt_4 rfl rfl ?_
  obtain ⟨g2, h⟩ := h
  refine s_callV (as := [aI x1]) (ci := 4) d_S_lineAt_5 ok_Moment_get lk_S_352 io_Moment_get so_Moment_get (by decide) rfl rfl rfl (Nat.le_of_ble_eq_true rfl) rfl g2 (WM.mono h ?_)
  rintro _ σ1 ⟨v1, rfl, hp, h⟩
  show WP E m_S_lineAt (d + 1) 8 [(0, aP 1), (1, aI x1)] [aP v1] σ1 Q
  exact s_areturn d_S_lineAt_8 rfl (Or.inl ⟨_, rfl⟩) h
theorem e_S_lineAt {E : EV} {d : Nat} {Q : Option AV → St → Prop} {σ : St} (x1 : Int) (hF : Fix σ) (h : (sh σ (σ.1 1 1) = some (4, 3)) ∧ (WMr E m_Moment_get d [aP (σ.1 1 1), aI x1] σ (fun v1 σ1 => Q (some (aP v1)) σ1))) : WM E m_S_lineAt (d + 1) [aP 1, aI x1] σ Q := s_meth (by decide) (Nat.le_of_ble_eq_true rfl) rfl (b_S_lineAt_0 x1 hF h)
theorem d_S_replaceLine_0 : decode m_S_replaceLine.2.1 0 = .ok (.aload_n 0, 1) := by decide +kernel
theorem d_S_replaceLine_1 : decode m_S_replaceLine.2.1 1 = .ok (.aload_n 0, 1) := by decide +kernel
theorem d_S_replaceLine_2 : decode m_S_replaceLine.2.1 2 = .ok (.getfield 23, 3) := by decide +kernel
theorem d_S_replaceLine_5 : decode m_S_replaceLine.2.1 5 = .ok (.iload_n 1, 1) := by decide +kernel
theorem d_S_replaceLine_6 : decode m_S_replaceLine.2.1 6 = .ok (.aload_n 2, 1) := by decide +kernel
theorem d_S_replaceLine_7 : decode m_S_replaceLine.2.1 7 = .ok (.invokevirtual 358, 3) := by decide +kernel
theorem d_S_replaceLine_10 : decode m_S_replaceLine.2.1 10 = .ok (.invokevirtual 242, 3) := by decide +kernel
theorem d_S_replaceLine_13 : decode m_S_replaceLine.2.1 13 = .ok (.iconst 1, 1) := by decide +kernel
theorem d_S_replaceLine_14 : decode m_S_replaceLine.2.1 14 = .ok (.ireturn, 1) := by decide +kernel
theorem b_S_replaceLine_0 {E : EV} {d : Nat} {Q : Option AV → St → Prop} {σ : St} (x1 x2 : Int) (hF : Fix σ) (h : (sh σ (σ.1 1 1) = some (4, 3)) ∧ (WMr E m_Moment_with d [aP (σ.1 1 1), aI x1, aP x2] σ (fun v1 σ1 => Fix σ1 ∧ (WMv E m_S_act d [aP 1, aP v1] σ1 (fun σ3 => Q (some (aI 1)) σ3))))) : WP E m_S_replaceLine (d + 1) 0 [(0, aP 1), (1, aI x1), (2, aP x2)] [] σ Q := by
  refine s_aload_n 0 d_S_replaceLine_0 rfl rfl ?_
  refine s_aload_n 0 d_S_replaceLine_1 rfl rfl ?_
  refine s_getF (v := σ.1 1 1) d_S_replaceLine_2 fl_S_23 rfl (sf_1 hF) rfl ?_
  refine s_iload_n 1 d_S_replaceLine_5 rfl rfl ?_
  refine s_aload_n 2 d_S_replaceLine_6 rfl rfl ?_
  obtain ⟨g2, h⟩ := h
  refine s_callV (as := [aI x1, aP x2]) (ci := 4) d_S_replaceLine_7 ok_Moment_with lk_S_358 io_Moment_with so_Moment_with (by decide) rfl rfl rfl (Nat.le_of_ble_eq_true rfl) rfl g2 (WM.mono h ?_)
  rintro _ σ1 ⟨v1, rfl, hp, h⟩
  obtain ⟨hF2, h⟩ := h
  show WP E m_S_replaceLine (d + 1) 10 [(0, aP 1), (1, aI x1), (2, aP x2)] [aP v1, aP 1] σ1 Q
  refine s_callV (as := [aP v1]) (ci := 9) d_S_replaceLine_10 ok_S_act lk_S_242 io_S_act so_S_act (by decide) rfl rfl rfl (Nat.le_of_ble_eq_true rfl) rfl (sf_1 hF2) (WM.mono h ?_)
  rintro _ σ3 ⟨rfl, hp, h⟩
  show WP E m_S_replaceLine (d + 1) 13 [(0, aP 1), (1, aI x1), (2, aP x2)] [] σ3 Q
  refine s_iconst d_S_replaceLine_13 ?_
  exact s_zreturn d_S_replaceLine_14 rfl (by decide) h
theorem e_S_replaceLine {E : EV} {d : Nat} {Q : Option AV → St → Prop} {σ : St} (x1 x2 : Int) (hF : Fix σ) (h : (sh σ (σ.1 1 1) = some (4, 3)) ∧ (WMr E m_Moment_with d [aP (σ.1 1 1), aI x1, aP x2] σ (fun v1 σ1 => Fix σ1 ∧ (WMv E m_S_act d [aP 1, aP v1] σ1 (fun σ3 => Q (some (aI 1)) σ3))))) : WM E m_S_replaceLine (d + 1) [aP 1, aI x1, aP x2] σ Q := s_meth (by decide) (Nat.le_of_ble_eq_true rfl) rfl (b_S_replaceLine_0 x1 x2 hF h)
theorem d_S_act_0 : decode m_S_act.2.1 0 = .ok (.aload_n 0, 1) := by decide +kernel
theorem d_S_act_1 : decode m_S_act.2.1 1 = .ok (.getfield 31, 3) := by decide +kernel
theorem d_S_act_4 : decode m_S_act.2.1 4 = .ok (.bipush 12, 2) := by decide +kernel
theorem d_S_act_6 : decode m_S_act.2.1 6 = .ok (.if_icmp .lt 37, 3) := by decide +kernel
theorem d_S_act_9 : decode m_S_act.2.1 9 = .ok (.iconst 1, 1) := by decide +kernel
theorem d_S_act_10 : decode m_S_act.2.1 10 = .ok (.istore_n 2, 1) := by decide +kernel
theorem d_S_act_11 : decode m_S_act.2.1 11 = .ok (.iload_n 2, 1) := by decide +kernel
theorem d_S_act_12 : decode m_S_act.2.1 12 = .ok (.bipush 12, 2) := by decide +kernel
theorem d_S_act_14 : decode m_S_act.2.1 14 = .ok (.if_icmp .ge 23, 3) := by decide +kernel
theorem d_S_act_17 : decode m_S_act.2.1 17 = .ok (.aload_n 0, 1) := by decide +kernel
theorem d_S_act_18 : decode m_S_act.2.1 18 = .ok (.getfield 27, 3) := by decide +kernel
theorem d_S_act_21 : decode m_S_act.2.1 21 = .ok (.iload_n 2, 1) := by decide +kernel
theorem d_S_act_22 : decode m_S_act.2.1 22 = .ok (.iconst 1, 1) := by decide +kernel
theorem d_S_act_23 : decode m_S_act.2.1 23 = .ok (.isub, 1) := by decide +kernel
theorem d_S_act_24 : decode m_S_act.2.1 24 = .ok (.aload_n 0, 1) := by decide +kernel
theorem d_S_act_25 : decode m_S_act.2.1 25 = .ok (.getfield 27, 3) := by decide +kernel
theorem d_S_act_28 : decode m_S_act.2.1 28 = .ok (.iload_n 2, 1) := by decide +kernel
theorem d_S_act_29 : decode m_S_act.2.1 29 = .ok (.aaload, 1) := by decide +kernel
theorem d_S_act_30 : decode m_S_act.2.1 30 = .ok (.aastore, 1) := by decide +kernel
theorem d_S_act_31 : decode m_S_act.2.1 31 = .ok (.iinc 2 1, 3) := by decide +kernel
theorem d_S_act_34 : decode m_S_act.2.1 34 = .ok (.goto (-23), 3) := by decide +kernel
theorem d_S_act_37 : decode m_S_act.2.1 37 = .ok (.aload_n 0, 1) := by decide +kernel
theorem d_S_act_38 : decode m_S_act.2.1 38 = .ok (.bipush 11, 2) := by decide +kernel
theorem d_S_act_40 : decode m_S_act.2.1 40 = .ok (.putfield 31, 3) := by decide +kernel
theorem d_S_act_43 : decode m_S_act.2.1 43 = .ok (.aload_n 0, 1) := by decide +kernel
theorem d_S_act_44 : decode m_S_act.2.1 44 = .ok (.getfield 27, 3) := by decide +kernel
theorem d_S_act_47 : decode m_S_act.2.1 47 = .ok (.aload_n 0, 1) := by decide +kernel
theorem d_S_act_48 : decode m_S_act.2.1 48 = .ok (.getfield 31, 3) := by decide +kernel
theorem d_S_act_51 : decode m_S_act.2.1 51 = .ok (.aload_n 0, 1) := by decide +kernel
theorem d_S_act_52 : decode m_S_act.2.1 52 = .ok (.getfield 23, 3) := by decide +kernel
theorem d_S_act_55 : decode m_S_act.2.1 55 = .ok (.aastore, 1) := by decide +kernel
theorem d_S_act_56 : decode m_S_act.2.1 56 = .ok (.aload_n 0, 1) := by decide +kernel
theorem d_S_act_57 : decode m_S_act.2.1 57 = .ok (.dup, 1) := by decide +kernel
theorem d_S_act_58 : decode m_S_act.2.1 58 = .ok (.getfield 31, 3) := by decide +kernel
theorem d_S_act_61 : decode m_S_act.2.1 61 = .ok (.iconst 1, 1) := by decide +kernel
theorem d_S_act_62 : decode m_S_act.2.1 62 = .ok (.iadd, 1) := by decide +kernel
theorem d_S_act_63 : decode m_S_act.2.1 63 = .ok (.putfield 31, 3) := by decide +kernel
theorem d_S_act_66 : decode m_S_act.2.1 66 = .ok (.aload_n 0, 1) := by decide +kernel
theorem d_S_act_67 : decode m_S_act.2.1 67 = .ok (.aload_n 1, 1) := by decide +kernel
theorem d_S_act_68 : decode m_S_act.2.1 68 = .ok (.putfield 23, 3) := by decide +kernel
theorem d_S_act_71 : decode m_S_act.2.1 71 = .ok (.return_, 1) := by decide +kernel
theorem b_S_act_0 {E : EV} {d : Nat} {Q : Option AV → St → Prop} {σ : St} (x1 : Int) (hF : Fix σ) (h : (rI (σ.1 1 3)) ∧ (((σ.1 1 3) < 12 → WP E m_S_act d 43 [(0, aP 1), (1, aP x1)] [] σ Q) ∧ (¬ (σ.1 1 3) < 12 → WP E m_S_act d 11 [(0, aP 1), (1, aP x1), (2, aI 1)] [] σ Q))) : WP E m_S_act d 0 [(0, aP 1), (1, aP x1)] [] σ Q := by
  refine s_aload_n 0 d_S_act_0 rfl rfl ?_
  refine s_getF (v := σ.1 1 3) d_S_act_1 fl_S_31 rfl (sf_1 hF) rfl ?_
  refine s_bipush d_S_act_4 (by decide) ?_
  obtain ⟨g1, h⟩ := h
  refine s_icmp_lt d_S_act_6 rfl g1 (by decide) (fun c => ?_) (fun c => ?_)
  · have h := h.1 c
    exact h
  · have h := h.2 c
    refine s_iconst d_S_act_9 ?_
    refine s_istore_n d_S_act_10 rfl (by decide) rfl ?_
    refine wp_drop [1, 2, 0] rfl ?_
    exact h
theorem e_S_act {E : EV} {d : Nat} {Q : Option AV → St → Prop} {σ : St} (x1 : Int) (hF : Fix σ) (h : (rI (σ.1 1 3)) ∧ (((σ.1 1 3) < 12 → WP E m_S_act d 43 [(0, aP 1), (1, aP x1)] [] σ Q) ∧ (¬ (σ.1 1 3) < 12 → WP E m_S_act d 11 [(0, aP 1), (1, aP x1), (2, aI 1)] [] σ Q))) : WM E m_S_act d [aP 1, aP x1] σ Q := s_meth (by decide) (Nat.le_of_ble_eq_true rfl) rfl (b_S_act_0 x1 hF h)
theorem b_S_act_11 {E : EV} {d : Nat} {Q : Option AV → St → Prop} {σ : St} (x1 x2 : Int) (hF : Fix σ) (h : (rI x2) ∧ ((12 ≤ x2 → WP E m_S_act d 43 [(0, aP 1), (1, aP x1)] [] (wr σ 1 3 11) Q) ∧ (¬ 12 ≤ x2 → (0 ≤ x2 ∧ x2 < 12) ∧ (0 ≤ (x2 - 1) ∧ (x2 - 1) < 12) ∧ ((σ.1 9 x2) = 0 ∨ sh σ (σ.1 9 x2) = some (4, 3)) ∧ WP E m_S_act d 11 [(0, aP 1), (1, aP x1), (2, aI (x2 + 1))] [] (wr σ 9 (x2 - 1) (σ.1 9 x2)) Q))) : WP E m_S_act d 11 [(0, aP 1), (1, aP x1), (2, aI x2)] [] σ Q := by
  refine s_iload_n 2 d_S_act_11 rfl rfl ?_
  refine s_bipush d_S_act_12 (by decide) ?_
  obtain ⟨g1, h⟩ := h
  refine s_icmp_ge d_S_act_14 rfl g1 (by decide) (fun c => ?_) (fun c => ?_)
  · have h := h.1 c
    refine s_aload_n 0 d_S_act_37 rfl rfl ?_
    refine s_bipush d_S_act_38 (by decide) ?_
    refine s_putf 3 rfl d_S_act_40 fl_S_31 (fun C T h => by cases h; exact Or.inl rfl) rfl (Or.inl rfl) (fun h => nomatch h) (sf_1 hF) ?_
    refine wp_drop [0, 1] rfl ?_
    exact h
  · have h := h.2 c
    refine s_aload_n 0 d_S_act_17 rfl rfl ?_
    refine s_getF (v := 9) d_S_act_18 fl_S_27 rfl (sf_1 hF) (ff_0 hF) ?_
    refine s_iload_n 2 d_S_act_21 rfl rfl ?_
    refine s_iconst d_S_act_22 ?_
    refine s_isub d_S_act_23 ?_
    refine s_aload_n 0 d_S_act_24 rfl rfl ?_
    refine s_getF (v := 9) d_S_act_25 fl_S_27 rfl (sf_1 hF) (ff_0 hF) ?_
    refine s_iload_n 2 d_S_act_28 rfl rfl ?_
    obtain ⟨g2, h⟩ := h
    refine s_aaloadv (v := σ.1 9 x2) (by decide) d_S_act_29 ⟨_, sf_9 hF, g2.1, g2.2, by have := g2.2; omega⟩ rfl ?_
    obtain ⟨g3, h⟩ := h
    obtain ⟨g4, h⟩ := h
    refine s_aastore (ci := 4) (N := 3) (by decide) d_S_act_30 ⟨_, sf_9 hF, g3.1, g3.2, by have := g3.2; omega⟩ g4 ?_
    refine s_iinc 2 d_S_act_31 rfl (by decide) rfl ?_
    refine s_goto d_S_act_34 rfl ?_
    refine wp_drop [1, 2, 0] rfl ?_
    exact h
theorem b_S_act_43 {E : EV} {d : Nat} {Q : Option AV → St → Prop} {σ : St} (x1 : Int) (hF : Fix σ) (h : (0 ≤ (σ.1 1 3) ∧ (σ.1 1 3) < 12) ∧ ((σ.1 1 1) = 0 ∨ sh σ (σ.1 1 1) = some (4, 3)) ∧ Q none (wr (wr (wr σ 9 (σ.1 1 3) (σ.1 1 1)) 1 3 ((σ.1 1 3) + 1)) 1 1 x1)) : WP E m_S_act d 43 [(0, aP 1), (1, aP x1)] [] σ Q := by
  refine s_aload_n 0 d_S_act_43 rfl rfl ?_
  refine s_getF (v := 9) d_S_act_44 fl_S_27 rfl (sf_1 hF) (ff_0 hF) ?_
  refine s_aload_n 0 d_S_act_47 rfl rfl ?_
  refine s_getF (v := σ.1 1 3) d_S_act_48 fl_S_31 rfl (sf_1 hF) rfl ?_
  refine s_aload_n 0 d_S_act_51 rfl rfl ?_
  refine s_getF (v := σ.1 1 1) d_S_act_52 fl_S_23 rfl (sf_1 hF) rfl ?_
  obtain ⟨g1, h⟩ := h
  obtain ⟨g2, h⟩ := h
  refine s_aastore (ci := 4) (N := 3) (by decide) d_S_act_55 ⟨_, sf_9 hF, g1.1, g1.2, by have := g1.2; omega⟩ g2 ?_
  refine s_aload_n 0 d_S_act_56 rfl rfl ?_
  refine s_dup d_S_act_57 (Nat.ne_of_beq_eq_false rfl) ?_
  refine s_getF (v := σ.1 1 3) d_S_act_58 fl_S_31 rfl (sf_1 (hF.wa (a := 9) (by decide))) rfl ?_
  refine s_iconst d_S_act_61 ?_
  refine s_iadd d_S_act_62 ?_
  refine s_putf 3 rfl d_S_act_63 fl_S_31 (fun C T h => by cases h; exact Or.inl rfl) rfl (Or.inl rfl) (fun h => nomatch h) (sf_1 (hF.wa (a := 9) (by decide))) ?_
  refine s_aload_n 0 d_S_act_66 rfl rfl ?_
  refine s_aload_n 1 d_S_act_67 rfl rfl ?_
  refine s_putf 1 rfl d_S_act_68 fl_S_23 (fun C T h => by cases h; exact Or.inl rfl) rfl (Or.inr (Or.inr (Or.inr (Or.inl ⟨_, rfl⟩)))) (fun h => nomatch h) (sf_1 ((hF.wa (a := 9) (by decide)).wf (a := 1) (k := 3) (by decide))) ?_
  exact s_return d_S_act_71 rfl h
theorem d_S_turn_0 : decode m_S_turn.2.1 0 = .ok (.aload_n 0, 1) := by decide +kernel
theorem d_S_turn_1 : decode m_S_turn.2.1 1 = .ok (.iload_n 1, 1) := by decide +kernel
theorem d_S_turn_2 : decode m_S_turn.2.1 2 = .ok (.iload_n 2, 1) := by decide +kernel
theorem d_S_turn_3 : decode m_S_turn.2.1 3 = .ok (.invokevirtual 99, 3) := by decide +kernel
theorem d_S_turn_6 : decode m_S_turn.2.1 6 = .ok (.astore_n 3, 1) := by decide +kernel
theorem d_S_turn_7 : decode m_S_turn.2.1 7 = .ok (.aload_n 3, 1) := by decide +kernel
theorem d_S_turn_8 : decode m_S_turn.2.1 8 = .ok (.ifnull 14, 3) := by decide +kernel
theorem d_S_turn_11 : decode m_S_turn.2.1 11 = .ok (.aload_n 3, 1) := by decide +kernel
theorem d_S_turn_12 : decode m_S_turn.2.1 12 = .ok (.iconst 0, 1) := by decide +kernel
theorem d_S_turn_13 : decode m_S_turn.2.1 13 = .ok (.invokevirtual 113, 3) := by decide +kernel
theorem d_S_turn_16 : decode m_S_turn.2.1 16 = .ok (.invokestatic 141, 3) := by decide +kernel
theorem d_S_turn_19 : decode m_S_turn.2.1 19 = .ok (.ifCond .ne 5, 3) := by decide +kernel
theorem d_S_turn_22 : decode m_S_turn.2.1 22 = .ok (.iconst 0, 1) := by decide +kernel
theorem d_S_turn_23 : decode m_S_turn.2.1 23 = .ok (.ireturn, 1) := by decide +kernel
theorem d_S_turn_24 : decode m_S_turn.2.1 24 = .ok (.aload_n 0, 1) := by decide +kernel
theorem d_S_turn_25 : decode m_S_turn.2.1 25 = .ok (.getfield 38, 3) := by decide +kernel
theorem d_S_turn_28 : decode m_S_turn.2.1 28 = .ok (.aload_n 3, 1) := by decide +kernel
theorem d_S_turn_29 : decode m_S_turn.2.1 29 = .ok (.invokevirtual 125, 3) := by decide +kernel
theorem d_S_turn_32 : decode m_S_turn.2.1 32 = .ok (.iconst 0, 1) := by decide +kernel
theorem d_S_turn_33 : decode m_S_turn.2.1 33 = .ok (.istore 4, 2) := by decide +kernel
theorem d_S_turn_35 : decode m_S_turn.2.1 35 = .ok (.iload 4, 2) := by decide +kernel
theorem d_S_turn_37 : decode m_S_turn.2.1 37 = .ok (.aload_n 3, 1) := by decide +kernel
theorem d_S_turn_38 : decode m_S_turn.2.1 38 = .ok (.invokevirtual 144, 3) := by decide +kernel
theorem d_S_turn_41 : decode m_S_turn.2.1 41 = .ok (.if_icmp .ge 58, 3) := by decide +kernel
theorem d_S_turn_44 : decode m_S_turn.2.1 44 = .ok (.aload_n 3, 1) := by decide +kernel
theorem d_S_turn_45 : decode m_S_turn.2.1 45 = .ok (.iload 4, 2) := by decide +kernel
theorem d_S_turn_47 : decode m_S_turn.2.1 47 = .ok (.invokevirtual 113, 3) := by decide +kernel
theorem d_S_turn_50 : decode m_S_turn.2.1 50 = .ok (.istore 5, 2) := by decide +kernel
theorem d_S_turn_52 : decode m_S_turn.2.1 52 = .ok (.iload 5, 2) := by decide +kernel
theorem d_S_turn_54 : decode m_S_turn.2.1 54 = .ok (.invokestatic 141, 3) := by decide +kernel
theorem d_S_turn_57 : decode m_S_turn.2.1 57 = .ok (.ifCond .eq 36, 3) := by decide +kernel
theorem d_S_turn_60 : decode m_S_turn.2.1 60 = .ok (.aload_n 3, 1) := by decide +kernel
theorem d_S_turn_61 : decode m_S_turn.2.1 61 = .ok (.iload 4, 2) := by decide +kernel
theorem d_S_turn_63 : decode m_S_turn.2.1 63 = .ok (.invokevirtual 148, 3) := by decide +kernel
theorem d_S_turn_66 : decode m_S_turn.2.1 66 = .ok (.iconst (-1), 1) := by decide +kernel
theorem d_S_turn_67 : decode m_S_turn.2.1 67 = .ok (.if_icmp .ne 26, 3) := by decide +kernel
theorem d_S_turn_70 : decode m_S_turn.2.1 70 = .ok (.aload_n 0, 1) := by decide +kernel
theorem d_S_turn_71 : decode m_S_turn.2.1 71 = .ok (.getfield 38, 3) := by decide +kernel
theorem d_S_turn_74 : decode m_S_turn.2.1 74 = .ok (.iload 4, 2) := by decide +kernel
theorem d_S_turn_76 : decode m_S_turn.2.1 76 = .ok (.iload 5, 2) := by decide +kernel
theorem d_S_turn_78 : decode m_S_turn.2.1 78 = .ok (.bipush 64, 2) := by decide +kernel
theorem d_S_turn_80 : decode m_S_turn.2.1 80 = .ok (.if_icmp .ne 8, 3) := by decide +kernel
theorem d_S_turn_83 : decode m_S_turn.2.1 83 = .ok (.bipush 65, 2) := by decide +kernel
theorem d_S_turn_85 : decode m_S_turn.2.1 85 = .ok (.goto 5, 3) := by decide +kernel
theorem d_S_turn_88 : decode m_S_turn.2.1 88 = .ok (.bipush 64, 2) := by decide +kernel
theorem d_S_turn_90 : decode m_S_turn.2.1 90 = .ok (.invokevirtual 129, 3) := by decide +kernel
theorem d_S_turn_93 : decode m_S_turn.2.1 93 = .ok (.iinc 4 1, 3) := by decide +kernel
theorem d_S_turn_96 : decode m_S_turn.2.1 96 = .ok (.goto (-61), 3) := by decide +kernel
theorem d_S_turn_99 : decode m_S_turn.2.1 99 = .ok (.aload_n 0, 1) := by decide +kernel
theorem d_S_turn_100 : decode m_S_turn.2.1 100 = .ok (.iload_n 1, 1) := by decide +kernel
theorem d_S_turn_101 : decode m_S_turn.2.1 101 = .ok (.iload_n 2, 1) := by decide +kernel
theorem d_S_turn_102 : decode m_S_turn.2.1 102 = .ok (.aload_n 0, 1) := by decide +kernel
theorem d_S_turn_103 : decode m_S_turn.2.1 103 = .ok (.getfield 38, 3) := by decide +kernel
theorem d_S_turn_106 : decode m_S_turn.2.1 106 = .ok (.invokevirtual 133, 3) := by decide +kernel
theorem d_S_turn_109 : decode m_S_turn.2.1 109 = .ok (.invokevirtual 137, 3) := by decide +kernel
theorem d_S_turn_112 : decode m_S_turn.2.1 112 = .ok (.ireturn, 1) := by decide +kernel
theorem b_S_turn_0 {E : EV} {d : Nat} {Q : Option AV → St → Prop} {σ : St} (x1 x2 : Int) (hF : Fix σ) (h : (WMr E m_S_squareAt d [aP 1, aI x1, aI x2] σ (fun v1 σ1 => Fix σ1 ∧ ((v1 = 0 → Q (some (aI 0)) σ1) ∧ (¬ v1 = 0 → (sh σ1 v1 = some (7, 1)) ∧ (WMi E m_Sq_symbol d [aP v1, aI 0] σ1 (fun v2 σ2 => Fix σ2 ∧ (WMi E m_S_isJoint d [aI v2] σ2 (fun v4 σ4 => Fix σ4 ∧ (rI v4) ∧ ((¬ v4 = 0 → (WMv E m_Draft_take d [aP 10, aP v1] σ4 (fun σ6 => WP E m_S_turn (d + 1) 35 [(0, aP 1), (1, aI x1), (2, aI x2), (3, aP v1), (4, aI 0)] [] σ6 Q))) ∧ (v4 = 0 → Q (some (aI 0)) σ4))))))))))) : WP E m_S_turn (d + 1) 0 [(0, aP 1), (1, aI x1), (2, aI x2)] [] σ Q := by
  refine s_aload_n 0 d_S_turn_0 rfl rfl ?_
  refine s_iload_n 1 d_S_turn_1 rfl rfl ?_
  refine s_iload_n 2 d_S_turn_2 rfl rfl ?_
  refine s_callV (as := [aI x1, aI x2]) (ci := 9) d_S_turn_3 ok_S_squareAt lk_S_99 io_S_squareAt so_S_squareAt (by decide) rfl rfl rfl (Nat.le_of_ble_eq_true rfl) rfl (sf_1 hF) (WM.mono h ?_)
  rintro _ σ1 ⟨v1, rfl, hp, h⟩
  obtain ⟨hF1, h⟩ := h
  show WP E m_S_turn (d + 1) 6 [(0, aP 1), (1, aI x1), (2, aI x2)] [aP v1] σ1 Q
  refine s_astore_n d_S_turn_6 rfl (by decide) rfl ?_
  refine s_aload_n 0 d_S_turn_7 rfl rfl ?_
  refine s_ifnull d_S_turn_8 rfl (fun c => ?_) (fun c => ?_)
  · have h := h.1 c
    refine s_iconst d_S_turn_22 ?_
    exact s_zreturn d_S_turn_23 rfl (by decide) h
  · have h := h.2 c
    refine s_aload_n 0 d_S_turn_11 rfl rfl ?_
    refine s_iconst d_S_turn_12 ?_
    obtain ⟨g3, h⟩ := h
    refine s_callV (as := [aI 0]) (ci := 7) d_S_turn_13 ok_Sq_symbol lk_S_113 io_Sq_symbol so_Sq_symbol (by decide) rfl rfl rfl (Nat.le_of_ble_eq_true rfl) rfl g3 (WM.mono h ?_)
    rintro _ σ2 ⟨v2, rfl, hp, h⟩
    obtain ⟨hF3, h⟩ := h
    show WP E m_S_turn (d + 1) 16 [(3, aP v1), (0, aP 1), (1, aI x1), (2, aI x2)] [aI v2] σ2 Q
    refine s_callS (as := [aI v2]) d_S_turn_16 ok_S_isJoint lk_S_141 to_S_isJoint rfl (Nat.le_of_ble_eq_true rfl) rfl (WM.mono h ?_)
    rintro _ σ4 ⟨v4, rfl, hp, h⟩
    obtain ⟨hF4, h⟩ := h
    show WP E m_S_turn (d + 1) 19 [(3, aP v1), (0, aP 1), (1, aI x1), (2, aI x2)] [aI v4] σ4 Q
    obtain ⟨g5, h⟩ := h
    refine s_if_ne d_S_turn_19 rfl g5 (fun c => ?_) (fun c => ?_)
    · have h := h.1 c
      refine s_aload_n 1 d_S_turn_24 rfl rfl ?_
      refine s_getF (v := 10) d_S_turn_25 fl_S_38 rfl (sf_1 hF4) (ff_1 hF4) ?_
      refine s_aload_n 0 d_S_turn_28 rfl rfl ?_
      refine s_callV (as := [aP v1]) (ci := 1) d_S_turn_29 ok_Draft_take lk_S_125 io_Draft_take so_Draft_take (by decide) rfl rfl rfl (Nat.le_of_ble_eq_true rfl) rfl (sf_10 hF4) (WM.mono h ?_)
      rintro _ σ6 ⟨rfl, hp, h⟩
      show WP E m_S_turn (d + 1) 32 [(3, aP v1), (0, aP 1), (1, aI x1), (2, aI x2)] [] σ6 Q
      refine s_iconst d_S_turn_32 ?_
      refine s_istore d_S_turn_33 (by decide) rfl ?_
      refine wp_drop [2, 3, 4, 1, 0] rfl ?_
      exact h
    · have h := h.2 c
      refine s_iconst d_S_turn_22 ?_
      exact s_zreturn d_S_turn_23 rfl (by decide) h
theorem e_S_turn {E : EV} {d : Nat} {Q : Option AV → St → Prop} {σ : St} (x1 x2 : Int) (hF : Fix σ) (h : (WMr E m_S_squareAt d [aP 1, aI x1, aI x2] σ (fun v1 σ1 => Fix σ1 ∧ ((v1 = 0 → Q (some (aI 0)) σ1) ∧ (¬ v1 = 0 → (sh σ1 v1 = some (7, 1)) ∧ (WMi E m_Sq_symbol d [aP v1, aI 0] σ1 (fun v2 σ2 => Fix σ2 ∧ (WMi E m_S_isJoint d [aI v2] σ2 (fun v4 σ4 => Fix σ4 ∧ (rI v4) ∧ ((¬ v4 = 0 → (WMv E m_Draft_take d [aP 10, aP v1] σ4 (fun σ6 => WP E m_S_turn (d + 1) 35 [(0, aP 1), (1, aI x1), (2, aI x2), (3, aP v1), (4, aI 0)] [] σ6 Q))) ∧ (v4 = 0 → Q (some (aI 0)) σ4))))))))))) : WM E m_S_turn (d + 1) [aP 1, aI x1, aI x2] σ Q := s_meth (by decide) (Nat.le_of_ble_eq_true rfl) rfl (b_S_turn_0 x1 x2 hF h)
theorem b_S_turn_35 {E : EV} {d : Nat} {Q : Option AV → St → Prop} {σ : St} (x1 x2 x3 x4 : Int) (hF : Fix σ) (h : (sh σ x3 = some (7, 1)) ∧ (WMi E m_Sq_length d [aP x3] σ (fun v1 σ1 => Fix σ1 ∧ (rI x4) ∧ (rI v1) ∧ ((v1 ≤ x4 → (WMr E m_Draft_made d [aP 10] σ1 (fun v5 σ5 => Fix σ5 ∧ (WMi E m_S_become d [aP 1, aI x1, aI x2, aP v5] σ5 (fun v6 σ6 => (v6 = 0 ∨ v6 = 1) ∧ Q (some (aI v6)) σ6))))) ∧ (¬ v1 ≤ x4 → (sh σ1 x3 = some (7, 1)) ∧ (WMi E m_Sq_symbol d [aP x3, aI x4] σ1 (fun v8 σ8 => Fix σ8 ∧ (WMi E m_S_isJoint d [aI v8] σ8 (fun v10 σ10 => Fix σ10 ∧ (rI v10) ∧ ((v10 = 0 → WP E m_S_turn (d + 1) 93 [(0, aP 1), (1, aI x1), (2, aI x2), (3, aP x3), (4, aI x4)] [] σ10 Q) ∧ (¬ v10 = 0 → (sh σ10 x3 = some (7, 1)) ∧ (WMi E m_Sq_holderOf d [aP x3, aI x4] σ10 (fun v12 σ12 => Fix σ12 ∧ (rI v12) ∧ ((¬ v12 = (-1) → WP E m_S_turn (d + 1) 93 [(0, aP 1), (1, aI x1), (2, aI x2), (3, aP x3), (4, aI x4)] [] σ12 Q) ∧ (v12 = (-1) → (rI v8) ∧ ((¬ v8 = 64 → WP E m_S_turn (d + 1) 90 [(0, aP 1), (1, aI x1), (2, aI x2), (3, aP x3), (4, aI x4)] [aI 64, aI x4, aP 10] σ12 Q) ∧ (v8 = 64 → WP E m_S_turn (d + 1) 90 [(0, aP 1), (1, aI x1), (2, aI x2), (3, aP x3), (4, aI x4)] [aI 65, aI x4, aP 10] σ12 Q))))))))))))))))) : WP E m_S_turn (d + 1) 35 [(0, aP 1), (1, aI x1), (2, aI x2), (3, aP x3), (4, aI x4)] [] σ Q := by
  refine s_iload 4 d_S_turn_35 rfl ?_
  refine s_aload_n 3 d_S_turn_37 rfl rfl ?_
  obtain ⟨g2, h⟩ := h
  refine s_callV (as := []) (ci := 7) d_S_turn_38 ok_Sq_length lk_S_144 io_Sq_length so_Sq_length (by decide) rfl rfl rfl (Nat.le_of_ble_eq_true rfl) rfl g2 (WM.mono h ?_)
  rintro _ σ1 ⟨v1, rfl, hp, h⟩
  obtain ⟨hF2, h⟩ := h
  show WP E m_S_turn (d + 1) 41 [(0, aP 1), (1, aI x1), (2, aI x2), (3, aP x3), (4, aI x4)] [aI v1, aI x4] σ1 Q
  obtain ⟨g3, h⟩ := h
  obtain ⟨g4, h⟩ := h
  refine s_icmp_ge d_S_turn_41 rfl g3 g4 (fun c => ?_) (fun c => ?_)
  · have h := h.1 c
    refine s_aload_n 0 d_S_turn_99 rfl rfl ?_
    refine s_iload_n 1 d_S_turn_100 rfl rfl ?_
    refine s_iload_n 2 d_S_turn_101 rfl rfl ?_
    refine s_aload_n 0 d_S_turn_102 rfl rfl ?_
    refine s_getF (v := 10) d_S_turn_103 fl_S_38 rfl (sf_1 hF2) (ff_1 hF2) ?_
    refine s_callV (as := []) (ci := 1) d_S_turn_106 ok_Draft_made lk_S_133 io_Draft_made so_Draft_made (by decide) rfl rfl rfl (Nat.le_of_ble_eq_true rfl) rfl (sf_10 hF2) (WM.mono h ?_)
    rintro _ σ5 ⟨v5, rfl, hp, h⟩
    obtain ⟨hF5, h⟩ := h
    show WP E m_S_turn (d + 1) 109 [(0, aP 1), (1, aI x1), (2, aI x2), (3, aP x3), (4, aI x4)] [aP v5, aI x2, aI x1, aP 1] σ5 Q
    refine s_callV (as := [aI x1, aI x2, aP v5]) (ci := 9) d_S_turn_109 ok_S_become lk_S_137 io_S_become so_S_become (by decide) rfl rfl rfl (Nat.le_of_ble_eq_true rfl) rfl (sf_1 hF5) (WM.mono h ?_)
    rintro _ σ6 ⟨v6, rfl, hp, h⟩
    show WP E m_S_turn (d + 1) 112 [(0, aP 1), (1, aI x1), (2, aI x2), (3, aP x3), (4, aI x4)] [aI v6] σ6 Q
    obtain ⟨g7, h⟩ := h
    exact s_zreturn d_S_turn_112 rfl g7 h
  · have h := h.2 c
    refine s_aload_n 3 d_S_turn_44 rfl rfl ?_
    refine s_iload 4 d_S_turn_45 rfl ?_
    obtain ⟨g9, h⟩ := h
    refine s_callV (as := [aI x4]) (ci := 7) d_S_turn_47 ok_Sq_symbol lk_S_113 io_Sq_symbol so_Sq_symbol (by decide) rfl rfl rfl (Nat.le_of_ble_eq_true rfl) rfl g9 (WM.mono h ?_)
    rintro _ σ8 ⟨v8, rfl, hp, h⟩
    obtain ⟨hF9, h⟩ := h
    show WP E m_S_turn (d + 1) 50 [(0, aP 1), (1, aI x1), (2, aI x2), (3, aP x3), (4, aI x4)] [aI v8] σ8 Q
    refine s_istore d_S_turn_50 (by decide) rfl ?_
    refine s_iload 0 d_S_turn_52 rfl ?_
    refine s_callS (as := [aI v8]) d_S_turn_54 ok_S_isJoint lk_S_141 to_S_isJoint rfl (Nat.le_of_ble_eq_true rfl) rfl (WM.mono h ?_)
    rintro _ σ10 ⟨v10, rfl, hp, h⟩
    obtain ⟨hF10, h⟩ := h
    show WP E m_S_turn (d + 1) 57 [(5, aI v8), (0, aP 1), (1, aI x1), (2, aI x2), (3, aP x3), (4, aI x4)] [aI v10] σ10 Q
    obtain ⟨g11, h⟩ := h
    refine s_if_eq d_S_turn_57 rfl g11 (fun c => ?_) (fun c => ?_)
    · have h := h.1 c
      refine wp_drop [1, 2, 3, 4, 5] rfl ?_
      exact h
    · have h := h.2 c
      refine s_aload_n 4 d_S_turn_60 rfl rfl ?_
      refine s_iload 5 d_S_turn_61 rfl ?_
      obtain ⟨g13, h⟩ := h
      refine s_callV (as := [aI x4]) (ci := 7) d_S_turn_63 ok_Sq_holderOf lk_S_148 io_Sq_holderOf so_Sq_holderOf (by decide) rfl rfl rfl (Nat.le_of_ble_eq_true rfl) rfl g13 (WM.mono h ?_)
      rintro _ σ12 ⟨v12, rfl, hp, h⟩
      obtain ⟨hF13, h⟩ := h
      show WP E m_S_turn (d + 1) 66 [(5, aI v8), (0, aP 1), (1, aI x1), (2, aI x2), (3, aP x3), (4, aI x4)] [aI v12] σ12 Q
      refine s_iconst d_S_turn_66 ?_
      obtain ⟨g14, h⟩ := h
      refine s_icmp_ne d_S_turn_67 rfl g14 (by decide) (fun c => ?_) (fun c => ?_)
      · have h := h.1 c
        refine wp_drop [1, 2, 3, 4, 5] rfl ?_
        exact h
      · have h := h.2 c
        refine s_aload_n 1 d_S_turn_70 rfl rfl ?_
        refine s_getF (v := 10) d_S_turn_71 fl_S_38 rfl (sf_1 hF13) (ff_1 hF13) ?_
        refine s_iload 5 d_S_turn_74 rfl ?_
        refine s_iload 0 d_S_turn_76 rfl ?_
        refine s_bipush d_S_turn_78 (by decide) ?_
        obtain ⟨g15, h⟩ := h
        refine s_icmp_ne d_S_turn_80 rfl g15 (by decide) (fun c => ?_) (fun c => ?_)
        · have h := h.1 c
          refine s_bipush d_S_turn_88 (by decide) ?_
          refine wp_drop [1, 2, 3, 4, 5] rfl ?_
          exact h
        · have h := h.2 c
          refine s_bipush d_S_turn_83 (by decide) ?_
          refine s_goto d_S_turn_85 rfl ?_
          refine wp_drop [1, 2, 3, 4, 5] rfl ?_
          exact h
theorem b_S_turn_90 {E : EV} {d : Nat} {Q : Option AV → St → Prop} {σ : St} (x1 x2 x3 x4 s0 s1 s2 : Int) (h : (sh σ s0 = some (1, 2)) ∧ (WMv E m_Draft_change d [aP s0, aI s1, aI s2] σ (fun σ1 => WP E m_S_turn (d + 1) 93 [(0, aP 1), (1, aI x1), (2, aI x2), (3, aP x3), (4, aI x4)] [] σ1 Q))) : WP E m_S_turn (d + 1) 90 [(0, aP 1), (1, aI x1), (2, aI x2), (3, aP x3), (4, aI x4)] [aI s2, aI s1, aP s0] σ Q := by
  obtain ⟨g2, h⟩ := h
  refine s_callV (as := [aI s1, aI s2]) (ci := 1) d_S_turn_90 ok_Draft_change lk_S_129 io_Draft_change so_Draft_change (by decide) rfl rfl rfl (Nat.le_of_ble_eq_true rfl) rfl g2 (WM.mono h ?_)
  rintro _ σ1 ⟨rfl, hp, h⟩
  show WP E m_S_turn (d + 1) 93 [(0, aP 1), (1, aI x1), (2, aI x2), (3, aP x3), (4, aI x4)] [] σ1 Q
  exact h
theorem b_S_turn_93 {E : EV} {d : Nat} {Q : Option AV → St → Prop} {σ : St} (x1 x2 x3 x4 : Int) (h : WP E m_S_turn (d + 1) 35 [(0, aP 1), (1, aI x1), (2, aI x2), (3, aP x3), (4, aI (x4 + 1))] [] σ Q) : WP E m_S_turn (d + 1) 93 [(0, aP 1), (1, aI x1), (2, aI x2), (3, aP x3), (4, aI x4)] [] σ Q := by
  refine s_iinc 4 d_S_turn_93 rfl (by decide) rfl ?_
  refine s_goto d_S_turn_96 rfl ?_
  refine wp_drop [1, 2, 3, 4, 0] rfl ?_
  exact h
theorem d_S_join_0 : decode m_S_join.2.1 0 = .ok (.aload_n 0, 1) := by decide +kernel
theorem d_S_join_1 : decode m_S_join.2.1 1 = .ok (.aload_n 0, 1) := by decide +kernel
theorem d_S_join_2 : decode m_S_join.2.1 2 = .ok (.iload_n 1, 1) := by decide +kernel
theorem d_S_join_3 : decode m_S_join.2.1 3 = .ok (.iload_n 2, 1) := by decide +kernel
theorem d_S_join_4 : decode m_S_join.2.1 4 = .ok (.invokevirtual 99, 3) := by decide +kernel
theorem d_S_join_7 : decode m_S_join.2.1 7 = .ok (.aload_n 0, 1) := by decide +kernel
theorem d_S_join_8 : decode m_S_join.2.1 8 = .ok (.iload_n 1, 1) := by decide +kernel
theorem d_S_join_9 : decode m_S_join.2.1 9 = .ok (.iload_n 2, 1) := by decide +kernel
theorem d_S_join_10 : decode m_S_join.2.1 10 = .ok (.invokevirtual 151, 3) := by decide +kernel
theorem d_S_join_13 : decode m_S_join.2.1 13 = .ok (.invokevirtual 154, 3) := by decide +kernel
theorem d_S_join_16 : decode m_S_join.2.1 16 = .ok (.astore_n 3, 1) := by decide +kernel
theorem d_S_join_17 : decode m_S_join.2.1 17 = .ok (.aload_n 0, 1) := by decide +kernel
theorem d_S_join_18 : decode m_S_join.2.1 18 = .ok (.iload_n 1, 1) := by decide +kernel
theorem d_S_join_19 : decode m_S_join.2.1 19 = .ok (.invokevirtual 158, 3) := by decide +kernel
theorem d_S_join_22 : decode m_S_join.2.1 22 = .ok (.astore 4, 2) := by decide +kernel
theorem d_S_join_24 : decode m_S_join.2.1 24 = .ok (.aload_n 3, 1) := by decide +kernel
theorem d_S_join_25 : decode m_S_join.2.1 25 = .ok (.ifnull 27, 3) := by decide +kernel
theorem d_S_join_28 : decode m_S_join.2.1 28 = .ok (.aload 4, 2) := by decide +kernel
theorem d_S_join_30 : decode m_S_join.2.1 30 = .ok (.ifnull 22, 3) := by decide +kernel
theorem d_S_join_33 : decode m_S_join.2.1 33 = .ok (.aload_n 0, 1) := by decide +kernel
theorem d_S_join_34 : decode m_S_join.2.1 34 = .ok (.iload_n 1, 1) := by decide +kernel
theorem d_S_join_35 : decode m_S_join.2.1 35 = .ok (.aload 4, 2) := by decide +kernel
theorem d_S_join_37 : decode m_S_join.2.1 37 = .ok (.iload_n 2, 1) := by decide +kernel
theorem d_S_join_38 : decode m_S_join.2.1 38 = .ok (.aload_n 3, 1) := by decide +kernel
theorem d_S_join_39 : decode m_S_join.2.1 39 = .ok (.invokevirtual 162, 3) := by decide +kernel
theorem d_S_join_42 : decode m_S_join.2.1 42 = .ok (.invokevirtual 166, 3) := by decide +kernel
theorem d_S_join_45 : decode m_S_join.2.1 45 = .ok (.ifCond .eq 7, 3) := by decide +kernel
theorem d_S_join_48 : decode m_S_join.2.1 48 = .ok (.iconst 1, 1) := by decide +kernel
theorem d_S_join_49 : decode m_S_join.2.1 49 = .ok (.goto 4, 3) := by decide +kernel
theorem d_S_join_52 : decode m_S_join.2.1 52 = .ok (.iconst 0, 1) := by decide +kernel
theorem d_S_join_53 : decode m_S_join.2.1 53 = .ok (.ireturn, 1) := by decide +kernel
theorem b_S_join_0 {E : EV} {d : Nat} {Q : Option AV → St → Prop} {σ : St} (x1 x2 : Int) (hF : Fix σ) (h : (WMr E m_S_squareAt d [aP 1, aI x1, aI x2] σ (fun v1 σ1 => Fix σ1 ∧ (WMr E m_S_squareBehind d [aP 1, aI x1, aI x2] σ1 (fun v2 σ2 => Fix σ2 ∧ (WMr E m_S_bothJoined d [aP 1, aP v1, aP v2] σ2 (fun v3 σ3 => Fix σ3 ∧ (WMr E m_S_lineAt d [aP 1, aI x1] σ3 (fun v4 σ4 => Fix σ4 ∧ ((v3 = 0 → Q (some (aI 0)) σ4) ∧ (¬ v3 = 0 → ((v4 = 0 → Q (some (aI 0)) σ4) ∧ (¬ v4 = 0 → (sh σ4 v4 = some (3, 2)) ∧ (WMr E m_Line_withoutNext d [aP v4, aI x2, aP v3] σ4 (fun v5 σ5 => Fix σ5 ∧ (WMi E m_S_replaceLine d [aP 1, aI x1, aP v5] σ5 (fun v7 σ7 => (rI v7) ∧ ((v7 = 0 → Q (some (aI 0)) σ7) ∧ (¬ v7 = 0 → Q (some (aI 1)) σ7))))))))))))))))))) : WP E m_S_join (d + 1) 0 [(0, aP 1), (1, aI x1), (2, aI x2)] [] σ Q := by
  refine s_aload_n 0 d_S_join_0 rfl rfl ?_
  refine s_aload_n 0 d_S_join_1 rfl rfl ?_
  refine s_iload_n 1 d_S_join_2 rfl rfl ?_
  refine s_iload_n 2 d_S_join_3 rfl rfl ?_
  refine s_callV (as := [aI x1, aI x2]) (ci := 9) d_S_join_4 ok_S_squareAt lk_S_99 io_S_squareAt so_S_squareAt (by decide) rfl rfl rfl (Nat.le_of_ble_eq_true rfl) rfl (sf_1 hF) (WM.mono h ?_)
  rintro _ σ1 ⟨v1, rfl, hp, h⟩
  obtain ⟨hF1, h⟩ := h
  show WP E m_S_join (d + 1) 7 [(0, aP 1), (1, aI x1), (2, aI x2)] [aP v1, aP 1] σ1 Q
  refine s_aload_n 0 d_S_join_7 rfl rfl ?_
  refine s_iload_n 1 d_S_join_8 rfl rfl ?_
  refine s_iload_n 2 d_S_join_9 rfl rfl ?_
  refine s_callV (as := [aI x1, aI x2]) (ci := 9) d_S_join_10 ok_S_squareBehind lk_S_151 io_S_squareBehind so_S_squareBehind (by decide) rfl rfl rfl (Nat.le_of_ble_eq_true rfl) rfl (sf_1 hF1) (WM.mono h ?_)
  rintro _ σ2 ⟨v2, rfl, hp, h⟩
  obtain ⟨hF2, h⟩ := h
  show WP E m_S_join (d + 1) 13 [(0, aP 1), (1, aI x1), (2, aI x2)] [aP v2, aP v1, aP 1] σ2 Q
  refine s_callV (as := [aP v1, aP v2]) (ci := 9) d_S_join_13 ok_S_bothJoined lk_S_154 io_S_bothJoined so_S_bothJoined (by decide) rfl rfl rfl (Nat.le_of_ble_eq_true rfl) rfl (sf_1 hF2) (WM.mono h ?_)
  rintro _ σ3 ⟨v3, rfl, hp, h⟩
  obtain ⟨hF3, h⟩ := h
  show WP E m_S_join (d + 1) 16 [(0, aP 1), (1, aI x1), (2, aI x2)] [aP v3] σ3 Q
  refine s_astore_n d_S_join_16 rfl (by decide) rfl ?_
  refine s_aload_n 1 d_S_join_17 rfl rfl ?_
  refine s_iload_n 2 d_S_join_18 rfl rfl ?_
  refine s_callV (as := [aI x1]) (ci := 9) d_S_join_19 ok_S_lineAt lk_S_158 io_S_lineAt so_S_lineAt (by decide) rfl rfl rfl (Nat.le_of_ble_eq_true rfl) rfl (sf_1 hF3) (WM.mono h ?_)
  rintro _ σ4 ⟨v4, rfl, hp, h⟩
  obtain ⟨hF4, h⟩ := h
  show WP E m_S_join (d + 1) 22 [(3, aP v3), (0, aP 1), (1, aI x1), (2, aI x2)] [aP v4] σ4 Q
  refine s_astore d_S_join_22 (by decide) rfl ?_
  refine s_aload_n 1 d_S_join_24 rfl rfl ?_
  refine s_ifnull d_S_join_25 rfl (fun c => ?_) (fun c => ?_)
  · have h := h.1 c
    refine s_iconst d_S_join_52 ?_
    exact s_zreturn d_S_join_53 rfl (by decide) h
  · have h := h.2 c
    refine s_aload 0 d_S_join_28 rfl ?_
    refine s_ifnull d_S_join_30 rfl (fun c => ?_) (fun c => ?_)
    · have h := h.1 c
      refine s_iconst d_S_join_52 ?_
      exact s_zreturn d_S_join_53 rfl (by decide) h
    · have h := h.2 c
      refine s_aload_n 2 d_S_join_33 rfl rfl ?_
      refine s_iload_n 3 d_S_join_34 rfl rfl ?_
      refine s_aload 0 d_S_join_35 rfl ?_
      refine s_iload_n 4 d_S_join_37 rfl rfl ?_
      refine s_aload_n 1 d_S_join_38 rfl rfl ?_
      obtain ⟨g6, h⟩ := h
      refine s_callV (as := [aI x2, aP v3]) (ci := 3) d_S_join_39 ok_Line_withoutNext lk_S_162 io_Line_withoutNext so_Line_withoutNext (by decide) rfl rfl rfl (Nat.le_of_ble_eq_true rfl) rfl g6 (WM.mono h ?_)
      rintro _ σ5 ⟨v5, rfl, hp, h⟩
      obtain ⟨hF6, h⟩ := h
      show WP E m_S_join (d + 1) 42 [(4, aP v4), (3, aP v3), (0, aP 1), (1, aI x1), (2, aI x2)] [aP v5, aI x1, aP 1] σ5 Q
      refine s_callV (as := [aI x1, aP v5]) (ci := 9) d_S_join_42 ok_S_replaceLine lk_S_166 io_S_replaceLine so_S_replaceLine (by decide) rfl rfl rfl (Nat.le_of_ble_eq_true rfl) rfl (sf_1 hF6) (WM.mono h ?_)
      rintro _ σ7 ⟨v7, rfl, hp, h⟩
      show WP E m_S_join (d + 1) 45 [(4, aP v4), (3, aP v3), (0, aP 1), (1, aI x1), (2, aI x2)] [aI v7] σ7 Q
      obtain ⟨g8, h⟩ := h
      refine s_if_eq d_S_join_45 rfl g8 (fun c => ?_) (fun c => ?_)
      · have h := h.1 c
        refine s_iconst d_S_join_52 ?_
        exact s_zreturn d_S_join_53 rfl (by decide) h
      · have h := h.2 c
        refine s_iconst d_S_join_48 ?_
        refine s_goto d_S_join_49 rfl ?_
        exact s_zreturn d_S_join_53 rfl (by decide) h
theorem e_S_join {E : EV} {d : Nat} {Q : Option AV → St → Prop} {σ : St} (x1 x2 : Int) (hF : Fix σ) (h : (WMr E m_S_squareAt d [aP 1, aI x1, aI x2] σ (fun v1 σ1 => Fix σ1 ∧ (WMr E m_S_squareBehind d [aP 1, aI x1, aI x2] σ1 (fun v2 σ2 => Fix σ2 ∧ (WMr E m_S_bothJoined d [aP 1, aP v1, aP v2] σ2 (fun v3 σ3 => Fix σ3 ∧ (WMr E m_S_lineAt d [aP 1, aI x1] σ3 (fun v4 σ4 => Fix σ4 ∧ ((v3 = 0 → Q (some (aI 0)) σ4) ∧ (¬ v3 = 0 → ((v4 = 0 → Q (some (aI 0)) σ4) ∧ (¬ v4 = 0 → (sh σ4 v4 = some (3, 2)) ∧ (WMr E m_Line_withoutNext d [aP v4, aI x2, aP v3] σ4 (fun v5 σ5 => Fix σ5 ∧ (WMi E m_S_replaceLine d [aP 1, aI x1, aP v5] σ5 (fun v7 σ7 => (rI v7) ∧ ((v7 = 0 → Q (some (aI 0)) σ7) ∧ (¬ v7 = 0 → Q (some (aI 1)) σ7))))))))))))))))))) : WM E m_S_join (d + 1) [aP 1, aI x1, aI x2] σ Q := s_meth (by decide) (Nat.le_of_ble_eq_true rfl) rfl (b_S_join_0 x1 x2 hF h)
theorem d_S_squareBehind_0 : decode m_S_squareBehind.2.1 0 = .ok (.aload_n 0, 1) := by decide +kernel
theorem d_S_squareBehind_1 : decode m_S_squareBehind.2.1 1 = .ok (.getfield 23, 3) := by decide +kernel
theorem d_S_squareBehind_4 : decode m_S_squareBehind.2.1 4 = .ok (.iload_n 1, 1) := by decide +kernel
theorem d_S_squareBehind_5 : decode m_S_squareBehind.2.1 5 = .ok (.invokevirtual 352, 3) := by decide +kernel
theorem d_S_squareBehind_8 : decode m_S_squareBehind.2.1 8 = .ok (.astore_n 3, 1) := by decide +kernel
theorem d_S_squareBehind_9 : decode m_S_squareBehind.2.1 9 = .ok (.aload_n 3, 1) := by decide +kernel
theorem d_S_squareBehind_10 : decode m_S_squareBehind.2.1 10 = .ok (.ifnull 11, 3) := by decide +kernel
theorem d_S_squareBehind_13 : decode m_S_squareBehind.2.1 13 = .ok (.aload_n 3, 1) := by decide +kernel
theorem d_S_squareBehind_14 : decode m_S_squareBehind.2.1 14 = .ok (.iload_n 2, 1) := by decide +kernel
theorem d_S_squareBehind_15 : decode m_S_squareBehind.2.1 15 = .ok (.invokevirtual 212, 3) := by decide +kernel
theorem d_S_squareBehind_18 : decode m_S_squareBehind.2.1 18 = .ok (.ifCond .ne 7, 3) := by decide +kernel
theorem d_S_squareBehind_21 : decode m_S_squareBehind.2.1 21 = .ok (.aconst_null, 1) := by decide +kernel
theorem d_S_squareBehind_22 : decode m_S_squareBehind.2.1 22 = .ok (.goto 10, 3) := by decide +kernel
theorem d_S_squareBehind_25 : decode m_S_squareBehind.2.1 25 = .ok (.aload_n 3, 1) := by decide +kernel
theorem d_S_squareBehind_26 : decode m_S_squareBehind.2.1 26 = .ok (.iload_n 2, 1) := by decide +kernel
theorem d_S_squareBehind_27 : decode m_S_squareBehind.2.1 27 = .ok (.iconst 1, 1) := by decide +kernel
theorem d_S_squareBehind_28 : decode m_S_squareBehind.2.1 28 = .ok (.iadd, 1) := by decide +kernel
theorem d_S_squareBehind_29 : decode m_S_squareBehind.2.1 29 = .ok (.invokevirtual 319, 3) := by decide +kernel
theorem d_S_squareBehind_32 : decode m_S_squareBehind.2.1 32 = .ok (.areturn, 1) := by decide +kernel
theorem b_S_squareBehind_0 {E : EV} {d : Nat} {Q : Option AV → St → Prop} {σ : St} (x1 x2 : Int) (hF : Fix σ) (h : (sh σ (σ.1 1 1) = some (4, 3)) ∧ (WMr E m_Moment_get d [aP (σ.1 1 1), aI x1] σ (fun v1 σ1 => ((v1 = 0 → Q (some (aP 0)) σ1) ∧ (¬ v1 = 0 → (sh σ1 v1 = some (3, 2)) ∧ (WMi E m_Line_has d [aP v1, aI x2] σ1 (fun v3 σ3 => (rI v3) ∧ ((¬ v3 = 0 → (sh σ3 v1 = some (3, 2)) ∧ (WMr E m_Line_get d [aP v1, aI (x2 + 1)] σ3 (fun v6 σ6 => Q (some (aP v6)) σ6))) ∧ (v3 = 0 → Q (some (aP 0)) σ3))))))))) : WP E m_S_squareBehind (d + 1) 0 [(0, aP 1), (1, aI x1), (2, aI x2)] [] σ Q := by
  refine s_aload_n 0 d_S_squareBehind_0 rfl rfl ?_
  refine s_getF (v := σ.1 1 1) d_S_squareBehind_1 fl_S_23 rfl (sf_1 hF) rfl ?_
  refine s_iload_n 1 d_S_squareBehind_4 rfl rfl ?_
  obtain ⟨g2, h⟩ := h
  refine s_callV (as := [aI x1]) (ci := 4) d_S_squareBehind_5 ok_Moment_get lk_S_352 io_Moment_get so_Moment_get (by decide) rfl rfl rfl (Nat.le_of_ble_eq_true rfl) rfl g2 (WM.mono h ?_)
  rintro _ σ1 ⟨v1, rfl, hp, h⟩
  show WP E m_S_squareBehind (d + 1) 8 [(0, aP 1), (1, aI x1), (2, aI x2)] [aP v1] σ1 Q
  refine s_astore_n d_S_squareBehind_8 rfl (by decide) rfl ?_
  refine s_aload_n 0 d_S_squareBehind_9 rfl rfl ?_
  refine s_ifnull d_S_squareBehind_10 rfl (fun c => ?_) (fun c => ?_)
  · have h := h.1 c
    refine s_null d_S_squareBehind_21 ?_
    refine s_goto d_S_squareBehind_22 rfl ?_
    exact s_areturn d_S_squareBehind_32 rfl (Or.inl ⟨_, rfl⟩) h
  · have h := h.2 c
    refine s_aload_n 0 d_S_squareBehind_13 rfl rfl ?_
    refine s_iload_n 3 d_S_squareBehind_14 rfl rfl ?_
    obtain ⟨g4, h⟩ := h
    refine s_callV (as := [aI x2]) (ci := 3) d_S_squareBehind_15 ok_Line_has lk_S_212 io_Line_has so_Line_has (by decide) rfl rfl rfl (Nat.le_of_ble_eq_true rfl) rfl g4 (WM.mono h ?_)
    rintro _ σ3 ⟨v3, rfl, hp, h⟩
    show WP E m_S_squareBehind (d + 1) 18 [(3, aP v1), (0, aP 1), (1, aI x1), (2, aI x2)] [aI v3] σ3 Q
    obtain ⟨g5, h⟩ := h
    refine s_if_ne d_S_squareBehind_18 rfl g5 (fun c => ?_) (fun c => ?_)
    · have h := h.1 c
      refine s_aload_n 0 d_S_squareBehind_25 rfl rfl ?_
      refine s_iload_n 3 d_S_squareBehind_26 rfl rfl ?_
      refine s_iconst d_S_squareBehind_27 ?_
      refine s_iadd d_S_squareBehind_28 ?_
      obtain ⟨g7, h⟩ := h
      refine s_callV (as := [aI (x2 + 1)]) (ci := 3) d_S_squareBehind_29 ok_Line_get lk_S_319 io_Line_get so_Line_get (by decide) rfl rfl rfl (Nat.le_of_ble_eq_true rfl) rfl g7 (WM.mono h ?_)
      rintro _ σ6 ⟨v6, rfl, hp, h⟩
      show WP E m_S_squareBehind (d + 1) 32 [(3, aP v1), (0, aP 1), (1, aI x1), (2, aI x2)] [aP v6] σ6 Q
      exact s_areturn d_S_squareBehind_32 rfl (Or.inl ⟨_, rfl⟩) h
    · have h := h.2 c
      refine s_null d_S_squareBehind_21 ?_
      refine s_goto d_S_squareBehind_22 rfl ?_
      exact s_areturn d_S_squareBehind_32 rfl (Or.inl ⟨_, rfl⟩) h
theorem e_S_squareBehind {E : EV} {d : Nat} {Q : Option AV → St → Prop} {σ : St} (x1 x2 : Int) (hF : Fix σ) (h : (sh σ (σ.1 1 1) = some (4, 3)) ∧ (WMr E m_Moment_get d [aP (σ.1 1 1), aI x1] σ (fun v1 σ1 => ((v1 = 0 → Q (some (aP 0)) σ1) ∧ (¬ v1 = 0 → (sh σ1 v1 = some (3, 2)) ∧ (WMi E m_Line_has d [aP v1, aI x2] σ1 (fun v3 σ3 => (rI v3) ∧ ((¬ v3 = 0 → (sh σ3 v1 = some (3, 2)) ∧ (WMr E m_Line_get d [aP v1, aI (x2 + 1)] σ3 (fun v6 σ6 => Q (some (aP v6)) σ6))) ∧ (v3 = 0 → Q (some (aP 0)) σ3))))))))) : WM E m_S_squareBehind (d + 1) [aP 1, aI x1, aI x2] σ Q := s_meth (by decide) (Nat.le_of_ble_eq_true rfl) rfl (b_S_squareBehind_0 x1 x2 hF h)
theorem d_S_bothJoined_0 : decode m_S_bothJoined.2.1 0 = .ok (.aload_n 1, 1) := by decide +kernel
theorem d_S_bothJoined_1 : decode m_S_bothJoined.2.1 1 = .ok (.ifnull 21, 3) := by decide +kernel
theorem d_S_bothJoined_4 : decode m_S_bothJoined.2.1 4 = .ok (.aload_n 2, 1) := by decide +kernel
theorem d_S_bothJoined_5 : decode m_S_bothJoined.2.1 5 = .ok (.ifnull 17, 3) := by decide +kernel
theorem d_S_bothJoined_8 : decode m_S_bothJoined.2.1 8 = .ok (.aload_n 1, 1) := by decide +kernel
theorem d_S_bothJoined_9 : decode m_S_bothJoined.2.1 9 = .ok (.invokevirtual 202, 3) := by decide +kernel
theorem d_S_bothJoined_12 : decode m_S_bothJoined.2.1 12 = .ok (.aload_n 2, 1) := by decide +kernel
theorem d_S_bothJoined_13 : decode m_S_bothJoined.2.1 13 = .ok (.invokevirtual 202, 3) := by decide +kernel
theorem d_S_bothJoined_16 : decode m_S_bothJoined.2.1 16 = .ok (.iadd, 1) := by decide +kernel
theorem d_S_bothJoined_17 : decode m_S_bothJoined.2.1 17 = .ok (.bipush 10, 2) := by decide +kernel
theorem d_S_bothJoined_19 : decode m_S_bothJoined.2.1 19 = .ok (.if_icmp .le 5, 3) := by decide +kernel
theorem d_S_bothJoined_22 : decode m_S_bothJoined.2.1 22 = .ok (.aconst_null, 1) := by decide +kernel
theorem d_S_bothJoined_23 : decode m_S_bothJoined.2.1 23 = .ok (.areturn, 1) := by decide +kernel
theorem d_S_bothJoined_24 : decode m_S_bothJoined.2.1 24 = .ok (.aload_n 0, 1) := by decide +kernel
theorem d_S_bothJoined_25 : decode m_S_bothJoined.2.1 25 = .ok (.getfield 38, 3) := by decide +kernel
theorem d_S_bothJoined_28 : decode m_S_bothJoined.2.1 28 = .ok (.invokevirtual 188, 3) := by decide +kernel
theorem d_S_bothJoined_31 : decode m_S_bothJoined.2.1 31 = .ok (.aload_n 0, 1) := by decide +kernel
theorem d_S_bothJoined_32 : decode m_S_bothJoined.2.1 32 = .ok (.getfield 38, 3) := by decide +kernel
theorem d_S_bothJoined_35 : decode m_S_bothJoined.2.1 35 = .ok (.bipush 64, 2) := by decide +kernel
theorem d_S_bothJoined_37 : decode m_S_bothJoined.2.1 37 = .ok (.invokevirtual 195, 3) := by decide +kernel
theorem d_S_bothJoined_40 : decode m_S_bothJoined.2.1 40 = .ok (.aload_n 0, 1) := by decide +kernel
theorem d_S_bothJoined_41 : decode m_S_bothJoined.2.1 41 = .ok (.getfield 38, 3) := by decide +kernel
theorem d_S_bothJoined_44 : decode m_S_bothJoined.2.1 44 = .ok (.aload_n 1, 1) := by decide +kernel
theorem d_S_bothJoined_45 : decode m_S_bothJoined.2.1 45 = .ok (.iconst 0, 1) := by decide +kernel
theorem d_S_bothJoined_46 : decode m_S_bothJoined.2.1 46 = .ok (.aload_n 1, 1) := by decide +kernel
theorem d_S_bothJoined_47 : decode m_S_bothJoined.2.1 47 = .ok (.invokevirtual 144, 3) := by decide +kernel
theorem d_S_bothJoined_50 : decode m_S_bothJoined.2.1 50 = .ok (.invokevirtual 198, 3) := by decide +kernel
theorem d_S_bothJoined_53 : decode m_S_bothJoined.2.1 53 = .ok (.aload_n 0, 1) := by decide +kernel
theorem d_S_bothJoined_54 : decode m_S_bothJoined.2.1 54 = .ok (.getfield 38, 3) := by decide +kernel
theorem d_S_bothJoined_57 : decode m_S_bothJoined.2.1 57 = .ok (.aload_n 2, 1) := by decide +kernel
theorem d_S_bothJoined_58 : decode m_S_bothJoined.2.1 58 = .ok (.iconst 0, 1) := by decide +kernel
theorem d_S_bothJoined_59 : decode m_S_bothJoined.2.1 59 = .ok (.aload_n 2, 1) := by decide +kernel
theorem d_S_bothJoined_60 : decode m_S_bothJoined.2.1 60 = .ok (.invokevirtual 144, 3) := by decide +kernel
theorem d_S_bothJoined_63 : decode m_S_bothJoined.2.1 63 = .ok (.invokevirtual 198, 3) := by decide +kernel
theorem d_S_bothJoined_66 : decode m_S_bothJoined.2.1 66 = .ok (.aload_n 0, 1) := by decide +kernel
theorem d_S_bothJoined_67 : decode m_S_bothJoined.2.1 67 = .ok (.getfield 38, 3) := by decide +kernel
theorem d_S_bothJoined_70 : decode m_S_bothJoined.2.1 70 = .ok (.invokevirtual 361, 3) := by decide +kernel
theorem d_S_bothJoined_73 : decode m_S_bothJoined.2.1 73 = .ok (.aload_n 0, 1) := by decide +kernel
theorem d_S_bothJoined_74 : decode m_S_bothJoined.2.1 74 = .ok (.getfield 38, 3) := by decide +kernel
theorem d_S_bothJoined_77 : decode m_S_bothJoined.2.1 77 = .ok (.invokevirtual 133, 3) := by decide +kernel
theorem d_S_bothJoined_80 : decode m_S_bothJoined.2.1 80 = .ok (.areturn, 1) := by decide +kernel
theorem b_S_bothJoined_0 {E : EV} {d : Nat} {Q : Option AV → St → Prop} {σ : St} (x1 x2 : Int) (hF : Fix σ) (h : ((x1 = 0 → Q (some (aP 0)) σ) ∧ (¬ x1 = 0 → ((x2 = 0 → Q (some (aP 0)) σ) ∧ (¬ x2 = 0 → (sh σ x1 = some (7, 1)) ∧ (WMi E m_Sq_signs d [aP x1] σ (fun v1 σ1 => Fix σ1 ∧ (sh σ1 x2 = some (7, 1)) ∧ (WMi E m_Sq_signs d [aP x2] σ1 (fun v3 σ3 => Fix σ3 ∧ (rI (v1 + v3)) ∧ (((v1 + v3) ≤ 10 → (WMv E m_Draft_clear d [aP 10] σ3 (fun σ6 => Fix σ6 ∧ (WMv E m_Draft_put d [aP 10, aI 64] σ6 (fun σ7 => Fix σ7 ∧ (sh σ7 x1 = some (7, 1)) ∧ (WMi E m_Sq_length d [aP x1] σ7 (fun v8 σ8 => Fix σ8 ∧ (WMv E m_Draft_putAll d [aP 10, aP x1, aI 0, aI v8] σ8 (fun σ10 => Fix σ10 ∧ (sh σ10 x2 = some (7, 1)) ∧ (WMi E m_Sq_length d [aP x2] σ10 (fun v11 σ11 => Fix σ11 ∧ (WMv E m_Draft_putAll d [aP 10, aP x2, aI 0, aI v11] σ11 (fun σ13 => Fix σ13 ∧ (WMv E m_Draft_makeNormal d [aP 10] σ13 (fun σ14 => Fix σ14 ∧ (WMr E m_Draft_made d [aP 10] σ14 (fun v15 σ15 => Q (some (aP v15)) σ15))))))))))))))))) ∧ (¬ (v1 + v3) ≤ 10 → Q (some (aP 0)) σ3))))))))))) : WP E m_S_bothJoined (d + 1) 0 [(0, aP 1), (1, aP x1), (2, aP x2)] [] σ Q := by
  refine s_aload_n 1 d_S_bothJoined_0 rfl rfl ?_
  refine s_ifnull d_S_bothJoined_1 rfl (fun c => ?_) (fun c => ?_)
  · have h := h.1 c
    refine s_null d_S_bothJoined_22 ?_
    exact s_areturn d_S_bothJoined_23 rfl (Or.inl ⟨_, rfl⟩) h
  · have h := h.2 c
    refine s_aload_n 2 d_S_bothJoined_4 rfl rfl ?_
    refine s_ifnull d_S_bothJoined_5 rfl (fun c => ?_) (fun c => ?_)
    · have h := h.1 c
      refine s_null d_S_bothJoined_22 ?_
      exact s_areturn d_S_bothJoined_23 rfl (Or.inl ⟨_, rfl⟩) h
    · have h := h.2 c
      refine s_aload_n 1 d_S_bothJoined_8 rfl rfl ?_
      obtain ⟨g2, h⟩ := h
      refine s_callV (as := []) (ci := 7) d_S_bothJoined_9 ok_Sq_signs lk_S_202 io_Sq_signs so_Sq_signs (by decide) rfl rfl rfl (Nat.le_of_ble_eq_true rfl) rfl g2 (WM.mono h ?_)
      rintro _ σ1 ⟨v1, rfl, hp, h⟩
      obtain ⟨hF2, h⟩ := h
      show WP E m_S_bothJoined (d + 1) 12 [(0, aP 1), (1, aP x1), (2, aP x2)] [aI v1] σ1 Q
      refine s_aload_n 2 d_S_bothJoined_12 rfl rfl ?_
      obtain ⟨g4, h⟩ := h
      refine s_callV (as := []) (ci := 7) d_S_bothJoined_13 ok_Sq_signs lk_S_202 io_Sq_signs so_Sq_signs (by decide) rfl rfl rfl (Nat.le_of_ble_eq_true rfl) rfl g4 (WM.mono h ?_)
      rintro _ σ3 ⟨v3, rfl, hp, h⟩
      obtain ⟨hF4, h⟩ := h
      show WP E m_S_bothJoined (d + 1) 16 [(0, aP 1), (1, aP x1), (2, aP x2)] [aI v3, aI v1] σ3 Q
      refine s_iadd d_S_bothJoined_16 ?_
      refine s_bipush d_S_bothJoined_17 (by decide) ?_
      obtain ⟨g5, h⟩ := h
      refine s_icmp_le d_S_bothJoined_19 rfl g5 (by decide) (fun c => ?_) (fun c => ?_)
      · have h := h.1 c
        refine s_aload_n 0 d_S_bothJoined_24 rfl rfl ?_
        refine s_getF (v := 10) d_S_bothJoined_25 fl_S_38 rfl (sf_1 hF4) (ff_1 hF4) ?_
        refine s_callV (as := []) (ci := 1) d_S_bothJoined_28 ok_Draft_clear lk_S_188 io_Draft_clear so_Draft_clear (by decide) rfl rfl rfl (Nat.le_of_ble_eq_true rfl) rfl (sf_10 hF4) (WM.mono h ?_)
        rintro _ σ6 ⟨rfl, hp, h⟩
        obtain ⟨hF6, h⟩ := h
        show WP E m_S_bothJoined (d + 1) 31 [(0, aP 1), (1, aP x1), (2, aP x2)] [] σ6 Q
        refine s_aload_n 0 d_S_bothJoined_31 rfl rfl ?_
        refine s_getF (v := 10) d_S_bothJoined_32 fl_S_38 rfl (sf_1 hF6) (ff_1 hF6) ?_
        refine s_bipush d_S_bothJoined_35 (by decide) ?_
        refine s_callV (as := [aI 64]) (ci := 1) d_S_bothJoined_37 ok_Draft_put lk_S_195 io_Draft_put so_Draft_put (by decide) rfl rfl rfl (Nat.le_of_ble_eq_true rfl) rfl (sf_10 hF6) (WM.mono h ?_)
        rintro _ σ7 ⟨rfl, hp, h⟩
        obtain ⟨hF7, h⟩ := h
        show WP E m_S_bothJoined (d + 1) 40 [(0, aP 1), (1, aP x1), (2, aP x2)] [] σ7 Q
        refine s_aload_n 0 d_S_bothJoined_40 rfl rfl ?_
        refine s_getF (v := 10) d_S_bothJoined_41 fl_S_38 rfl (sf_1 hF7) (ff_1 hF7) ?_
        refine s_aload_n 1 d_S_bothJoined_44 rfl rfl ?_
        refine s_iconst d_S_bothJoined_45 ?_
        refine s_aload_n 1 d_S_bothJoined_46 rfl rfl ?_
        obtain ⟨g9, h⟩ := h
        refine s_callV (as := []) (ci := 7) d_S_bothJoined_47 ok_Sq_length lk_S_144 io_Sq_length so_Sq_length (by decide) rfl rfl rfl (Nat.le_of_ble_eq_true rfl) rfl g9 (WM.mono h ?_)
        rintro _ σ8 ⟨v8, rfl, hp, h⟩
        obtain ⟨hF9, h⟩ := h
        show WP E m_S_bothJoined (d + 1) 50 [(0, aP 1), (1, aP x1), (2, aP x2)] [aI v8, aI 0, aP x1, aP 10] σ8 Q
        refine s_callV (as := [aP x1, aI 0, aI v8]) (ci := 1) d_S_bothJoined_50 ok_Draft_putAll lk_S_198 io_Draft_putAll so_Draft_putAll (by decide) rfl rfl rfl (Nat.le_of_ble_eq_true rfl) rfl (sf_10 hF9) (WM.mono h ?_)
        rintro _ σ10 ⟨rfl, hp, h⟩
        obtain ⟨hF10, h⟩ := h
        show WP E m_S_bothJoined (d + 1) 53 [(0, aP 1), (1, aP x1), (2, aP x2)] [] σ10 Q
        refine s_aload_n 0 d_S_bothJoined_53 rfl rfl ?_
        refine s_getF (v := 10) d_S_bothJoined_54 fl_S_38 rfl (sf_1 hF10) (ff_1 hF10) ?_
        refine s_aload_n 2 d_S_bothJoined_57 rfl rfl ?_
        refine s_iconst d_S_bothJoined_58 ?_
        refine s_aload_n 2 d_S_bothJoined_59 rfl rfl ?_
        obtain ⟨g12, h⟩ := h
        refine s_callV (as := []) (ci := 7) d_S_bothJoined_60 ok_Sq_length lk_S_144 io_Sq_length so_Sq_length (by decide) rfl rfl rfl (Nat.le_of_ble_eq_true rfl) rfl g12 (WM.mono h ?_)
        rintro _ σ11 ⟨v11, rfl, hp, h⟩
        obtain ⟨hF12, h⟩ := h
        show WP E m_S_bothJoined (d + 1) 63 [(0, aP 1), (1, aP x1), (2, aP x2)] [aI v11, aI 0, aP x2, aP 10] σ11 Q
        refine s_callV (as := [aP x2, aI 0, aI v11]) (ci := 1) d_S_bothJoined_63 ok_Draft_putAll lk_S_198 io_Draft_putAll so_Draft_putAll (by decide) rfl rfl rfl (Nat.le_of_ble_eq_true rfl) rfl (sf_10 hF12) (WM.mono h ?_)
        rintro _ σ13 ⟨rfl, hp, h⟩
        obtain ⟨hF13, h⟩ := h
        show WP E m_S_bothJoined (d + 1) 66 [(0, aP 1), (1, aP x1), (2, aP x2)] [] σ13 Q
        refine s_aload_n 0 d_S_bothJoined_66 rfl rfl ?_
        refine s_getF (v := 10) d_S_bothJoined_67 fl_S_38 rfl (sf_1 hF13) (ff_1 hF13) ?_
        refine s_callV (as := []) (ci := 1) d_S_bothJoined_70 ok_Draft_makeNormal lk_S_361 io_Draft_makeNormal so_Draft_makeNormal (by decide) rfl rfl rfl (Nat.le_of_ble_eq_true rfl) rfl (sf_10 hF13) (WM.mono h ?_)
        rintro _ σ14 ⟨rfl, hp, h⟩
        obtain ⟨hF14, h⟩ := h
        show WP E m_S_bothJoined (d + 1) 73 [(0, aP 1), (1, aP x1), (2, aP x2)] [] σ14 Q
        refine s_aload_n 0 d_S_bothJoined_73 rfl rfl ?_
        refine s_getF (v := 10) d_S_bothJoined_74 fl_S_38 rfl (sf_1 hF14) (ff_1 hF14) ?_
        refine s_callV (as := []) (ci := 1) d_S_bothJoined_77 ok_Draft_made lk_S_133 io_Draft_made so_Draft_made (by decide) rfl rfl rfl (Nat.le_of_ble_eq_true rfl) rfl (sf_10 hF14) (WM.mono h ?_)
        rintro _ σ15 ⟨v15, rfl, hp, h⟩
        show WP E m_S_bothJoined (d + 1) 80 [(0, aP 1), (1, aP x1), (2, aP x2)] [aP v15] σ15 Q
        exact s_areturn d_S_bothJoined_80 rfl (Or.inl ⟨_, rfl⟩) h
      · have h := h.2 c
        refine s_null d_S_bothJoined_22 ?_
        exact s_areturn d_S_bothJoined_23 rfl (Or.inl ⟨_, rfl⟩) h
theorem e_S_bothJoined {E : EV} {d : Nat} {Q : Option AV → St → Prop} {σ : St} (x1 x2 : Int) (hF : Fix σ) (h : ((x1 = 0 → Q (some (aP 0)) σ) ∧ (¬ x1 = 0 → ((x2 = 0 → Q (some (aP 0)) σ) ∧ (¬ x2 = 0 → (sh σ x1 = some (7, 1)) ∧ (WMi E m_Sq_signs d [aP x1] σ (fun v1 σ1 => Fix σ1 ∧ (sh σ1 x2 = some (7, 1)) ∧ (WMi E m_Sq_signs d [aP x2] σ1 (fun v3 σ3 => Fix σ3 ∧ (rI (v1 + v3)) ∧ (((v1 + v3) ≤ 10 → (WMv E m_Draft_clear d [aP 10] σ3 (fun σ6 => Fix σ6 ∧ (WMv E m_Draft_put d [aP 10, aI 64] σ6 (fun σ7 => Fix σ7 ∧ (sh σ7 x1 = some (7, 1)) ∧ (WMi E m_Sq_length d [aP x1] σ7 (fun v8 σ8 => Fix σ8 ∧ (WMv E m_Draft_putAll d [aP 10, aP x1, aI 0, aI v8] σ8 (fun σ10 => Fix σ10 ∧ (sh σ10 x2 = some (7, 1)) ∧ (WMi E m_Sq_length d [aP x2] σ10 (fun v11 σ11 => Fix σ11 ∧ (WMv E m_Draft_putAll d [aP 10, aP x2, aI 0, aI v11] σ11 (fun σ13 => Fix σ13 ∧ (WMv E m_Draft_makeNormal d [aP 10] σ13 (fun σ14 => Fix σ14 ∧ (WMr E m_Draft_made d [aP 10] σ14 (fun v15 σ15 => Q (some (aP v15)) σ15))))))))))))))))) ∧ (¬ (v1 + v3) ≤ 10 → Q (some (aP 0)) σ3))))))))))) : WM E m_S_bothJoined (d + 1) [aP 1, aP x1, aP x2] σ Q := s_meth (by decide) (Nat.le_of_ble_eq_true rfl) rfl (b_S_bothJoined_0 x1 x2 hF h)
theorem d_S_part_0 : decode m_S_part.2.1 0 = .ok (.aload_n 0, 1) := by decide +kernel
theorem d_S_part_1 : decode m_S_part.2.1 1 = .ok (.iload_n 1, 1) := by decide +kernel
theorem d_S_part_2 : decode m_S_part.2.1 2 = .ok (.invokevirtual 158, 3) := by decide +kernel
theorem d_S_part_5 : decode m_S_part.2.1 5 = .ok (.astore_n 3, 1) := by decide +kernel
theorem d_S_part_6 : decode m_S_part.2.1 6 = .ok (.aload_n 0, 1) := by decide +kernel
theorem d_S_part_7 : decode m_S_part.2.1 7 = .ok (.iload_n 1, 1) := by decide +kernel
theorem d_S_part_8 : decode m_S_part.2.1 8 = .ok (.iload_n 2, 1) := by decide +kernel
theorem d_S_part_9 : decode m_S_part.2.1 9 = .ok (.invokevirtual 99, 3) := by decide +kernel
theorem d_S_part_12 : decode m_S_part.2.1 12 = .ok (.astore 4, 2) := by decide +kernel
theorem d_S_part_14 : decode m_S_part.2.1 14 = .ok (.aload_n 3, 1) := by decide +kernel
theorem d_S_part_15 : decode m_S_part.2.1 15 = .ok (.ifnull 29, 3) := by decide +kernel
theorem d_S_part_18 : decode m_S_part.2.1 18 = .ok (.aload 4, 2) := by decide +kernel
theorem d_S_part_20 : decode m_S_part.2.1 20 = .ok (.ifnull 24, 3) := by decide +kernel
theorem d_S_part_23 : decode m_S_part.2.1 23 = .ok (.aload 4, 2) := by decide +kernel
theorem d_S_part_25 : decode m_S_part.2.1 25 = .ok (.iconst 0, 1) := by decide +kernel
theorem d_S_part_26 : decode m_S_part.2.1 26 = .ok (.invokevirtual 113, 3) := by decide +kernel
theorem d_S_part_29 : decode m_S_part.2.1 29 = .ok (.invokestatic 141, 3) := by decide +kernel
theorem d_S_part_32 : decode m_S_part.2.1 32 = .ok (.ifCond .eq 12, 3) := by decide +kernel
theorem d_S_part_35 : decode m_S_part.2.1 35 = .ok (.aload_n 3, 1) := by decide +kernel
theorem d_S_part_36 : decode m_S_part.2.1 36 = .ok (.invokevirtual 170, 3) := by decide +kernel
theorem d_S_part_39 : decode m_S_part.2.1 39 = .ok (.bipush 8, 2) := by decide +kernel
theorem d_S_part_41 : decode m_S_part.2.1 41 = .ok (.if_icmp .lt 5, 3) := by decide +kernel
theorem d_S_part_44 : decode m_S_part.2.1 44 = .ok (.iconst 0, 1) := by decide +kernel
theorem d_S_part_45 : decode m_S_part.2.1 45 = .ok (.ireturn, 1) := by decide +kernel
theorem d_S_part_46 : decode m_S_part.2.1 46 = .ok (.aload 4, 2) := by decide +kernel
theorem d_S_part_48 : decode m_S_part.2.1 48 = .ok (.iconst 1, 1) := by decide +kernel
theorem d_S_part_49 : decode m_S_part.2.1 49 = .ok (.invokevirtual 173, 3) := by decide +kernel
theorem d_S_part_52 : decode m_S_part.2.1 52 = .ok (.istore 5, 2) := by decide +kernel
theorem d_S_part_54 : decode m_S_part.2.1 54 = .ok (.aload_n 0, 1) := by decide +kernel
theorem d_S_part_55 : decode m_S_part.2.1 55 = .ok (.aload 4, 2) := by decide +kernel
theorem d_S_part_57 : decode m_S_part.2.1 57 = .ok (.iconst 1, 1) := by decide +kernel
theorem d_S_part_58 : decode m_S_part.2.1 58 = .ok (.iload 5, 2) := by decide +kernel
theorem d_S_part_60 : decode m_S_part.2.1 60 = .ok (.invokevirtual 176, 3) := by decide +kernel
theorem d_S_part_63 : decode m_S_part.2.1 63 = .ok (.astore 6, 2) := by decide +kernel
theorem d_S_part_65 : decode m_S_part.2.1 65 = .ok (.aload_n 0, 1) := by decide +kernel
theorem d_S_part_66 : decode m_S_part.2.1 66 = .ok (.aload 4, 2) := by decide +kernel
theorem d_S_part_68 : decode m_S_part.2.1 68 = .ok (.iload 5, 2) := by decide +kernel
theorem d_S_part_70 : decode m_S_part.2.1 70 = .ok (.aload 4, 2) := by decide +kernel
theorem d_S_part_72 : decode m_S_part.2.1 72 = .ok (.invokevirtual 144, 3) := by decide +kernel
theorem d_S_part_75 : decode m_S_part.2.1 75 = .ok (.invokevirtual 176, 3) := by decide +kernel
theorem d_S_part_78 : decode m_S_part.2.1 78 = .ok (.astore 7, 2) := by decide +kernel
theorem d_S_part_80 : decode m_S_part.2.1 80 = .ok (.aload_n 0, 1) := by decide +kernel
theorem d_S_part_81 : decode m_S_part.2.1 81 = .ok (.iload_n 1, 1) := by decide +kernel
theorem d_S_part_82 : decode m_S_part.2.1 82 = .ok (.aload_n 3, 1) := by decide +kernel
theorem d_S_part_83 : decode m_S_part.2.1 83 = .ok (.iload_n 2, 1) := by decide +kernel
theorem d_S_part_84 : decode m_S_part.2.1 84 = .ok (.aload 6, 2) := by decide +kernel
theorem d_S_part_86 : decode m_S_part.2.1 86 = .ok (.aload 7, 2) := by decide +kernel
theorem d_S_part_88 : decode m_S_part.2.1 88 = .ok (.invokevirtual 180, 3) := by decide +kernel
theorem d_S_part_91 : decode m_S_part.2.1 91 = .ok (.invokevirtual 166, 3) := by decide +kernel
theorem d_S_part_94 : decode m_S_part.2.1 94 = .ok (.ireturn, 1) := by decide +kernel
theorem b_S_part_0 {E : EV} {d : Nat} {Q : Option AV → St → Prop} {σ : St} (x1 x2 : Int) (hF : Fix σ) (h : (WMr E m_S_lineAt d [aP 1, aI x1] σ (fun v1 σ1 => Fix σ1 ∧ (WMr E m_S_squareAt d [aP 1, aI x1, aI x2] σ1 (fun v2 σ2 => Fix σ2 ∧ ((v1 = 0 → Q (some (aI 0)) σ2) ∧ (¬ v1 = 0 → ((v2 = 0 → Q (some (aI 0)) σ2) ∧ (¬ v2 = 0 → (sh σ2 v2 = some (7, 1)) ∧ (WMi E m_Sq_symbol d [aP v2, aI 0] σ2 (fun v3 σ3 => Fix σ3 ∧ (WMi E m_S_isJoint d [aI v3] σ3 (fun v5 σ5 => Fix σ5 ∧ (rI v5) ∧ ((v5 = 0 → Q (some (aI 0)) σ5) ∧ (¬ v5 = 0 → (sh σ5 v1 = some (3, 2)) ∧ (WMi E m_Line_size d [aP v1] σ5 (fun v7 σ7 => Fix σ7 ∧ (rI v7) ∧ ((v7 < 8 → (sh σ7 v2 = some (7, 1)) ∧ (WMi E m_Sq_endOf d [aP v2, aI 1] σ7 (fun v10 σ10 => Fix σ10 ∧ (WMr E m_S_slice d [aP 1, aP v2, aI 1, aI v10] σ10 (fun v12 σ12 => Fix σ12 ∧ (sh σ12 v2 = some (7, 1)) ∧ (WMi E m_Sq_length d [aP v2] σ12 (fun v13 σ13 => Fix σ13 ∧ (WMr E m_S_slice d [aP 1, aP v2, aI v10, aI v13] σ13 (fun v15 σ15 => Fix σ15 ∧ (sh σ15 v1 = some (3, 2)) ∧ (WMr E m_Line_withNext d [aP v1, aI x2, aP v12, aP v15] σ15 (fun v16 σ16 => Fix σ16 ∧ (WMi E m_S_replaceLine d [aP 1, aI x1, aP v16] σ16 (fun v18 σ18 => (v18 = 0 ∨ v18 = 1) ∧ Q (some (aI v18)) σ18))))))))))))) ∧ (¬ v7 < 8 → Q (some (aI 0)) σ7))))))))))))))))))) : WP E m_S_part (d + 1) 0 [(0, aP 1), (1, aI x1), (2, aI x2)] [] σ Q := by
  refine s_aload_n 0 d_S_part_0 rfl rfl ?_
  refine s_iload_n 1 d_S_part_1 rfl rfl ?_
  refine s_callV (as := [aI x1]) (ci := 9) d_S_part_2 ok_S_lineAt lk_S_158 io_S_lineAt so_S_lineAt (by decide) rfl rfl rfl (Nat.le_of_ble_eq_true rfl) rfl (sf_1 hF) (WM.mono h ?_)
  rintro _ σ1 ⟨v1, rfl, hp, h⟩
  obtain ⟨hF1, h⟩ := h
  show WP E m_S_part (d + 1) 5 [(0, aP 1), (1, aI x1), (2, aI x2)] [aP v1] σ1 Q
  refine s_astore_n d_S_part_5 rfl (by decide) rfl ?_
  refine s_aload_n 1 d_S_part_6 rfl rfl ?_
  refine s_iload_n 2 d_S_part_7 rfl rfl ?_
  refine s_iload_n 3 d_S_part_8 rfl rfl ?_
  refine s_callV (as := [aI x1, aI x2]) (ci := 9) d_S_part_9 ok_S_squareAt lk_S_99 io_S_squareAt so_S_squareAt (by decide) rfl rfl rfl (Nat.le_of_ble_eq_true rfl) rfl (sf_1 hF1) (WM.mono h ?_)
  rintro _ σ2 ⟨v2, rfl, hp, h⟩
  obtain ⟨hF2, h⟩ := h
  show WP E m_S_part (d + 1) 12 [(3, aP v1), (0, aP 1), (1, aI x1), (2, aI x2)] [aP v2] σ2 Q
  refine s_astore d_S_part_12 (by decide) rfl ?_
  refine s_aload_n 1 d_S_part_14 rfl rfl ?_
  refine s_ifnull d_S_part_15 rfl (fun c => ?_) (fun c => ?_)
  · have h := h.1 c
    refine s_iconst d_S_part_44 ?_
    exact s_zreturn d_S_part_45 rfl (by decide) h
  · have h := h.2 c
    refine s_aload 0 d_S_part_18 rfl ?_
    refine s_ifnull d_S_part_20 rfl (fun c => ?_) (fun c => ?_)
    · have h := h.1 c
      refine s_iconst d_S_part_44 ?_
      exact s_zreturn d_S_part_45 rfl (by decide) h
    · have h := h.2 c
      refine s_aload 0 d_S_part_23 rfl ?_
      refine s_iconst d_S_part_25 ?_
      obtain ⟨g4, h⟩ := h
      refine s_callV (as := [aI 0]) (ci := 7) d_S_part_26 ok_Sq_symbol lk_S_113 io_Sq_symbol so_Sq_symbol (by decide) rfl rfl rfl (Nat.le_of_ble_eq_true rfl) rfl g4 (WM.mono h ?_)
      rintro _ σ3 ⟨v3, rfl, hp, h⟩
      obtain ⟨hF4, h⟩ := h
      show WP E m_S_part (d + 1) 29 [(4, aP v2), (3, aP v1), (0, aP 1), (1, aI x1), (2, aI x2)] [aI v3] σ3 Q
      refine s_callS (as := [aI v3]) d_S_part_29 ok_S_isJoint lk_S_141 to_S_isJoint rfl (Nat.le_of_ble_eq_true rfl) rfl (WM.mono h ?_)
      rintro _ σ5 ⟨v5, rfl, hp, h⟩
      obtain ⟨hF5, h⟩ := h
      show WP E m_S_part (d + 1) 32 [(4, aP v2), (3, aP v1), (0, aP 1), (1, aI x1), (2, aI x2)] [aI v5] σ5 Q
      obtain ⟨g6, h⟩ := h
      refine s_if_eq d_S_part_32 rfl g6 (fun c => ?_) (fun c => ?_)
      · have h := h.1 c
        refine s_iconst d_S_part_44 ?_
        exact s_zreturn d_S_part_45 rfl (by decide) h
      · have h := h.2 c
        refine s_aload_n 1 d_S_part_35 rfl rfl ?_
        obtain ⟨g8, h⟩ := h
        refine s_callV (as := []) (ci := 3) d_S_part_36 ok_Line_size lk_S_170 io_Line_size so_Line_size (by decide) rfl rfl rfl (Nat.le_of_ble_eq_true rfl) rfl g8 (WM.mono h ?_)
        rintro _ σ7 ⟨v7, rfl, hp, h⟩
        obtain ⟨hF8, h⟩ := h
        show WP E m_S_part (d + 1) 39 [(4, aP v2), (3, aP v1), (0, aP 1), (1, aI x1), (2, aI x2)] [aI v7] σ7 Q
        refine s_bipush d_S_part_39 (by decide) ?_
        obtain ⟨g9, h⟩ := h
        refine s_icmp_lt d_S_part_41 rfl g9 (by decide) (fun c => ?_) (fun c => ?_)
        · have h := h.1 c
          refine s_aload 0 d_S_part_46 rfl ?_
          refine s_iconst d_S_part_48 ?_
          obtain ⟨g11, h⟩ := h
          refine s_callV (as := [aI 1]) (ci := 7) d_S_part_49 ok_Sq_endOf lk_S_173 io_Sq_endOf so_Sq_endOf (by decide) rfl rfl rfl (Nat.le_of_ble_eq_true rfl) rfl g11 (WM.mono h ?_)
          rintro _ σ10 ⟨v10, rfl, hp, h⟩
          obtain ⟨hF11, h⟩ := h
          show WP E m_S_part (d + 1) 52 [(4, aP v2), (3, aP v1), (0, aP 1), (1, aI x1), (2, aI x2)] [aI v10] σ10 Q
          refine s_istore d_S_part_52 (by decide) rfl ?_
          refine s_aload_n 3 d_S_part_54 rfl rfl ?_
          refine s_aload 1 d_S_part_55 rfl ?_
          refine s_iconst d_S_part_57 ?_
          refine s_iload 0 d_S_part_58 rfl ?_
          refine s_callV (as := [aP v2, aI 1, aI v10]) (ci := 9) d_S_part_60 ok_S_slice lk_S_176 io_S_slice so_S_slice (by decide) rfl rfl rfl (Nat.le_of_ble_eq_true rfl) rfl (sf_1 hF11) (WM.mono h ?_)
          rintro _ σ12 ⟨v12, rfl, hp, h⟩
          obtain ⟨hF12, h⟩ := h
          show WP E m_S_part (d + 1) 63 [(5, aI v10), (4, aP v2), (3, aP v1), (0, aP 1), (1, aI x1), (2, aI x2)] [aP v12] σ12 Q
          refine s_astore d_S_part_63 (by decide) rfl ?_
          refine s_aload_n 4 d_S_part_65 rfl rfl ?_
          refine s_aload 2 d_S_part_66 rfl ?_
          refine s_iload 1 d_S_part_68 rfl ?_
          refine s_aload 2 d_S_part_70 rfl ?_
          obtain ⟨g14, h⟩ := h
          refine s_callV (as := []) (ci := 7) d_S_part_72 ok_Sq_length lk_S_144 io_Sq_length so_Sq_length (by decide) rfl rfl rfl (Nat.le_of_ble_eq_true rfl) rfl g14 (WM.mono h ?_)
          rintro _ σ13 ⟨v13, rfl, hp, h⟩
          obtain ⟨hF14, h⟩ := h
          show WP E m_S_part (d + 1) 75 [(6, aP v12), (5, aI v10), (4, aP v2), (3, aP v1), (0, aP 1), (1, aI x1), (2, aI x2)] [aI v13, aI v10, aP v2, aP 1] σ13 Q
          refine s_callV (as := [aP v2, aI v10, aI v13]) (ci := 9) d_S_part_75 ok_S_slice lk_S_176 io_S_slice so_S_slice (by decide) rfl rfl rfl (Nat.le_of_ble_eq_true rfl) rfl (sf_1 hF14) (WM.mono h ?_)
          rintro _ σ15 ⟨v15, rfl, hp, h⟩
          obtain ⟨hF15, h⟩ := h
          show WP E m_S_part (d + 1) 78 [(6, aP v12), (5, aI v10), (4, aP v2), (3, aP v1), (0, aP 1), (1, aI x1), (2, aI x2)] [aP v15] σ15 Q
          refine s_astore d_S_part_78 (by decide) rfl ?_
          refine s_aload_n 5 d_S_part_80 rfl rfl ?_
          refine s_iload_n 6 d_S_part_81 rfl rfl ?_
          refine s_aload_n 4 d_S_part_82 rfl rfl ?_
          refine s_iload_n 7 d_S_part_83 rfl rfl ?_
          refine s_aload 1 d_S_part_84 rfl ?_
          refine s_aload 0 d_S_part_86 rfl ?_
          obtain ⟨g17, h⟩ := h
          refine s_callV (as := [aI x2, aP v12, aP v15]) (ci := 3) d_S_part_88 ok_Line_withNext lk_S_180 io_Line_withNext so_Line_withNext (by decide) rfl rfl rfl (Nat.le_of_ble_eq_true rfl) rfl g17 (WM.mono h ?_)
          rintro _ σ16 ⟨v16, rfl, hp, h⟩
          obtain ⟨hF17, h⟩ := h
          show WP E m_S_part (d + 1) 91 [(7, aP v15), (6, aP v12), (5, aI v10), (4, aP v2), (3, aP v1), (0, aP 1), (1, aI x1), (2, aI x2)] [aP v16, aI x1, aP 1] σ16 Q
          refine s_callV (as := [aI x1, aP v16]) (ci := 9) d_S_part_91 ok_S_replaceLine lk_S_166 io_S_replaceLine so_S_replaceLine (by decide) rfl rfl rfl (Nat.le_of_ble_eq_true rfl) rfl (sf_1 hF17) (WM.mono h ?_)
          rintro _ σ18 ⟨v18, rfl, hp, h⟩
          show WP E m_S_part (d + 1) 94 [(7, aP v15), (6, aP v12), (5, aI v10), (4, aP v2), (3, aP v1), (0, aP 1), (1, aI x1), (2, aI x2)] [aI v18] σ18 Q
          obtain ⟨g19, h⟩ := h
          exact s_zreturn d_S_part_94 rfl g19 h
        · have h := h.2 c
          refine s_iconst d_S_part_44 ?_
          exact s_zreturn d_S_part_45 rfl (by decide) h
theorem e_S_part {E : EV} {d : Nat} {Q : Option AV → St → Prop} {σ : St} (x1 x2 : Int) (hF : Fix σ) (h : (WMr E m_S_lineAt d [aP 1, aI x1] σ (fun v1 σ1 => Fix σ1 ∧ (WMr E m_S_squareAt d [aP 1, aI x1, aI x2] σ1 (fun v2 σ2 => Fix σ2 ∧ ((v1 = 0 → Q (some (aI 0)) σ2) ∧ (¬ v1 = 0 → ((v2 = 0 → Q (some (aI 0)) σ2) ∧ (¬ v2 = 0 → (sh σ2 v2 = some (7, 1)) ∧ (WMi E m_Sq_symbol d [aP v2, aI 0] σ2 (fun v3 σ3 => Fix σ3 ∧ (WMi E m_S_isJoint d [aI v3] σ3 (fun v5 σ5 => Fix σ5 ∧ (rI v5) ∧ ((v5 = 0 → Q (some (aI 0)) σ5) ∧ (¬ v5 = 0 → (sh σ5 v1 = some (3, 2)) ∧ (WMi E m_Line_size d [aP v1] σ5 (fun v7 σ7 => Fix σ7 ∧ (rI v7) ∧ ((v7 < 8 → (sh σ7 v2 = some (7, 1)) ∧ (WMi E m_Sq_endOf d [aP v2, aI 1] σ7 (fun v10 σ10 => Fix σ10 ∧ (WMr E m_S_slice d [aP 1, aP v2, aI 1, aI v10] σ10 (fun v12 σ12 => Fix σ12 ∧ (sh σ12 v2 = some (7, 1)) ∧ (WMi E m_Sq_length d [aP v2] σ12 (fun v13 σ13 => Fix σ13 ∧ (WMr E m_S_slice d [aP 1, aP v2, aI v10, aI v13] σ13 (fun v15 σ15 => Fix σ15 ∧ (sh σ15 v1 = some (3, 2)) ∧ (WMr E m_Line_withNext d [aP v1, aI x2, aP v12, aP v15] σ15 (fun v16 σ16 => Fix σ16 ∧ (WMi E m_S_replaceLine d [aP 1, aI x1, aP v16] σ16 (fun v18 σ18 => (v18 = 0 ∨ v18 = 1) ∧ Q (some (aI v18)) σ18))))))))))))) ∧ (¬ v7 < 8 → Q (some (aI 0)) σ7))))))))))))))))))) : WM E m_S_part (d + 1) [aP 1, aI x1, aI x2] σ Q := s_meth (by decide) (Nat.le_of_ble_eq_true rfl) rfl (b_S_part_0 x1 x2 hF h)
theorem d_S_slice_0 : decode m_S_slice.2.1 0 = .ok (.aload_n 0, 1) := by decide +kernel
theorem d_S_slice_1 : decode m_S_slice.2.1 1 = .ok (.getfield 38, 3) := by decide +kernel
theorem d_S_slice_4 : decode m_S_slice.2.1 4 = .ok (.invokevirtual 188, 3) := by decide +kernel
theorem d_S_slice_7 : decode m_S_slice.2.1 7 = .ok (.aload_n 0, 1) := by decide +kernel
theorem d_S_slice_8 : decode m_S_slice.2.1 8 = .ok (.getfield 38, 3) := by decide +kernel
theorem d_S_slice_11 : decode m_S_slice.2.1 11 = .ok (.aload_n 1, 1) := by decide +kernel
theorem d_S_slice_12 : decode m_S_slice.2.1 12 = .ok (.iload_n 2, 1) := by decide +kernel
theorem d_S_slice_13 : decode m_S_slice.2.1 13 = .ok (.iload_n 3, 1) := by decide +kernel
theorem d_S_slice_14 : decode m_S_slice.2.1 14 = .ok (.invokevirtual 198, 3) := by decide +kernel
theorem d_S_slice_17 : decode m_S_slice.2.1 17 = .ok (.aload_n 0, 1) := by decide +kernel
theorem d_S_slice_18 : decode m_S_slice.2.1 18 = .ok (.getfield 38, 3) := by decide +kernel
theorem d_S_slice_21 : decode m_S_slice.2.1 21 = .ok (.invokevirtual 133, 3) := by decide +kernel
theorem d_S_slice_24 : decode m_S_slice.2.1 24 = .ok (.areturn, 1) := by decide +kernel
theorem b_S_slice_0 {E : EV} {d : Nat} {Q : Option AV → St → Prop} {σ : St} (x1 x2 x3 : Int) (hF : Fix σ) (h : (WMv E m_Draft_clear d [aP 10] σ (fun σ1 => Fix σ1 ∧ (WMv E m_Draft_putAll d [aP 10, aP x1, aI x2, aI x3] σ1 (fun σ2 => Fix σ2 ∧ (WMr E m_Draft_made d [aP 10] σ2 (fun v3 σ3 => Q (some (aP v3)) σ3))))))) : WP E m_S_slice (d + 1) 0 [(0, aP 1), (1, aP x1), (2, aI x2), (3, aI x3)] [] σ Q := by
  refine s_aload_n 0 d_S_slice_0 rfl rfl ?_
  refine s_getF (v := 10) d_S_slice_1 fl_S_38 rfl (sf_1 hF) (ff_1 hF) ?_
  refine s_callV (as := []) (ci := 1) d_S_slice_4 ok_Draft_clear lk_S_188 io_Draft_clear so_Draft_clear (by decide) rfl rfl rfl (Nat.le_of_ble_eq_true rfl) rfl (sf_10 hF) (WM.mono h ?_)
  rintro _ σ1 ⟨rfl, hp, h⟩
  obtain ⟨hF1, h⟩ := h
  show WP E m_S_slice (d + 1) 7 [(0, aP 1), (1, aP x1), (2, aI x2), (3, aI x3)] [] σ1 Q
  refine s_aload_n 0 d_S_slice_7 rfl rfl ?_
  refine s_getF (v := 10) d_S_slice_8 fl_S_38 rfl (sf_1 hF1) (ff_1 hF1) ?_
  refine s_aload_n 1 d_S_slice_11 rfl rfl ?_
  refine s_iload_n 2 d_S_slice_12 rfl rfl ?_
  refine s_iload_n 3 d_S_slice_13 rfl rfl ?_
  refine s_callV (as := [aP x1, aI x2, aI x3]) (ci := 1) d_S_slice_14 ok_Draft_putAll lk_S_198 io_Draft_putAll so_Draft_putAll (by decide) rfl rfl rfl (Nat.le_of_ble_eq_true rfl) rfl (sf_10 hF1) (WM.mono h ?_)
  rintro _ σ2 ⟨rfl, hp, h⟩
  obtain ⟨hF2, h⟩ := h
  show WP E m_S_slice (d + 1) 17 [(0, aP 1), (1, aP x1), (2, aI x2), (3, aI x3)] [] σ2 Q
  refine s_aload_n 0 d_S_slice_17 rfl rfl ?_
  refine s_getF (v := 10) d_S_slice_18 fl_S_38 rfl (sf_1 hF2) (ff_1 hF2) ?_
  refine s_callV (as := []) (ci := 1) d_S_slice_21 ok_Draft_made lk_S_133 io_Draft_made so_Draft_made (by decide) rfl rfl rfl (Nat.le_of_ble_eq_true rfl) rfl (sf_10 hF2) (WM.mono h ?_)
  rintro _ σ3 ⟨v3, rfl, hp, h⟩
  show WP E m_S_slice (d + 1) 24 [(0, aP 1), (1, aP x1), (2, aI x2), (3, aI x3)] [aP v3] σ3 Q
  exact s_areturn d_S_slice_24 rfl (Or.inl ⟨_, rfl⟩) h
theorem e_S_slice {E : EV} {d : Nat} {Q : Option AV → St → Prop} {σ : St} (x1 x2 x3 : Int) (hF : Fix σ) (h : (WMv E m_Draft_clear d [aP 10] σ (fun σ1 => Fix σ1 ∧ (WMv E m_Draft_putAll d [aP 10, aP x1, aI x2, aI x3] σ1 (fun σ2 => Fix σ2 ∧ (WMr E m_Draft_made d [aP 10] σ2 (fun v3 σ3 => Q (some (aP v3)) σ3))))))) : WM E m_S_slice (d + 1) [aP 1, aP x1, aI x2, aI x3] σ Q := s_meth (by decide) (Nat.le_of_ble_eq_true rfl) rfl (b_S_slice_0 x1 x2 x3 hF h)
theorem d_S_swap_0 : decode m_S_swap.2.1 0 = .ok (.aload_n 0, 1) := by decide +kernel
theorem d_S_swap_1 : decode m_S_swap.2.1 1 = .ok (.iload_n 1, 1) := by decide +kernel
theorem d_S_swap_2 : decode m_S_swap.2.1 2 = .ok (.iload_n 2, 1) := by decide +kernel
theorem d_S_swap_3 : decode m_S_swap.2.1 3 = .ok (.invokevirtual 99, 3) := by decide +kernel
theorem d_S_swap_6 : decode m_S_swap.2.1 6 = .ok (.astore 5, 2) := by decide +kernel
theorem d_S_swap_8 : decode m_S_swap.2.1 8 = .ok (.aload 5, 2) := by decide +kernel
theorem d_S_swap_10 : decode m_S_swap.2.1 10 = .ok (.ifnull 30, 3) := by decide +kernel
theorem d_S_swap_13 : decode m_S_swap.2.1 13 = .ok (.iload_n 3, 1) := by decide +kernel
theorem d_S_swap_14 : decode m_S_swap.2.1 14 = .ok (.iload 4, 2) := by decide +kernel
theorem d_S_swap_16 : decode m_S_swap.2.1 16 = .ok (.if_icmp .eq 24, 3) := by decide +kernel
theorem d_S_swap_19 : decode m_S_swap.2.1 19 = .ok (.iload_n 3, 1) := by decide +kernel
theorem d_S_swap_20 : decode m_S_swap.2.1 20 = .ok (.ifCond .lt 20, 3) := by decide +kernel
theorem d_S_swap_23 : decode m_S_swap.2.1 23 = .ok (.iload 4, 2) := by decide +kernel
theorem d_S_swap_25 : decode m_S_swap.2.1 25 = .ok (.ifCond .lt 15, 3) := by decide +kernel
theorem d_S_swap_28 : decode m_S_swap.2.1 28 = .ok (.aload 5, 2) := by decide +kernel
theorem d_S_swap_30 : decode m_S_swap.2.1 30 = .ok (.iconst 0, 1) := by decide +kernel
theorem d_S_swap_31 : decode m_S_swap.2.1 31 = .ok (.invokevirtual 113, 3) := by decide +kernel
theorem d_S_swap_34 : decode m_S_swap.2.1 34 = .ok (.invokestatic 141, 3) := by decide +kernel
theorem d_S_swap_37 : decode m_S_swap.2.1 37 = .ok (.ifCond .ne 5, 3) := by decide +kernel
theorem d_S_swap_40 : decode m_S_swap.2.1 40 = .ok (.iconst 0, 1) := by decide +kernel
theorem d_S_swap_41 : decode m_S_swap.2.1 41 = .ok (.ireturn, 1) := by decide +kernel
theorem d_S_swap_42 : decode m_S_swap.2.1 42 = .ok (.aload 5, 2) := by decide +kernel
theorem d_S_swap_44 : decode m_S_swap.2.1 44 = .ok (.iconst 0, 1) := by decide +kernel
theorem d_S_swap_45 : decode m_S_swap.2.1 45 = .ok (.invokevirtual 113, 3) := by decide +kernel
theorem d_S_swap_48 : decode m_S_swap.2.1 48 = .ok (.istore 6, 2) := by decide +kernel
theorem d_S_swap_50 : decode m_S_swap.2.1 50 = .ok (.aload 5, 2) := by decide +kernel
theorem d_S_swap_52 : decode m_S_swap.2.1 52 = .ok (.iconst 0, 1) := by decide +kernel
theorem d_S_swap_53 : decode m_S_swap.2.1 53 = .ok (.iload 6, 2) := by decide +kernel
theorem d_S_swap_55 : decode m_S_swap.2.1 55 = .ok (.invokevirtual 184, 3) := by decide +kernel
theorem d_S_swap_58 : decode m_S_swap.2.1 58 = .ok (.istore 7, 2) := by decide +kernel
theorem d_S_swap_60 : decode m_S_swap.2.1 60 = .ok (.iload_n 3, 1) := by decide +kernel
theorem d_S_swap_61 : decode m_S_swap.2.1 61 = .ok (.iload 7, 2) := by decide +kernel
theorem d_S_swap_63 : decode m_S_swap.2.1 63 = .ok (.if_icmp .ge 10, 3) := by decide +kernel
theorem d_S_swap_66 : decode m_S_swap.2.1 66 = .ok (.iload 4, 2) := by decide +kernel
theorem d_S_swap_68 : decode m_S_swap.2.1 68 = .ok (.iload 7, 2) := by decide +kernel
theorem d_S_swap_70 : decode m_S_swap.2.1 70 = .ok (.if_icmp .lt 5, 3) := by decide +kernel
theorem d_S_swap_73 : decode m_S_swap.2.1 73 = .ok (.iconst 0, 1) := by decide +kernel
theorem d_S_swap_74 : decode m_S_swap.2.1 74 = .ok (.ireturn, 1) := by decide +kernel
theorem d_S_swap_75 : decode m_S_swap.2.1 75 = .ok (.aload_n 0, 1) := by decide +kernel
theorem d_S_swap_76 : decode m_S_swap.2.1 76 = .ok (.getfield 38, 3) := by decide +kernel
theorem d_S_swap_79 : decode m_S_swap.2.1 79 = .ok (.invokevirtual 188, 3) := by decide +kernel
theorem d_S_swap_82 : decode m_S_swap.2.1 82 = .ok (.iconst 0, 1) := by decide +kernel
theorem d_S_swap_83 : decode m_S_swap.2.1 83 = .ok (.istore 8, 2) := by decide +kernel
theorem d_S_swap_85 : decode m_S_swap.2.1 85 = .ok (.iload 8, 2) := by decide +kernel
theorem d_S_swap_87 : decode m_S_swap.2.1 87 = .ok (.iload 7, 2) := by decide +kernel
theorem d_S_swap_89 : decode m_S_swap.2.1 89 = .ok (.if_icmp .ge 79, 3) := by decide +kernel
theorem d_S_swap_92 : decode m_S_swap.2.1 92 = .ok (.aload 5, 2) := by decide +kernel
theorem d_S_swap_94 : decode m_S_swap.2.1 94 = .ok (.iconst 0, 1) := by decide +kernel
theorem d_S_swap_95 : decode m_S_swap.2.1 95 = .ok (.iload 6, 2) := by decide +kernel
theorem d_S_swap_97 : decode m_S_swap.2.1 97 = .ok (.iload 8, 2) := by decide +kernel
theorem d_S_swap_99 : decode m_S_swap.2.1 99 = .ok (.iload_n 3, 1) := by decide +kernel
theorem d_S_swap_100 : decode m_S_swap.2.1 100 = .ok (.if_icmp .ne 8, 3) := by decide +kernel
theorem d_S_swap_103 : decode m_S_swap.2.1 103 = .ok (.iload 4, 2) := by decide +kernel
theorem d_S_swap_105 : decode m_S_swap.2.1 105 = .ok (.goto 16, 3) := by decide +kernel
theorem d_S_swap_108 : decode m_S_swap.2.1 108 = .ok (.iload 8, 2) := by decide +kernel
theorem d_S_swap_110 : decode m_S_swap.2.1 110 = .ok (.iload 4, 2) := by decide +kernel
theorem d_S_swap_112 : decode m_S_swap.2.1 112 = .ok (.if_icmp .ne 7, 3) := by decide +kernel
theorem d_S_swap_115 : decode m_S_swap.2.1 115 = .ok (.iload_n 3, 1) := by decide +kernel
theorem d_S_swap_116 : decode m_S_swap.2.1 116 = .ok (.goto 5, 3) := by decide +kernel
theorem d_S_swap_119 : decode m_S_swap.2.1 119 = .ok (.iload 8, 2) := by decide +kernel
theorem d_S_swap_121 : decode m_S_swap.2.1 121 = .ok (.invokevirtual 191, 3) := by decide +kernel
theorem d_S_swap_124 : decode m_S_swap.2.1 124 = .ok (.istore 9, 2) := by decide +kernel
theorem d_S_swap_126 : decode m_S_swap.2.1 126 = .ok (.iload 8, 2) := by decide +kernel
theorem d_S_swap_128 : decode m_S_swap.2.1 128 = .ok (.iload 7, 2) := by decide +kernel
theorem d_S_swap_130 : decode m_S_swap.2.1 130 = .ok (.iconst 1, 1) := by decide +kernel
theorem d_S_swap_131 : decode m_S_swap.2.1 131 = .ok (.isub, 1) := by decide +kernel
theorem d_S_swap_132 : decode m_S_swap.2.1 132 = .ok (.if_icmp .ge 12, 3) := by decide +kernel
theorem d_S_swap_135 : decode m_S_swap.2.1 135 = .ok (.aload_n 0, 1) := by decide +kernel
theorem d_S_swap_136 : decode m_S_swap.2.1 136 = .ok (.getfield 38, 3) := by decide +kernel
theorem d_S_swap_139 : decode m_S_swap.2.1 139 = .ok (.iload 6, 2) := by decide +kernel
theorem d_S_swap_141 : decode m_S_swap.2.1 141 = .ok (.invokevirtual 195, 3) := by decide +kernel
theorem d_S_swap_144 : decode m_S_swap.2.1 144 = .ok (.aload_n 0, 1) := by decide +kernel
theorem d_S_swap_145 : decode m_S_swap.2.1 145 = .ok (.getfield 38, 3) := by decide +kernel
theorem d_S_swap_148 : decode m_S_swap.2.1 148 = .ok (.aload 5, 2) := by decide +kernel
theorem d_S_swap_150 : decode m_S_swap.2.1 150 = .ok (.iload 9, 2) := by decide +kernel
theorem d_S_swap_152 : decode m_S_swap.2.1 152 = .ok (.aload 5, 2) := by decide +kernel
theorem d_S_swap_154 : decode m_S_swap.2.1 154 = .ok (.iload 9, 2) := by decide +kernel
theorem d_S_swap_156 : decode m_S_swap.2.1 156 = .ok (.invokevirtual 173, 3) := by decide +kernel
theorem d_S_swap_159 : decode m_S_swap.2.1 159 = .ok (.invokevirtual 198, 3) := by decide +kernel
theorem d_S_swap_162 : decode m_S_swap.2.1 162 = .ok (.iinc 8 1, 3) := by decide +kernel
theorem d_S_swap_165 : decode m_S_swap.2.1 165 = .ok (.goto (-80), 3) := by decide +kernel
theorem d_S_swap_168 : decode m_S_swap.2.1 168 = .ok (.aload_n 0, 1) := by decide +kernel
theorem d_S_swap_169 : decode m_S_swap.2.1 169 = .ok (.iload_n 1, 1) := by decide +kernel
theorem d_S_swap_170 : decode m_S_swap.2.1 170 = .ok (.iload_n 2, 1) := by decide +kernel
theorem d_S_swap_171 : decode m_S_swap.2.1 171 = .ok (.aload_n 0, 1) := by decide +kernel
theorem d_S_swap_172 : decode m_S_swap.2.1 172 = .ok (.getfield 38, 3) := by decide +kernel
theorem d_S_swap_175 : decode m_S_swap.2.1 175 = .ok (.invokevirtual 133, 3) := by decide +kernel
theorem d_S_swap_178 : decode m_S_swap.2.1 178 = .ok (.invokevirtual 137, 3) := by decide +kernel
theorem d_S_swap_181 : decode m_S_swap.2.1 181 = .ok (.ireturn, 1) := by decide +kernel
theorem b_S_swap_0 {E : EV} {d : Nat} {Q : Option AV → St → Prop} {σ : St} (x1 x2 x3 x4 : Int) (hF : Fix σ) (h : (WMr E m_S_squareAt d [aP 1, aI x1, aI x2] σ (fun v1 σ1 => Fix σ1 ∧ ((v1 = 0 → Q (some (aI 0)) σ1) ∧ (¬ v1 = 0 → (rI x3) ∧ (rI x4) ∧ ((x3 = x4 → Q (some (aI 0)) σ1) ∧ (¬ x3 = x4 → (rI x3) ∧ ((x3 < 0 → Q (some (aI 0)) σ1) ∧ (¬ x3 < 0 → (rI x4) ∧ ((x4 < 0 → Q (some (aI 0)) σ1) ∧ (¬ x4 < 0 → (sh σ1 v1 = some (7, 1)) ∧ (WMi E m_Sq_symbol d [aP v1, aI 0] σ1 (fun v6 σ6 => Fix σ6 ∧ (WMi E m_S_isJoint d [aI v6] σ6 (fun v8 σ8 => Fix σ8 ∧ (rI v8) ∧ ((¬ v8 = 0 → (sh σ8 v1 = some (7, 1)) ∧ (WMi E m_Sq_symbol d [aP v1, aI 0] σ8 (fun v10 σ10 => Fix σ10 ∧ (sh σ10 v1 = some (7, 1)) ∧ (WMi E m_Sq_links d [aP v1, aI 0, aI v10] σ10 (fun v12 σ12 => Fix σ12 ∧ (rI x3) ∧ (rI v12) ∧ ((v12 ≤ x3 → Q (some (aI 0)) σ12) ∧ (¬ v12 ≤ x3 → (rI x4) ∧ (rI v12) ∧ ((x4 < v12 → (WMv E m_Draft_clear d [aP 10] σ12 (fun σ18 => WP E m_S_swap (d + 1) 85 [(0, aP 1), (1, aI x1), (2, aI x2), (3, aI x3), (4, aI x4), (5, aP v1), (6, aI v10), (7, aI v12), (8, aI 0)] [] σ18 Q))) ∧ (¬ x4 < v12 → Q (some (aI 0)) σ12))))))))) ∧ (v8 = 0 → Q (some (aI 0)) σ8))))))))))))))))) : WP E m_S_swap (d + 1) 0 [(0, aP 1), (1, aI x1), (2, aI x2), (3, aI x3), (4, aI x4)] [] σ Q := by
  refine s_aload_n 0 d_S_swap_0 rfl rfl ?_
  refine s_iload_n 1 d_S_swap_1 rfl rfl ?_
  refine s_iload_n 2 d_S_swap_2 rfl rfl ?_
  refine s_callV (as := [aI x1, aI x2]) (ci := 9) d_S_swap_3 ok_S_squareAt lk_S_99 io_S_squareAt so_S_squareAt (by decide) rfl rfl rfl (Nat.le_of_ble_eq_true rfl) rfl (sf_1 hF) (WM.mono h ?_)
  rintro _ σ1 ⟨v1, rfl, hp, h⟩
  obtain ⟨hF1, h⟩ := h
  show WP E m_S_swap (d + 1) 6 [(0, aP 1), (1, aI x1), (2, aI x2), (3, aI x3), (4, aI x4)] [aP v1] σ1 Q
  refine s_astore d_S_swap_6 (by decide) rfl ?_
  refine s_aload 0 d_S_swap_8 rfl ?_
  refine s_ifnull d_S_swap_10 rfl (fun c => ?_) (fun c => ?_)
  · have h := h.1 c
    refine s_iconst d_S_swap_40 ?_
    exact s_zreturn d_S_swap_41 rfl (by decide) h
  · have h := h.2 c
    refine s_iload_n 4 d_S_swap_13 rfl rfl ?_
    refine s_iload 5 d_S_swap_14 rfl ?_
    obtain ⟨g2, h⟩ := h
    obtain ⟨g3, h⟩ := h
    refine s_icmp_eq d_S_swap_16 rfl g2 g3 (fun c => ?_) (fun c => ?_)
    · have h := h.1 c
      refine s_iconst d_S_swap_40 ?_
      exact s_zreturn d_S_swap_41 rfl (by decide) h
    · have h := h.2 c
      refine s_iload_n 4 d_S_swap_19 rfl rfl ?_
      obtain ⟨g4, h⟩ := h
      refine s_if_lt d_S_swap_20 rfl g4 (fun c => ?_) (fun c => ?_)
      · have h := h.1 c
        refine s_iconst d_S_swap_40 ?_
        exact s_zreturn d_S_swap_41 rfl (by decide) h
      · have h := h.2 c
        refine s_iload 5 d_S_swap_23 rfl ?_
        obtain ⟨g5, h⟩ := h
        refine s_if_lt d_S_swap_25 rfl g5 (fun c => ?_) (fun c => ?_)
        · have h := h.1 c
          refine s_iconst d_S_swap_40 ?_
          exact s_zreturn d_S_swap_41 rfl (by decide) h
        · have h := h.2 c
          refine s_aload 0 d_S_swap_28 rfl ?_
          refine s_iconst d_S_swap_30 ?_
          obtain ⟨g7, h⟩ := h
          refine s_callV (as := [aI 0]) (ci := 7) d_S_swap_31 ok_Sq_symbol lk_S_113 io_Sq_symbol so_Sq_symbol (by decide) rfl rfl rfl (Nat.le_of_ble_eq_true rfl) rfl g7 (WM.mono h ?_)
          rintro _ σ6 ⟨v6, rfl, hp, h⟩
          obtain ⟨hF7, h⟩ := h
          show WP E m_S_swap (d + 1) 34 [(5, aP v1), (0, aP 1), (1, aI x1), (2, aI x2), (3, aI x3), (4, aI x4)] [aI v6] σ6 Q
          refine s_callS (as := [aI v6]) d_S_swap_34 ok_S_isJoint lk_S_141 to_S_isJoint rfl (Nat.le_of_ble_eq_true rfl) rfl (WM.mono h ?_)
          rintro _ σ8 ⟨v8, rfl, hp, h⟩
          obtain ⟨hF8, h⟩ := h
          show WP E m_S_swap (d + 1) 37 [(5, aP v1), (0, aP 1), (1, aI x1), (2, aI x2), (3, aI x3), (4, aI x4)] [aI v8] σ8 Q
          obtain ⟨g9, h⟩ := h
          refine s_if_ne d_S_swap_37 rfl g9 (fun c => ?_) (fun c => ?_)
          · have h := h.1 c
            refine s_aload 0 d_S_swap_42 rfl ?_
            refine s_iconst d_S_swap_44 ?_
            obtain ⟨g11, h⟩ := h
            refine s_callV (as := [aI 0]) (ci := 7) d_S_swap_45 ok_Sq_symbol lk_S_113 io_Sq_symbol so_Sq_symbol (by decide) rfl rfl rfl (Nat.le_of_ble_eq_true rfl) rfl g11 (WM.mono h ?_)
            rintro _ σ10 ⟨v10, rfl, hp, h⟩
            obtain ⟨hF11, h⟩ := h
            show WP E m_S_swap (d + 1) 48 [(5, aP v1), (0, aP 1), (1, aI x1), (2, aI x2), (3, aI x3), (4, aI x4)] [aI v10] σ10 Q
            refine s_istore d_S_swap_48 (by decide) rfl ?_
            refine s_aload 1 d_S_swap_50 rfl ?_
            refine s_iconst d_S_swap_52 ?_
            refine s_iload 0 d_S_swap_53 rfl ?_
            obtain ⟨g13, h⟩ := h
            refine s_callV (as := [aI 0, aI v10]) (ci := 7) d_S_swap_55 ok_Sq_links lk_S_184 io_Sq_links so_Sq_links (by decide) rfl rfl rfl (Nat.le_of_ble_eq_true rfl) rfl g13 (WM.mono h ?_)
            rintro _ σ12 ⟨v12, rfl, hp, h⟩
            obtain ⟨hF13, h⟩ := h
            show WP E m_S_swap (d + 1) 58 [(6, aI v10), (5, aP v1), (0, aP 1), (1, aI x1), (2, aI x2), (3, aI x3), (4, aI x4)] [aI v12] σ12 Q
            refine s_istore d_S_swap_58 (by decide) rfl ?_
            refine s_iload_n 6 d_S_swap_60 rfl rfl ?_
            refine s_iload 0 d_S_swap_61 rfl ?_
            obtain ⟨g14, h⟩ := h
            obtain ⟨g15, h⟩ := h
            refine s_icmp_ge d_S_swap_63 rfl g14 g15 (fun c => ?_) (fun c => ?_)
            · have h := h.1 c
              refine s_iconst d_S_swap_73 ?_
              exact s_zreturn d_S_swap_74 rfl (by decide) h
            · have h := h.2 c
              refine s_iload 7 d_S_swap_66 rfl ?_
              refine s_iload 0 d_S_swap_68 rfl ?_
              obtain ⟨g16, h⟩ := h
              obtain ⟨g17, h⟩ := h
              refine s_icmp_lt d_S_swap_70 rfl g16 g17 (fun c => ?_) (fun c => ?_)
              · have h := h.1 c
                refine s_aload_n 3 d_S_swap_75 rfl rfl ?_
                refine s_getF (v := 10) d_S_swap_76 fl_S_38 rfl (sf_1 hF13) (ff_1 hF13) ?_
                refine s_callV (as := []) (ci := 1) d_S_swap_79 ok_Draft_clear lk_S_188 io_Draft_clear so_Draft_clear (by decide) rfl rfl rfl (Nat.le_of_ble_eq_true rfl) rfl (sf_10 hF13) (WM.mono h ?_)
                rintro _ σ18 ⟨rfl, hp, h⟩
                show WP E m_S_swap (d + 1) 82 [(7, aI v12), (6, aI v10), (5, aP v1), (0, aP 1), (1, aI x1), (2, aI x2), (3, aI x3), (4, aI x4)] [] σ18 Q
                refine s_iconst d_S_swap_82 ?_
                refine s_istore d_S_swap_83 (by decide) rfl ?_
                refine wp_drop [4, 5, 6, 7, 8, 3, 2, 1, 0] rfl ?_
                exact h
              · have h := h.2 c
                refine s_iconst d_S_swap_73 ?_
                exact s_zreturn d_S_swap_74 rfl (by decide) h
          · have h := h.2 c
            refine s_iconst d_S_swap_40 ?_
            exact s_zreturn d_S_swap_41 rfl (by decide) h
theorem e_S_swap {E : EV} {d : Nat} {Q : Option AV → St → Prop} {σ : St} (x1 x2 x3 x4 : Int) (hF : Fix σ) (h : (WMr E m_S_squareAt d [aP 1, aI x1, aI x2] σ (fun v1 σ1 => Fix σ1 ∧ ((v1 = 0 → Q (some (aI 0)) σ1) ∧ (¬ v1 = 0 → (rI x3) ∧ (rI x4) ∧ ((x3 = x4 → Q (some (aI 0)) σ1) ∧ (¬ x3 = x4 → (rI x3) ∧ ((x3 < 0 → Q (some (aI 0)) σ1) ∧ (¬ x3 < 0 → (rI x4) ∧ ((x4 < 0 → Q (some (aI 0)) σ1) ∧ (¬ x4 < 0 → (sh σ1 v1 = some (7, 1)) ∧ (WMi E m_Sq_symbol d [aP v1, aI 0] σ1 (fun v6 σ6 => Fix σ6 ∧ (WMi E m_S_isJoint d [aI v6] σ6 (fun v8 σ8 => Fix σ8 ∧ (rI v8) ∧ ((¬ v8 = 0 → (sh σ8 v1 = some (7, 1)) ∧ (WMi E m_Sq_symbol d [aP v1, aI 0] σ8 (fun v10 σ10 => Fix σ10 ∧ (sh σ10 v1 = some (7, 1)) ∧ (WMi E m_Sq_links d [aP v1, aI 0, aI v10] σ10 (fun v12 σ12 => Fix σ12 ∧ (rI x3) ∧ (rI v12) ∧ ((v12 ≤ x3 → Q (some (aI 0)) σ12) ∧ (¬ v12 ≤ x3 → (rI x4) ∧ (rI v12) ∧ ((x4 < v12 → (WMv E m_Draft_clear d [aP 10] σ12 (fun σ18 => WP E m_S_swap (d + 1) 85 [(0, aP 1), (1, aI x1), (2, aI x2), (3, aI x3), (4, aI x4), (5, aP v1), (6, aI v10), (7, aI v12), (8, aI 0)] [] σ18 Q))) ∧ (¬ x4 < v12 → Q (some (aI 0)) σ12))))))))) ∧ (v8 = 0 → Q (some (aI 0)) σ8))))))))))))))))) : WM E m_S_swap (d + 1) [aP 1, aI x1, aI x2, aI x3, aI x4] σ Q := s_meth (by decide) (Nat.le_of_ble_eq_true rfl) rfl (b_S_swap_0 x1 x2 x3 x4 hF h)
theorem b_S_swap_85 {E : EV} {d : Nat} {Q : Option AV → St → Prop} {σ : St} (x1 x2 x3 x4 x5 x6 x7 x8 : Int) (hF : Fix σ) (h : (rI x8) ∧ (rI x7) ∧ ((x7 ≤ x8 → (WMr E m_Draft_made d [aP 10] σ (fun v3 σ3 => Fix σ3 ∧ (WMi E m_S_become d [aP 1, aI x1, aI x2, aP v3] σ3 (fun v4 σ4 => (v4 = 0 ∨ v4 = 1) ∧ Q (some (aI v4)) σ4))))) ∧ (¬ x7 ≤ x8 → (rI x8) ∧ (rI x3) ∧ ((¬ x8 = x3 → (rI x8) ∧ (rI x4) ∧ ((¬ x8 = x4 → WP E m_S_swap (d + 1) 121 [(0, aP 1), (1, aI x1), (2, aI x2), (3, aI x3), (4, aI x4), (5, aP x5), (6, aI x6), (7, aI x7), (8, aI x8)] [aI x8, aI x6, aI 0, aP x5] σ Q) ∧ (x8 = x4 → WP E m_S_swap (d + 1) 121 [(0, aP 1), (1, aI x1), (2, aI x2), (3, aI x3), (4, aI x4), (5, aP x5), (6, aI x6), (7, aI x7), (8, aI x8)] [aI x3, aI x6, aI 0, aP x5] σ Q))) ∧ (x8 = x3 → WP E m_S_swap (d + 1) 121 [(0, aP 1), (1, aI x1), (2, aI x2), (3, aI x3), (4, aI x4), (5, aP x5), (6, aI x6), (7, aI x7), (8, aI x8)] [aI x4, aI x6, aI 0, aP x5] σ Q))))) : WP E m_S_swap (d + 1) 85 [(0, aP 1), (1, aI x1), (2, aI x2), (3, aI x3), (4, aI x4), (5, aP x5), (6, aI x6), (7, aI x7), (8, aI x8)] [] σ Q := by
  refine s_iload 8 d_S_swap_85 rfl ?_
  refine s_iload 7 d_S_swap_87 rfl ?_
  obtain ⟨g1, h⟩ := h
  obtain ⟨g2, h⟩ := h
  refine s_icmp_ge d_S_swap_89 rfl g1 g2 (fun c => ?_) (fun c => ?_)
  · have h := h.1 c
    refine s_aload_n 0 d_S_swap_168 rfl rfl ?_
    refine s_iload_n 1 d_S_swap_169 rfl rfl ?_
    refine s_iload_n 2 d_S_swap_170 rfl rfl ?_
    refine s_aload_n 0 d_S_swap_171 rfl rfl ?_
    refine s_getF (v := 10) d_S_swap_172 fl_S_38 rfl (sf_1 hF) (ff_1 hF) ?_
    refine s_callV (as := []) (ci := 1) d_S_swap_175 ok_Draft_made lk_S_133 io_Draft_made so_Draft_made (by decide) rfl rfl rfl (Nat.le_of_ble_eq_true rfl) rfl (sf_10 hF) (WM.mono h ?_)
    rintro _ σ3 ⟨v3, rfl, hp, h⟩
    obtain ⟨hF3, h⟩ := h
    show WP E m_S_swap (d + 1) 178 [(0, aP 1), (1, aI x1), (2, aI x2), (3, aI x3), (4, aI x4), (5, aP x5), (6, aI x6), (7, aI x7), (8, aI x8)] [aP v3, aI x2, aI x1, aP 1] σ3 Q
    refine s_callV (as := [aI x1, aI x2, aP v3]) (ci := 9) d_S_swap_178 ok_S_become lk_S_137 io_S_become so_S_become (by decide) rfl rfl rfl (Nat.le_of_ble_eq_true rfl) rfl (sf_1 hF3) (WM.mono h ?_)
    rintro _ σ4 ⟨v4, rfl, hp, h⟩
    show WP E m_S_swap (d + 1) 181 [(0, aP 1), (1, aI x1), (2, aI x2), (3, aI x3), (4, aI x4), (5, aP x5), (6, aI x6), (7, aI x7), (8, aI x8)] [aI v4] σ4 Q
    obtain ⟨g5, h⟩ := h
    exact s_zreturn d_S_swap_181 rfl g5 h
  · have h := h.2 c
    refine s_aload 5 d_S_swap_92 rfl ?_
    refine s_iconst d_S_swap_94 ?_
    refine s_iload 6 d_S_swap_95 rfl ?_
    refine s_iload 8 d_S_swap_97 rfl ?_
    refine s_iload_n 3 d_S_swap_99 rfl rfl ?_
    obtain ⟨g6, h⟩ := h
    obtain ⟨g7, h⟩ := h
    refine s_icmp_ne d_S_swap_100 rfl g6 g7 (fun c => ?_) (fun c => ?_)
    · have h := h.1 c
      refine s_iload 8 d_S_swap_108 rfl ?_
      refine s_iload 4 d_S_swap_110 rfl ?_
      obtain ⟨g8, h⟩ := h
      obtain ⟨g9, h⟩ := h
      refine s_icmp_ne d_S_swap_112 rfl g8 g9 (fun c => ?_) (fun c => ?_)
      · have h := h.1 c
        refine s_iload 8 d_S_swap_119 rfl ?_
        exact h
      · have h := h.2 c
        refine s_iload_n 3 d_S_swap_115 rfl rfl ?_
        refine s_goto d_S_swap_116 rfl ?_
        exact h
    · have h := h.2 c
      refine s_iload 4 d_S_swap_103 rfl ?_
      refine s_goto d_S_swap_105 rfl ?_
      exact h
theorem b_S_swap_121 {E : EV} {d : Nat} {Q : Option AV → St → Prop} {σ : St} (x1 x2 x3 x4 x5 x6 x7 x8 s0 s1 s2 s3 : Int) (hF : Fix σ) (h : (sh σ s0 = some (7, 1)) ∧ (WMi E m_Sq_linkPlace d [aP s0, aI s1, aI s2, aI s3] σ (fun v1 σ1 => Fix σ1 ∧ (rI x8) ∧ (rI (x7 - 1)) ∧ (((x7 - 1) ≤ x8 → WP E m_S_swap (d + 1) 144 [(0, aP 1), (1, aI x1), (2, aI x2), (3, aI x3), (4, aI x4), (5, aP x5), (6, aI x6), (7, aI x7), (8, aI x8), (9, aI v1)] [] σ1 Q) ∧ (¬ (x7 - 1) ≤ x8 → (WMv E m_Draft_put d [aP 10, aI x6] σ1 (fun σ5 => WP E m_S_swap (d + 1) 144 [(0, aP 1), (1, aI x1), (2, aI x2), (3, aI x3), (4, aI x4), (5, aP x5), (6, aI x6), (7, aI x7), (8, aI x8), (9, aI v1)] [] σ5 Q))))))) : WP E m_S_swap (d + 1) 121 [(0, aP 1), (1, aI x1), (2, aI x2), (3, aI x3), (4, aI x4), (5, aP x5), (6, aI x6), (7, aI x7), (8, aI x8)] [aI s3, aI s2, aI s1, aP s0] σ Q := by
  obtain ⟨g2, h⟩ := h
  refine s_callV (as := [aI s1, aI s2, aI s3]) (ci := 7) d_S_swap_121 ok_Sq_linkPlace lk_S_191 io_Sq_linkPlace so_Sq_linkPlace (by decide) rfl rfl rfl (Nat.le_of_ble_eq_true rfl) rfl g2 (WM.mono h ?_)
  rintro _ σ1 ⟨v1, rfl, hp, h⟩
  obtain ⟨hF2, h⟩ := h
  show WP E m_S_swap (d + 1) 124 [(0, aP 1), (1, aI x1), (2, aI x2), (3, aI x3), (4, aI x4), (5, aP x5), (6, aI x6), (7, aI x7), (8, aI x8)] [aI v1] σ1 Q
  refine s_istore d_S_swap_124 (by decide) rfl ?_
  refine s_iload 9 d_S_swap_126 rfl ?_
  refine s_iload 8 d_S_swap_128 rfl ?_
  refine s_iconst d_S_swap_130 ?_
  refine s_isub d_S_swap_131 ?_
  obtain ⟨g3, h⟩ := h
  obtain ⟨g4, h⟩ := h
  refine s_icmp_ge d_S_swap_132 rfl g3 g4 (fun c => ?_) (fun c => ?_)
  · have h := h.1 c
    refine wp_drop [1, 2, 3, 4, 5, 6, 7, 8, 9, 0] rfl ?_
    exact h
  · have h := h.2 c
    refine s_aload_n 1 d_S_swap_135 rfl rfl ?_
    refine s_getF (v := 10) d_S_swap_136 fl_S_38 rfl (sf_1 hF2) (ff_1 hF2) ?_
    refine s_iload 7 d_S_swap_139 rfl ?_
    refine s_callV (as := [aI x6]) (ci := 1) d_S_swap_141 ok_Draft_put lk_S_195 io_Draft_put so_Draft_put (by decide) rfl rfl rfl (Nat.le_of_ble_eq_true rfl) rfl (sf_10 hF2) (WM.mono h ?_)
    rintro _ σ5 ⟨rfl, hp, h⟩
    show WP E m_S_swap (d + 1) 144 [(9, aI v1), (0, aP 1), (1, aI x1), (2, aI x2), (3, aI x3), (4, aI x4), (5, aP x5), (6, aI x6), (7, aI x7), (8, aI x8)] [] σ5 Q
    refine wp_drop [1, 2, 3, 4, 5, 6, 7, 8, 9, 0] rfl ?_
    exact h
theorem b_S_swap_144 {E : EV} {d : Nat} {Q : Option AV → St → Prop} {σ : St} (x1 x2 x3 x4 x5 x6 x7 x8 x9 : Int) (hF : Fix σ) (h : (sh σ x5 = some (7, 1)) ∧ (WMi E m_Sq_endOf d [aP x5, aI x9] σ (fun v1 σ1 => Fix σ1 ∧ (WMv E m_Draft_putAll d [aP 10, aP x5, aI x9, aI v1] σ1 (fun σ3 => WP E m_S_swap (d + 1) 85 [(0, aP 1), (1, aI x1), (2, aI x2), (3, aI x3), (4, aI x4), (5, aP x5), (6, aI x6), (7, aI x7), (8, aI (x8 + 1))] [] σ3 Q))))) : WP E m_S_swap (d + 1) 144 [(0, aP 1), (1, aI x1), (2, aI x2), (3, aI x3), (4, aI x4), (5, aP x5), (6, aI x6), (7, aI x7), (8, aI x8), (9, aI x9)] [] σ Q := by
  refine s_aload_n 0 d_S_swap_144 rfl rfl ?_
  refine s_getF (v := 10) d_S_swap_145 fl_S_38 rfl (sf_1 hF) (ff_1 hF) ?_
  refine s_aload 5 d_S_swap_148 rfl ?_
  refine s_iload 9 d_S_swap_150 rfl ?_
  refine s_aload 5 d_S_swap_152 rfl ?_
  refine s_iload 9 d_S_swap_154 rfl ?_
  obtain ⟨g2, h⟩ := h
  refine s_callV (as := [aI x9]) (ci := 7) d_S_swap_156 ok_Sq_endOf lk_S_173 io_Sq_endOf so_Sq_endOf (by decide) rfl rfl rfl (Nat.le_of_ble_eq_true rfl) rfl g2 (WM.mono h ?_)
  rintro _ σ1 ⟨v1, rfl, hp, h⟩
  obtain ⟨hF2, h⟩ := h
  show WP E m_S_swap (d + 1) 159 [(0, aP 1), (1, aI x1), (2, aI x2), (3, aI x3), (4, aI x4), (5, aP x5), (6, aI x6), (7, aI x7), (8, aI x8), (9, aI x9)] [aI v1, aI x9, aP x5, aP 10] σ1 Q
  refine s_callV (as := [aP x5, aI x9, aI v1]) (ci := 1) d_S_swap_159 ok_Draft_putAll lk_S_198 io_Draft_putAll so_Draft_putAll (by decide) rfl rfl rfl (Nat.le_of_ble_eq_true rfl) rfl (sf_10 hF2) (WM.mono h ?_)
  rintro _ σ3 ⟨rfl, hp, h⟩
  show WP E m_S_swap (d + 1) 162 [(0, aP 1), (1, aI x1), (2, aI x2), (3, aI x3), (4, aI x4), (5, aP x5), (6, aI x6), (7, aI x7), (8, aI x8), (9, aI x9)] [] σ3 Q
  refine s_iinc 8 d_S_swap_162 rfl (by decide) rfl ?_
  refine s_goto d_S_swap_165 rfl ?_
  refine wp_drop [1, 2, 3, 4, 5, 6, 7, 8, 0] rfl ?_
  exact h
theorem d_S_insert_0 : decode m_S_insert.2.1 0 = .ok (.aload_n 0, 1) := by decide +kernel
theorem d_S_insert_1 : decode m_S_insert.2.1 1 = .ok (.iload_n 1, 1) := by decide +kernel
theorem d_S_insert_2 : decode m_S_insert.2.1 2 = .ok (.invokevirtual 158, 3) := by decide +kernel
theorem d_S_insert_5 : decode m_S_insert.2.1 5 = .ok (.astore 4, 2) := by decide +kernel
theorem d_S_insert_7 : decode m_S_insert.2.1 7 = .ok (.aload_n 0, 1) := by decide +kernel
theorem d_S_insert_8 : decode m_S_insert.2.1 8 = .ok (.iload_n 1, 1) := by decide +kernel
theorem d_S_insert_9 : decode m_S_insert.2.1 9 = .ok (.iload_n 2, 1) := by decide +kernel
theorem d_S_insert_10 : decode m_S_insert.2.1 10 = .ok (.invokevirtual 99, 3) := by decide +kernel
theorem d_S_insert_13 : decode m_S_insert.2.1 13 = .ok (.astore 5, 2) := by decide +kernel
theorem d_S_insert_15 : decode m_S_insert.2.1 15 = .ok (.aload_n 0, 1) := by decide +kernel
theorem d_S_insert_16 : decode m_S_insert.2.1 16 = .ok (.iload_n 1, 1) := by decide +kernel
theorem d_S_insert_17 : decode m_S_insert.2.1 17 = .ok (.iload_n 2, 1) := by decide +kernel
theorem d_S_insert_18 : decode m_S_insert.2.1 18 = .ok (.invokevirtual 151, 3) := by decide +kernel
theorem d_S_insert_21 : decode m_S_insert.2.1 21 = .ok (.astore 6, 2) := by decide +kernel
theorem d_S_insert_23 : decode m_S_insert.2.1 23 = .ok (.aload 4, 2) := by decide +kernel
theorem d_S_insert_25 : decode m_S_insert.2.1 25 = .ok (.ifnull 29, 3) := by decide +kernel
theorem d_S_insert_28 : decode m_S_insert.2.1 28 = .ok (.aload 5, 2) := by decide +kernel
theorem d_S_insert_30 : decode m_S_insert.2.1 30 = .ok (.ifnull 24, 3) := by decide +kernel
theorem d_S_insert_33 : decode m_S_insert.2.1 33 = .ok (.aload 6, 2) := by decide +kernel
theorem d_S_insert_35 : decode m_S_insert.2.1 35 = .ok (.ifnull 19, 3) := by decide +kernel
theorem d_S_insert_38 : decode m_S_insert.2.1 38 = .ok (.aload 5, 2) := by decide +kernel
theorem d_S_insert_40 : decode m_S_insert.2.1 40 = .ok (.invokevirtual 202, 3) := by decide +kernel
theorem d_S_insert_43 : decode m_S_insert.2.1 43 = .ok (.aload 6, 2) := by decide +kernel
theorem d_S_insert_45 : decode m_S_insert.2.1 45 = .ok (.invokevirtual 202, 3) := by decide +kernel
theorem d_S_insert_48 : decode m_S_insert.2.1 48 = .ok (.iadd, 1) := by decide +kernel
theorem d_S_insert_49 : decode m_S_insert.2.1 49 = .ok (.bipush 10, 2) := by decide +kernel
theorem d_S_insert_51 : decode m_S_insert.2.1 51 = .ok (.if_icmp .le 5, 3) := by decide +kernel
theorem d_S_insert_54 : decode m_S_insert.2.1 54 = .ok (.iconst 0, 1) := by decide +kernel
theorem d_S_insert_55 : decode m_S_insert.2.1 55 = .ok (.ireturn, 1) := by decide +kernel
theorem d_S_insert_56 : decode m_S_insert.2.1 56 = .ok (.aload 5, 2) := by decide +kernel
theorem d_S_insert_58 : decode m_S_insert.2.1 58 = .ok (.iload_n 3, 1) := by decide +kernel
theorem d_S_insert_59 : decode m_S_insert.2.1 59 = .ok (.invokevirtual 107, 3) := by decide +kernel
theorem d_S_insert_62 : decode m_S_insert.2.1 62 = .ok (.istore 7, 2) := by decide +kernel
theorem d_S_insert_64 : decode m_S_insert.2.1 64 = .ok (.aload 5, 2) := by decide +kernel
theorem d_S_insert_66 : decode m_S_insert.2.1 66 = .ok (.iload 7, 2) := by decide +kernel
theorem d_S_insert_68 : decode m_S_insert.2.1 68 = .ok (.invokevirtual 113, 3) := by decide +kernel
theorem d_S_insert_71 : decode m_S_insert.2.1 71 = .ok (.istore 8, 2) := by decide +kernel
theorem d_S_insert_73 : decode m_S_insert.2.1 73 = .ok (.iload 7, 2) := by decide +kernel
theorem d_S_insert_75 : decode m_S_insert.2.1 75 = .ok (.iconst (-1), 1) := by decide +kernel
theorem d_S_insert_76 : decode m_S_insert.2.1 76 = .ok (.if_icmp .eq 26, 3) := by decide +kernel
theorem d_S_insert_79 : decode m_S_insert.2.1 79 = .ok (.iload 8, 2) := by decide +kernel
theorem d_S_insert_81 : decode m_S_insert.2.1 81 = .ok (.invokestatic 119, 3) := by decide +kernel
theorem d_S_insert_84 : decode m_S_insert.2.1 84 = .ok (.ifCond .ne 18, 3) := by decide +kernel
theorem d_S_insert_87 : decode m_S_insert.2.1 87 = .ok (.aload_n 0, 1) := by decide +kernel
theorem d_S_insert_88 : decode m_S_insert.2.1 88 = .ok (.getfield 10, 3) := by decide +kernel
theorem d_S_insert_91 : decode m_S_insert.2.1 91 = .ok (.iload 8, 2) := by decide +kernel
theorem d_S_insert_93 : decode m_S_insert.2.1 93 = .ok (.invokestatic 116, 3) := by decide +kernel
theorem d_S_insert_96 : decode m_S_insert.2.1 96 = .ok (.invokevirtual 122, 3) := by decide +kernel
theorem d_S_insert_99 : decode m_S_insert.2.1 99 = .ok (.ifCond .ne 5, 3) := by decide +kernel
theorem d_S_insert_102 : decode m_S_insert.2.1 102 = .ok (.iconst 0, 1) := by decide +kernel
theorem d_S_insert_103 : decode m_S_insert.2.1 103 = .ok (.ireturn, 1) := by decide +kernel
theorem d_S_insert_104 : decode m_S_insert.2.1 104 = .ok (.aload_n 0, 1) := by decide +kernel
theorem d_S_insert_105 : decode m_S_insert.2.1 105 = .ok (.getfield 38, 3) := by decide +kernel
theorem d_S_insert_108 : decode m_S_insert.2.1 108 = .ok (.invokevirtual 188, 3) := by decide +kernel
theorem d_S_insert_111 : decode m_S_insert.2.1 111 = .ok (.aload_n 0, 1) := by decide +kernel
theorem d_S_insert_112 : decode m_S_insert.2.1 112 = .ok (.getfield 38, 3) := by decide +kernel
theorem d_S_insert_115 : decode m_S_insert.2.1 115 = .ok (.aload 5, 2) := by decide +kernel
theorem d_S_insert_117 : decode m_S_insert.2.1 117 = .ok (.iconst 0, 1) := by decide +kernel
theorem d_S_insert_118 : decode m_S_insert.2.1 118 = .ok (.iload 7, 2) := by decide +kernel
theorem d_S_insert_120 : decode m_S_insert.2.1 120 = .ok (.invokevirtual 198, 3) := by decide +kernel
theorem d_S_insert_123 : decode m_S_insert.2.1 123 = .ok (.aload_n 0, 1) := by decide +kernel
theorem d_S_insert_124 : decode m_S_insert.2.1 124 = .ok (.getfield 38, 3) := by decide +kernel
theorem d_S_insert_127 : decode m_S_insert.2.1 127 = .ok (.iload 8, 2) := by decide +kernel
theorem d_S_insert_129 : decode m_S_insert.2.1 129 = .ok (.bipush 32, 2) := by decide +kernel
theorem d_S_insert_131 : decode m_S_insert.2.1 131 = .ok (.iadd, 1) := by decide +kernel
theorem d_S_insert_132 : decode m_S_insert.2.1 132 = .ok (.invokevirtual 195, 3) := by decide +kernel
theorem d_S_insert_135 : decode m_S_insert.2.1 135 = .ok (.aload_n 0, 1) := by decide +kernel
theorem d_S_insert_136 : decode m_S_insert.2.1 136 = .ok (.getfield 38, 3) := by decide +kernel
theorem d_S_insert_139 : decode m_S_insert.2.1 139 = .ok (.aload 6, 2) := by decide +kernel
theorem d_S_insert_141 : decode m_S_insert.2.1 141 = .ok (.iconst 0, 1) := by decide +kernel
theorem d_S_insert_142 : decode m_S_insert.2.1 142 = .ok (.aload 6, 2) := by decide +kernel
theorem d_S_insert_144 : decode m_S_insert.2.1 144 = .ok (.invokevirtual 144, 3) := by decide +kernel
theorem d_S_insert_147 : decode m_S_insert.2.1 147 = .ok (.invokevirtual 198, 3) := by decide +kernel
theorem d_S_insert_150 : decode m_S_insert.2.1 150 = .ok (.aload_n 0, 1) := by decide +kernel
theorem d_S_insert_151 : decode m_S_insert.2.1 151 = .ok (.getfield 38, 3) := by decide +kernel
theorem d_S_insert_154 : decode m_S_insert.2.1 154 = .ok (.aload 5, 2) := by decide +kernel
theorem d_S_insert_156 : decode m_S_insert.2.1 156 = .ok (.iload 7, 2) := by decide +kernel
theorem d_S_insert_158 : decode m_S_insert.2.1 158 = .ok (.iconst 1, 1) := by decide +kernel
theorem d_S_insert_159 : decode m_S_insert.2.1 159 = .ok (.iadd, 1) := by decide +kernel
theorem d_S_insert_160 : decode m_S_insert.2.1 160 = .ok (.aload 5, 2) := by decide +kernel
theorem d_S_insert_162 : decode m_S_insert.2.1 162 = .ok (.invokevirtual 144, 3) := by decide +kernel
theorem d_S_insert_165 : decode m_S_insert.2.1 165 = .ok (.invokevirtual 198, 3) := by decide +kernel
theorem d_S_insert_168 : decode m_S_insert.2.1 168 = .ok (.aload_n 0, 1) := by decide +kernel
theorem d_S_insert_169 : decode m_S_insert.2.1 169 = .ok (.getfield 38, 3) := by decide +kernel
theorem d_S_insert_172 : decode m_S_insert.2.1 172 = .ok (.invokevirtual 133, 3) := by decide +kernel
theorem d_S_insert_175 : decode m_S_insert.2.1 175 = .ok (.astore 9, 2) := by decide +kernel
theorem d_S_insert_177 : decode m_S_insert.2.1 177 = .ok (.aload_n 0, 1) := by decide +kernel
theorem d_S_insert_178 : decode m_S_insert.2.1 178 = .ok (.aload 9, 2) := by decide +kernel
theorem d_S_insert_180 : decode m_S_insert.2.1 180 = .ok (.iconst (-1), 1) := by decide +kernel
theorem d_S_insert_181 : decode m_S_insert.2.1 181 = .ok (.invokevirtual 205, 3) := by decide +kernel
theorem d_S_insert_184 : decode m_S_insert.2.1 184 = .ok (.getfield 209, 3) := by decide +kernel
theorem d_S_insert_187 : decode m_S_insert.2.1 187 = .ok (.iconst 3, 1) := by decide +kernel
theorem d_S_insert_188 : decode m_S_insert.2.1 188 = .ok (.if_icmp .gt 23, 3) := by decide +kernel
theorem d_S_insert_191 : decode m_S_insert.2.1 191 = .ok (.aload_n 0, 1) := by decide +kernel
theorem d_S_insert_192 : decode m_S_insert.2.1 192 = .ok (.iload_n 1, 1) := by decide +kernel
theorem d_S_insert_193 : decode m_S_insert.2.1 193 = .ok (.aload 4, 2) := by decide +kernel
theorem d_S_insert_195 : decode m_S_insert.2.1 195 = .ok (.iload_n 2, 1) := by decide +kernel
theorem d_S_insert_196 : decode m_S_insert.2.1 196 = .ok (.aload 9, 2) := by decide +kernel
theorem d_S_insert_198 : decode m_S_insert.2.1 198 = .ok (.invokevirtual 162, 3) := by decide +kernel
theorem d_S_insert_201 : decode m_S_insert.2.1 201 = .ok (.invokevirtual 166, 3) := by decide +kernel
theorem d_S_insert_204 : decode m_S_insert.2.1 204 = .ok (.ifCond .eq 7, 3) := by decide +kernel
theorem d_S_insert_207 : decode m_S_insert.2.1 207 = .ok (.iconst 1, 1) := by decide +kernel
theorem d_S_insert_208 : decode m_S_insert.2.1 208 = .ok (.goto 4, 3) := by decide +kernel
theorem d_S_insert_211 : decode m_S_insert.2.1 211 = .ok (.iconst 0, 1) := by decide +kernel
theorem d_S_insert_212 : decode m_S_insert.2.1 212 = .ok (.ireturn, 1) := by decide +kernel
theorem b_S_insert_0 {E : EV} {d : Nat} {Q : Option AV → St → Prop} {σ : St} (x1 x2 x3 : Int) (hF : Fix σ) (h : (WMr E m_S_lineAt d [aP 1, aI x1] σ (fun v1 σ1 => Fix σ1 ∧ (WMr E m_S_squareAt d [aP 1, aI x1, aI x2] σ1 (fun v2 σ2 => Fix σ2 ∧ (WMr E m_S_squareBehind d [aP 1, aI x1, aI x2] σ2 (fun v3 σ3 => Fix σ3 ∧ ((v1 = 0 → Q (some (aI 0)) σ3) ∧ (¬ v1 = 0 → ((v2 = 0 → Q (some (aI 0)) σ3) ∧ (¬ v2 = 0 → ((v3 = 0 → Q (some (aI 0)) σ3) ∧ (¬ v3 = 0 → (sh σ3 v2 = some (7, 1)) ∧ (WMi E m_Sq_signs d [aP v2] σ3 (fun v4 σ4 => Fix σ4 ∧ (sh σ4 v3 = some (7, 1)) ∧ (WMi E m_Sq_signs d [aP v3] σ4 (fun v6 σ6 => Fix σ6 ∧ (rI (v4 + v6)) ∧ (((v4 + v6) ≤ 10 → (sh σ6 v2 = some (7, 1)) ∧ (WMi E m_Sq_placeOf d [aP v2, aI x3] σ6 (fun v9 σ9 => Fix σ9 ∧ (sh σ9 v2 = some (7, 1)) ∧ (WMi E m_Sq_symbol d [aP v2, aI v9] σ9 (fun v11 σ11 => Fix σ11 ∧ (rI v9) ∧ ((v9 = (-1) → Q (some (aI 0)) σ11) ∧ (¬ v9 = (-1) → (WMi E m_S_holds d [aI v11] σ11 (fun v14 σ14 => Fix σ14 ∧ (rI v14) ∧ ((¬ v14 = 0 → Q (some (aI 0)) σ14) ∧ (v14 = 0 → (WMi E m_S_letterOf d [aI v11] σ14 (fun v16 σ16 => Fix σ16 ∧ (sh σ16 (σ14.1 1 0) = some (8, 4)) ∧ (WMi E m_Table_hasCore d [aP (σ14.1 1 0), aI v16] σ16 (fun v17 σ17 => Fix σ17 ∧ (rI v17) ∧ ((¬ v17 = 0 → (WMv E m_Draft_clear d [aP 10] σ17 (fun σ20 => Fix σ20 ∧ (WMv E m_Draft_putAll d [aP 10, aP v2, aI 0, aI v9] σ20 (fun σ21 => Fix σ21 ∧ (WMv E m_Draft_put d [aP 10, aI (v11 + 32)] σ21 (fun σ22 => Fix σ22 ∧ (sh σ22 v3 = some (7, 1)) ∧ (WMi E m_Sq_length d [aP v3] σ22 (fun v23 σ23 => Fix σ23 ∧ (WMv E m_Draft_putAll d [aP 10, aP v3, aI 0, aI v23] σ23 (fun σ25 => Fix σ25 ∧ (sh σ25 v2 = some (7, 1)) ∧ (WMi E m_Sq_length d [aP v2] σ25 (fun v26 σ26 => Fix σ26 ∧ (WMv E m_Draft_putAll d [aP 10, aP v2, aI (v9 + 1), aI v26] σ26 (fun σ28 => Fix σ28 ∧ (WMr E m_Draft_made d [aP 10] σ28 (fun v29 σ29 => Fix σ29 ∧ (WMr E m_S_spelled d [aP 1, aP v29, aI (-1)] σ29 (fun v30 σ30 => Fix σ30 ∧ (sh σ30 v30 = some (6, 9)) ∧ (rI (σ30.1 v30 8)) ∧ ((3 < (σ30.1 v30 8) → Q (some (aI 0)) σ30) ∧ (¬ 3 < (σ30.1 v30 8) → (sh σ30 v1 = some (3, 2)) ∧ (WMr E m_Line_withoutNext d [aP v1, aI x2, aP v29] σ30 (fun v33 σ33 => Fix σ33 ∧ (WMi E m_S_replaceLine d [aP 1, aI x1, aP v33] σ33 (fun v35 σ35 => (rI v35) ∧ ((v35 = 0 → Q (some (aI 0)) σ35) ∧ (¬ v35 = 0 → Q (some (aI 1)) σ35))))))))))))))))))))))))))) ∧ (v17 = 0 → Q (some (aI 0)) σ17))))))))))))))))) ∧ (¬ (v4 + v6) ≤ 10 → Q (some (aI 0)) σ6))))))))))))))))))) : WP E m_S_insert (d + 1) 0 [(0, aP 1), (1, aI x1), (2, aI x2), (3, aI x3)] [] σ Q := by
  refine s_aload_n 0 d_S_insert_0 rfl rfl ?_
  refine s_iload_n 1 d_S_insert_1 rfl rfl ?_
  refine s_callV (as := [aI x1]) (ci := 9) d_S_insert_2 ok_S_lineAt lk_S_158 io_S_lineAt so_S_lineAt (by decide) rfl rfl rfl (Nat.le_of_ble_eq_true rfl) rfl (sf_1 hF) (WM.mono h ?_)
  rintro _ σ1 ⟨v1, rfl, hp, h⟩
  obtain ⟨hF1, h⟩ := h
  show WP E m_S_insert (d + 1) 5 [(0, aP 1), (1, aI x1), (2, aI x2), (3, aI x3)] [aP v1] σ1 Q
  refine s_astore d_S_insert_5 (by decide) rfl ?_
  refine s_aload_n 1 d_S_insert_7 rfl rfl ?_
  refine s_iload_n 2 d_S_insert_8 rfl rfl ?_
  refine s_iload_n 3 d_S_insert_9 rfl rfl ?_
  refine s_callV (as := [aI x1, aI x2]) (ci := 9) d_S_insert_10 ok_S_squareAt lk_S_99 io_S_squareAt so_S_squareAt (by decide) rfl rfl rfl (Nat.le_of_ble_eq_true rfl) rfl (sf_1 hF1) (WM.mono h ?_)
  rintro _ σ2 ⟨v2, rfl, hp, h⟩
  obtain ⟨hF2, h⟩ := h
  show WP E m_S_insert (d + 1) 13 [(4, aP v1), (0, aP 1), (1, aI x1), (2, aI x2), (3, aI x3)] [aP v2] σ2 Q
  refine s_astore d_S_insert_13 (by decide) rfl ?_
  refine s_aload_n 2 d_S_insert_15 rfl rfl ?_
  refine s_iload_n 3 d_S_insert_16 rfl rfl ?_
  refine s_iload_n 4 d_S_insert_17 rfl rfl ?_
  refine s_callV (as := [aI x1, aI x2]) (ci := 9) d_S_insert_18 ok_S_squareBehind lk_S_151 io_S_squareBehind so_S_squareBehind (by decide) rfl rfl rfl (Nat.le_of_ble_eq_true rfl) rfl (sf_1 hF2) (WM.mono h ?_)
  rintro _ σ3 ⟨v3, rfl, hp, h⟩
  obtain ⟨hF3, h⟩ := h
  show WP E m_S_insert (d + 1) 21 [(5, aP v2), (4, aP v1), (0, aP 1), (1, aI x1), (2, aI x2), (3, aI x3)] [aP v3] σ3 Q
  refine s_astore d_S_insert_21 (by decide) rfl ?_
  refine s_aload 2 d_S_insert_23 rfl ?_
  refine s_ifnull d_S_insert_25 rfl (fun c => ?_) (fun c => ?_)
  · have h := h.1 c
    refine s_iconst d_S_insert_54 ?_
    exact s_zreturn d_S_insert_55 rfl (by decide) h
  · have h := h.2 c
    refine s_aload 1 d_S_insert_28 rfl ?_
    refine s_ifnull d_S_insert_30 rfl (fun c => ?_) (fun c => ?_)
    · have h := h.1 c
      refine s_iconst d_S_insert_54 ?_
      exact s_zreturn d_S_insert_55 rfl (by decide) h
    · have h := h.2 c
      refine s_aload 0 d_S_insert_33 rfl ?_
      refine s_ifnull d_S_insert_35 rfl (fun c => ?_) (fun c => ?_)
      · have h := h.1 c
        refine s_iconst d_S_insert_54 ?_
        exact s_zreturn d_S_insert_55 rfl (by decide) h
      · have h := h.2 c
        refine s_aload 1 d_S_insert_38 rfl ?_
        obtain ⟨g5, h⟩ := h
        refine s_callV (as := []) (ci := 7) d_S_insert_40 ok_Sq_signs lk_S_202 io_Sq_signs so_Sq_signs (by decide) rfl rfl rfl (Nat.le_of_ble_eq_true rfl) rfl g5 (WM.mono h ?_)
        rintro _ σ4 ⟨v4, rfl, hp, h⟩
        obtain ⟨hF5, h⟩ := h
        show WP E m_S_insert (d + 1) 43 [(6, aP v3), (5, aP v2), (4, aP v1), (0, aP 1), (1, aI x1), (2, aI x2), (3, aI x3)] [aI v4] σ4 Q
        refine s_aload 0 d_S_insert_43 rfl ?_
        obtain ⟨g7, h⟩ := h
        refine s_callV (as := []) (ci := 7) d_S_insert_45 ok_Sq_signs lk_S_202 io_Sq_signs so_Sq_signs (by decide) rfl rfl rfl (Nat.le_of_ble_eq_true rfl) rfl g7 (WM.mono h ?_)
        rintro _ σ6 ⟨v6, rfl, hp, h⟩
        obtain ⟨hF7, h⟩ := h
        show WP E m_S_insert (d + 1) 48 [(6, aP v3), (5, aP v2), (4, aP v1), (0, aP 1), (1, aI x1), (2, aI x2), (3, aI x3)] [aI v6, aI v4] σ6 Q
        refine s_iadd d_S_insert_48 ?_
        refine s_bipush d_S_insert_49 (by decide) ?_
        obtain ⟨g8, h⟩ := h
        refine s_icmp_le d_S_insert_51 rfl g8 (by decide) (fun c => ?_) (fun c => ?_)
        · have h := h.1 c
          refine s_aload 1 d_S_insert_56 rfl ?_
          refine s_iload_n 6 d_S_insert_58 rfl rfl ?_
          obtain ⟨g10, h⟩ := h
          refine s_callV (as := [aI x3]) (ci := 7) d_S_insert_59 ok_Sq_placeOf lk_S_107 io_Sq_placeOf so_Sq_placeOf (by decide) rfl rfl rfl (Nat.le_of_ble_eq_true rfl) rfl g10 (WM.mono h ?_)
          rintro _ σ9 ⟨v9, rfl, hp, h⟩
          obtain ⟨hF10, h⟩ := h
          show WP E m_S_insert (d + 1) 62 [(6, aP v3), (5, aP v2), (4, aP v1), (0, aP 1), (1, aI x1), (2, aI x2), (3, aI x3)] [aI v9] σ9 Q
          refine s_istore d_S_insert_62 (by decide) rfl ?_
          refine s_aload 2 d_S_insert_64 rfl ?_
          refine s_iload 0 d_S_insert_66 rfl ?_
          obtain ⟨g12, h⟩ := h
          refine s_callV (as := [aI v9]) (ci := 7) d_S_insert_68 ok_Sq_symbol lk_S_113 io_Sq_symbol so_Sq_symbol (by decide) rfl rfl rfl (Nat.le_of_ble_eq_true rfl) rfl g12 (WM.mono h ?_)
          rintro _ σ11 ⟨v11, rfl, hp, h⟩
          obtain ⟨hF12, h⟩ := h
          show WP E m_S_insert (d + 1) 71 [(7, aI v9), (6, aP v3), (5, aP v2), (4, aP v1), (0, aP 1), (1, aI x1), (2, aI x2), (3, aI x3)] [aI v11] σ11 Q
          refine s_istore d_S_insert_71 (by decide) rfl ?_
          refine s_iload 1 d_S_insert_73 rfl ?_
          refine s_iconst d_S_insert_75 ?_
          obtain ⟨g13, h⟩ := h
          refine s_icmp_eq d_S_insert_76 rfl g13 (by decide) (fun c => ?_) (fun c => ?_)
          · have h := h.1 c
            refine s_iconst d_S_insert_102 ?_
            exact s_zreturn d_S_insert_103 rfl (by decide) h
          · have h := h.2 c
            refine s_iload 0 d_S_insert_79 rfl ?_
            refine s_callS (as := [aI v11]) d_S_insert_81 ok_S_holds lk_S_119 to_S_holds rfl (Nat.le_of_ble_eq_true rfl) rfl (WM.mono h ?_)
            rintro _ σ14 ⟨v14, rfl, hp, h⟩
            obtain ⟨hF14, h⟩ := h
            show WP E m_S_insert (d + 1) 84 [(8, aI v11), (7, aI v9), (6, aP v3), (5, aP v2), (4, aP v1), (0, aP 1), (1, aI x1), (2, aI x2), (3, aI x3)] [aI v14] σ14 Q
            obtain ⟨g15, h⟩ := h
            refine s_if_ne d_S_insert_84 rfl g15 (fun c => ?_) (fun c => ?_)
            · have h := h.1 c
              refine s_iconst d_S_insert_102 ?_
              exact s_zreturn d_S_insert_103 rfl (by decide) h
            · have h := h.2 c
              refine s_aload_n 5 d_S_insert_87 rfl rfl ?_
              refine s_getF (v := σ14.1 1 0) d_S_insert_88 fl_S_10 rfl (sf_1 hF14) rfl ?_
              refine s_iload 0 d_S_insert_91 rfl ?_
              refine s_callS (as := [aI v11]) d_S_insert_93 ok_S_letterOf lk_S_116 to_S_letterOf rfl (Nat.le_of_ble_eq_true rfl) rfl (WM.mono h ?_)
              rintro _ σ16 ⟨v16, rfl, hp, h⟩
              obtain ⟨hF16, h⟩ := h
              show WP E m_S_insert (d + 1) 96 [(8, aI v11), (7, aI v9), (6, aP v3), (5, aP v2), (4, aP v1), (0, aP 1), (1, aI x1), (2, aI x2), (3, aI x3)] [aI v16, aP (σ14.1 1 0)] σ16 Q
              obtain ⟨g18, h⟩ := h
              refine s_callV (as := [aI v16]) (ci := 8) d_S_insert_96 ok_Table_hasCore lk_S_122 io_Table_hasCore so_Table_hasCore (by decide) rfl rfl rfl (Nat.le_of_ble_eq_true rfl) rfl g18 (WM.mono h ?_)
              rintro _ σ17 ⟨v17, rfl, hp, h⟩
              obtain ⟨hF18, h⟩ := h
              show WP E m_S_insert (d + 1) 99 [(8, aI v11), (7, aI v9), (6, aP v3), (5, aP v2), (4, aP v1), (0, aP 1), (1, aI x1), (2, aI x2), (3, aI x3)] [aI v17] σ17 Q
              obtain ⟨g19, h⟩ := h
              refine s_if_ne d_S_insert_99 rfl g19 (fun c => ?_) (fun c => ?_)
              · have h := h.1 c
                refine s_aload_n 5 d_S_insert_104 rfl rfl ?_
                refine s_getF (v := 10) d_S_insert_105 fl_S_38 rfl (sf_1 hF18) (ff_1 hF18) ?_
                refine s_callV (as := []) (ci := 1) d_S_insert_108 ok_Draft_clear lk_S_188 io_Draft_clear so_Draft_clear (by decide) rfl rfl rfl (Nat.le_of_ble_eq_true rfl) rfl (sf_10 hF18) (WM.mono h ?_)
                rintro _ σ20 ⟨rfl, hp, h⟩
                obtain ⟨hF20, h⟩ := h
                show WP E m_S_insert (d + 1) 111 [(8, aI v11), (7, aI v9), (6, aP v3), (5, aP v2), (4, aP v1), (0, aP 1), (1, aI x1), (2, aI x2), (3, aI x3)] [] σ20 Q
                refine s_aload_n 5 d_S_insert_111 rfl rfl ?_
                refine s_getF (v := 10) d_S_insert_112 fl_S_38 rfl (sf_1 hF20) (ff_1 hF20) ?_
                refine s_aload 3 d_S_insert_115 rfl ?_
                refine s_iconst d_S_insert_117 ?_
                refine s_iload 1 d_S_insert_118 rfl ?_
                refine s_callV (as := [aP v2, aI 0, aI v9]) (ci := 1) d_S_insert_120 ok_Draft_putAll lk_S_198 io_Draft_putAll so_Draft_putAll (by decide) rfl rfl rfl (Nat.le_of_ble_eq_true rfl) rfl (sf_10 hF20) (WM.mono h ?_)
                rintro _ σ21 ⟨rfl, hp, h⟩
                obtain ⟨hF21, h⟩ := h
                show WP E m_S_insert (d + 1) 123 [(8, aI v11), (7, aI v9), (6, aP v3), (5, aP v2), (4, aP v1), (0, aP 1), (1, aI x1), (2, aI x2), (3, aI x3)] [] σ21 Q
                refine s_aload_n 5 d_S_insert_123 rfl rfl ?_
                refine s_getF (v := 10) d_S_insert_124 fl_S_38 rfl (sf_1 hF21) (ff_1 hF21) ?_
                refine s_iload 0 d_S_insert_127 rfl ?_
                refine s_bipush d_S_insert_129 (by decide) ?_
                refine s_iadd d_S_insert_131 ?_
                refine s_callV (as := [aI (v11 + 32)]) (ci := 1) d_S_insert_132 ok_Draft_put lk_S_195 io_Draft_put so_Draft_put (by decide) rfl rfl rfl (Nat.le_of_ble_eq_true rfl) rfl (sf_10 hF21) (WM.mono h ?_)
                rintro _ σ22 ⟨rfl, hp, h⟩
                obtain ⟨hF22, h⟩ := h
                show WP E m_S_insert (d + 1) 135 [(8, aI v11), (7, aI v9), (6, aP v3), (5, aP v2), (4, aP v1), (0, aP 1), (1, aI x1), (2, aI x2), (3, aI x3)] [] σ22 Q
                refine s_aload_n 5 d_S_insert_135 rfl rfl ?_
                refine s_getF (v := 10) d_S_insert_136 fl_S_38 rfl (sf_1 hF22) (ff_1 hF22) ?_
                refine s_aload 2 d_S_insert_139 rfl ?_
                refine s_iconst d_S_insert_141 ?_
                refine s_aload 2 d_S_insert_142 rfl ?_
                obtain ⟨g24, h⟩ := h
                refine s_callV (as := []) (ci := 7) d_S_insert_144 ok_Sq_length lk_S_144 io_Sq_length so_Sq_length (by decide) rfl rfl rfl (Nat.le_of_ble_eq_true rfl) rfl g24 (WM.mono h ?_)
                rintro _ σ23 ⟨v23, rfl, hp, h⟩
                obtain ⟨hF24, h⟩ := h
                show WP E m_S_insert (d + 1) 147 [(8, aI v11), (7, aI v9), (6, aP v3), (5, aP v2), (4, aP v1), (0, aP 1), (1, aI x1), (2, aI x2), (3, aI x3)] [aI v23, aI 0, aP v3, aP 10] σ23 Q
                refine s_callV (as := [aP v3, aI 0, aI v23]) (ci := 1) d_S_insert_147 ok_Draft_putAll lk_S_198 io_Draft_putAll so_Draft_putAll (by decide) rfl rfl rfl (Nat.le_of_ble_eq_true rfl) rfl (sf_10 hF24) (WM.mono h ?_)
                rintro _ σ25 ⟨rfl, hp, h⟩
                obtain ⟨hF25, h⟩ := h
                show WP E m_S_insert (d + 1) 150 [(8, aI v11), (7, aI v9), (6, aP v3), (5, aP v2), (4, aP v1), (0, aP 1), (1, aI x1), (2, aI x2), (3, aI x3)] [] σ25 Q
                refine s_aload_n 5 d_S_insert_150 rfl rfl ?_
                refine s_getF (v := 10) d_S_insert_151 fl_S_38 rfl (sf_1 hF25) (ff_1 hF25) ?_
                refine s_aload 3 d_S_insert_154 rfl ?_
                refine s_iload 1 d_S_insert_156 rfl ?_
                refine s_iconst d_S_insert_158 ?_
                refine s_iadd d_S_insert_159 ?_
                refine s_aload 3 d_S_insert_160 rfl ?_
                obtain ⟨g27, h⟩ := h
                refine s_callV (as := []) (ci := 7) d_S_insert_162 ok_Sq_length lk_S_144 io_Sq_length so_Sq_length (by decide) rfl rfl rfl (Nat.le_of_ble_eq_true rfl) rfl g27 (WM.mono h ?_)
                rintro _ σ26 ⟨v26, rfl, hp, h⟩
                obtain ⟨hF27, h⟩ := h
                show WP E m_S_insert (d + 1) 165 [(8, aI v11), (7, aI v9), (6, aP v3), (5, aP v2), (4, aP v1), (0, aP 1), (1, aI x1), (2, aI x2), (3, aI x3)] [aI v26, aI (v9 + 1), aP v2, aP 10] σ26 Q
                refine s_callV (as := [aP v2, aI (v9 + 1), aI v26]) (ci := 1) d_S_insert_165 ok_Draft_putAll lk_S_198 io_Draft_putAll so_Draft_putAll (by decide) rfl rfl rfl (Nat.le_of_ble_eq_true rfl) rfl (sf_10 hF27) (WM.mono h ?_)
                rintro _ σ28 ⟨rfl, hp, h⟩
                obtain ⟨hF28, h⟩ := h
                show WP E m_S_insert (d + 1) 168 [(8, aI v11), (7, aI v9), (6, aP v3), (5, aP v2), (4, aP v1), (0, aP 1), (1, aI x1), (2, aI x2), (3, aI x3)] [] σ28 Q
                refine s_aload_n 5 d_S_insert_168 rfl rfl ?_
                refine s_getF (v := 10) d_S_insert_169 fl_S_38 rfl (sf_1 hF28) (ff_1 hF28) ?_
                refine s_callV (as := []) (ci := 1) d_S_insert_172 ok_Draft_made lk_S_133 io_Draft_made so_Draft_made (by decide) rfl rfl rfl (Nat.le_of_ble_eq_true rfl) rfl (sf_10 hF28) (WM.mono h ?_)
                rintro _ σ29 ⟨v29, rfl, hp, h⟩
                obtain ⟨hF29, h⟩ := h
                show WP E m_S_insert (d + 1) 175 [(8, aI v11), (7, aI v9), (6, aP v3), (5, aP v2), (4, aP v1), (0, aP 1), (1, aI x1), (2, aI x2), (3, aI x3)] [aP v29] σ29 Q
                refine s_astore d_S_insert_175 (by decide) rfl ?_
                refine s_aload_n 6 d_S_insert_177 rfl rfl ?_
                refine s_aload 0 d_S_insert_178 rfl ?_
                refine s_iconst d_S_insert_180 ?_
                refine s_callV (as := [aP v29, aI (-1)]) (ci := 9) d_S_insert_181 ok_S_spelled lk_S_205 io_S_spelled so_S_spelled (by decide) rfl rfl rfl (Nat.le_of_ble_eq_true rfl) rfl (sf_1 hF29) (WM.mono h ?_)
                rintro _ σ30 ⟨v30, rfl, hp, h⟩
                obtain ⟨hF30, h⟩ := h
                show WP E m_S_insert (d + 1) 184 [(9, aP v29), (8, aI v11), (7, aI v9), (6, aP v3), (5, aP v2), (4, aP v1), (0, aP 1), (1, aI x1), (2, aI x2), (3, aI x3)] [aP v30] σ30 Q
                obtain ⟨g31, h⟩ := h
                refine s_getF (v := σ30.1 v30 8) d_S_insert_184 fl_S_209 rfl g31 rfl ?_
                refine s_iconst d_S_insert_187 ?_
                obtain ⟨g32, h⟩ := h
                refine s_icmp_gt d_S_insert_188 rfl g32 (by decide) (fun c => ?_) (fun c => ?_)
                · have h := h.1 c
                  refine s_iconst d_S_insert_211 ?_
                  exact s_zreturn d_S_insert_212 rfl (by decide) h
                · have h := h.2 c
                  refine s_aload_n 6 d_S_insert_191 rfl rfl ?_
                  refine s_iload_n 7 d_S_insert_192 rfl rfl ?_
                  refine s_aload 5 d_S_insert_193 rfl ?_
                  refine s_iload_n 8 d_S_insert_195 rfl rfl ?_
                  refine s_aload 0 d_S_insert_196 rfl ?_
                  obtain ⟨g34, h⟩ := h
                  refine s_callV (as := [aI x2, aP v29]) (ci := 3) d_S_insert_198 ok_Line_withoutNext lk_S_162 io_Line_withoutNext so_Line_withoutNext (by decide) rfl rfl rfl (Nat.le_of_ble_eq_true rfl) rfl g34 (WM.mono h ?_)
                  rintro _ σ33 ⟨v33, rfl, hp, h⟩
                  obtain ⟨hF34, h⟩ := h
                  show WP E m_S_insert (d + 1) 201 [(9, aP v29), (8, aI v11), (7, aI v9), (6, aP v3), (5, aP v2), (4, aP v1), (0, aP 1), (1, aI x1), (2, aI x2), (3, aI x3)] [aP v33, aI x1, aP 1] σ33 Q
                  refine s_callV (as := [aI x1, aP v33]) (ci := 9) d_S_insert_201 ok_S_replaceLine lk_S_166 io_S_replaceLine so_S_replaceLine (by decide) rfl rfl rfl (Nat.le_of_ble_eq_true rfl) rfl (sf_1 hF34) (WM.mono h ?_)
                  rintro _ σ35 ⟨v35, rfl, hp, h⟩
                  show WP E m_S_insert (d + 1) 204 [(9, aP v29), (8, aI v11), (7, aI v9), (6, aP v3), (5, aP v2), (4, aP v1), (0, aP 1), (1, aI x1), (2, aI x2), (3, aI x3)] [aI v35] σ35 Q
                  obtain ⟨g36, h⟩ := h
                  refine s_if_eq d_S_insert_204 rfl g36 (fun c => ?_) (fun c => ?_)
                  · have h := h.1 c
                    refine s_iconst d_S_insert_211 ?_
                    exact s_zreturn d_S_insert_212 rfl (by decide) h
                  · have h := h.2 c
                    refine s_iconst d_S_insert_207 ?_
                    refine s_goto d_S_insert_208 rfl ?_
                    exact s_zreturn d_S_insert_212 rfl (by decide) h
              · have h := h.2 c
                refine s_iconst d_S_insert_102 ?_
                exact s_zreturn d_S_insert_103 rfl (by decide) h
        · have h := h.2 c
          refine s_iconst d_S_insert_54 ?_
          exact s_zreturn d_S_insert_55 rfl (by decide) h
theorem e_S_insert {E : EV} {d : Nat} {Q : Option AV → St → Prop} {σ : St} (x1 x2 x3 : Int) (hF : Fix σ) (h : (WMr E m_S_lineAt d [aP 1, aI x1] σ (fun v1 σ1 => Fix σ1 ∧ (WMr E m_S_squareAt d [aP 1, aI x1, aI x2] σ1 (fun v2 σ2 => Fix σ2 ∧ (WMr E m_S_squareBehind d [aP 1, aI x1, aI x2] σ2 (fun v3 σ3 => Fix σ3 ∧ ((v1 = 0 → Q (some (aI 0)) σ3) ∧ (¬ v1 = 0 → ((v2 = 0 → Q (some (aI 0)) σ3) ∧ (¬ v2 = 0 → ((v3 = 0 → Q (some (aI 0)) σ3) ∧ (¬ v3 = 0 → (sh σ3 v2 = some (7, 1)) ∧ (WMi E m_Sq_signs d [aP v2] σ3 (fun v4 σ4 => Fix σ4 ∧ (sh σ4 v3 = some (7, 1)) ∧ (WMi E m_Sq_signs d [aP v3] σ4 (fun v6 σ6 => Fix σ6 ∧ (rI (v4 + v6)) ∧ (((v4 + v6) ≤ 10 → (sh σ6 v2 = some (7, 1)) ∧ (WMi E m_Sq_placeOf d [aP v2, aI x3] σ6 (fun v9 σ9 => Fix σ9 ∧ (sh σ9 v2 = some (7, 1)) ∧ (WMi E m_Sq_symbol d [aP v2, aI v9] σ9 (fun v11 σ11 => Fix σ11 ∧ (rI v9) ∧ ((v9 = (-1) → Q (some (aI 0)) σ11) ∧ (¬ v9 = (-1) → (WMi E m_S_holds d [aI v11] σ11 (fun v14 σ14 => Fix σ14 ∧ (rI v14) ∧ ((¬ v14 = 0 → Q (some (aI 0)) σ14) ∧ (v14 = 0 → (WMi E m_S_letterOf d [aI v11] σ14 (fun v16 σ16 => Fix σ16 ∧ (sh σ16 (σ14.1 1 0) = some (8, 4)) ∧ (WMi E m_Table_hasCore d [aP (σ14.1 1 0), aI v16] σ16 (fun v17 σ17 => Fix σ17 ∧ (rI v17) ∧ ((¬ v17 = 0 → (WMv E m_Draft_clear d [aP 10] σ17 (fun σ20 => Fix σ20 ∧ (WMv E m_Draft_putAll d [aP 10, aP v2, aI 0, aI v9] σ20 (fun σ21 => Fix σ21 ∧ (WMv E m_Draft_put d [aP 10, aI (v11 + 32)] σ21 (fun σ22 => Fix σ22 ∧ (sh σ22 v3 = some (7, 1)) ∧ (WMi E m_Sq_length d [aP v3] σ22 (fun v23 σ23 => Fix σ23 ∧ (WMv E m_Draft_putAll d [aP 10, aP v3, aI 0, aI v23] σ23 (fun σ25 => Fix σ25 ∧ (sh σ25 v2 = some (7, 1)) ∧ (WMi E m_Sq_length d [aP v2] σ25 (fun v26 σ26 => Fix σ26 ∧ (WMv E m_Draft_putAll d [aP 10, aP v2, aI (v9 + 1), aI v26] σ26 (fun σ28 => Fix σ28 ∧ (WMr E m_Draft_made d [aP 10] σ28 (fun v29 σ29 => Fix σ29 ∧ (WMr E m_S_spelled d [aP 1, aP v29, aI (-1)] σ29 (fun v30 σ30 => Fix σ30 ∧ (sh σ30 v30 = some (6, 9)) ∧ (rI (σ30.1 v30 8)) ∧ ((3 < (σ30.1 v30 8) → Q (some (aI 0)) σ30) ∧ (¬ 3 < (σ30.1 v30 8) → (sh σ30 v1 = some (3, 2)) ∧ (WMr E m_Line_withoutNext d [aP v1, aI x2, aP v29] σ30 (fun v33 σ33 => Fix σ33 ∧ (WMi E m_S_replaceLine d [aP 1, aI x1, aP v33] σ33 (fun v35 σ35 => (rI v35) ∧ ((v35 = 0 → Q (some (aI 0)) σ35) ∧ (¬ v35 = 0 → Q (some (aI 1)) σ35))))))))))))))))))))))))))) ∧ (v17 = 0 → Q (some (aI 0)) σ17))))))))))))))))) ∧ (¬ (v4 + v6) ≤ 10 → Q (some (aI 0)) σ6))))))))))))))))))) : WM E m_S_insert (d + 1) [aP 1, aI x1, aI x2, aI x3] σ Q := s_meth (by decide) (Nat.le_of_ble_eq_true rfl) rfl (b_S_insert_0 x1 x2 x3 hF h)
theorem d_S_spelled_0 : decode m_S_spelled.2.1 0 = .ok (.aload_n 0, 1) := by decide +kernel
theorem d_S_spelled_1 : decode m_S_spelled.2.1 1 = .ok (.getfield 59, 3) := by decide +kernel
theorem d_S_spelled_4 : decode m_S_spelled.2.1 4 = .ok (.iload_n 2, 1) := by decide +kernel
theorem d_S_spelled_5 : decode m_S_spelled.2.1 5 = .ok (.invokevirtual 331, 3) := by decide +kernel
theorem d_S_spelled_8 : decode m_S_spelled.2.1 8 = .ok (.aload_n 0, 1) := by decide +kernel
theorem d_S_spelled_9 : decode m_S_spelled.2.1 9 = .ok (.getfield 59, 3) := by decide +kernel
theorem d_S_spelled_12 : decode m_S_spelled.2.1 12 = .ok (.aload_n 1, 1) := by decide +kernel
theorem d_S_spelled_13 : decode m_S_spelled.2.1 13 = .ok (.iconst 0, 1) := by decide +kernel
theorem d_S_spelled_14 : decode m_S_spelled.2.1 14 = .ok (.iconst (-1), 1) := by decide +kernel
theorem d_S_spelled_15 : decode m_S_spelled.2.1 15 = .ok (.invokevirtual 341, 3) := by decide +kernel
theorem d_S_spelled_18 : decode m_S_spelled.2.1 18 = .ok (.pop, 1) := by decide +kernel
theorem d_S_spelled_19 : decode m_S_spelled.2.1 19 = .ok (.aload_n 0, 1) := by decide +kernel
theorem d_S_spelled_20 : decode m_S_spelled.2.1 20 = .ok (.getfield 59, 3) := by decide +kernel
theorem d_S_spelled_23 : decode m_S_spelled.2.1 23 = .ok (.areturn, 1) := by decide +kernel
theorem b_S_spelled_0 {E : EV} {d : Nat} {Q : Option AV → St → Prop} {σ : St} (x1 x2 : Int) (hF : Fix σ) (h : (WMv E m_Speller_begin d [aP 31, aI x2] σ (fun σ1 => Fix σ1 ∧ (WMi E m_Speller_writePart d [aP 31, aP x1, aI 0, aI (-1)] σ1 (fun v2 σ2 => Fix σ2 ∧ Q (some (aP 31)) σ2))))) : WP E m_S_spelled (d + 1) 0 [(0, aP 1), (1, aP x1), (2, aI x2)] [] σ Q := by
  refine s_aload_n 0 d_S_spelled_0 rfl rfl ?_
  refine s_getF (v := 31) d_S_spelled_1 fl_S_59 rfl (sf_1 hF) (ff_4 hF) ?_
  refine s_iload_n 2 d_S_spelled_4 rfl rfl ?_
  refine s_callV (as := [aI x2]) (ci := 6) d_S_spelled_5 ok_Speller_begin lk_S_331 io_Speller_begin so_Speller_begin (by decide) rfl rfl rfl (Nat.le_of_ble_eq_true rfl) rfl (sf_31 hF) (WM.mono h ?_)
  rintro _ σ1 ⟨rfl, hp, h⟩
  obtain ⟨hF1, h⟩ := h
  show WP E m_S_spelled (d + 1) 8 [(0, aP 1), (1, aP x1), (2, aI x2)] [] σ1 Q
  refine s_aload_n 0 d_S_spelled_8 rfl rfl ?_
  refine s_getF (v := 31) d_S_spelled_9 fl_S_59 rfl (sf_1 hF1) (ff_4 hF1) ?_
  refine s_aload_n 1 d_S_spelled_12 rfl rfl ?_
  refine s_iconst d_S_spelled_13 ?_
  refine s_iconst d_S_spelled_14 ?_
  refine s_callV (as := [aP x1, aI 0, aI (-1)]) (ci := 6) d_S_spelled_15 ok_Speller_writePart lk_S_341 io_Speller_writePart so_Speller_writePart (by decide) rfl rfl rfl (Nat.le_of_ble_eq_true rfl) rfl (sf_31 hF1) (WM.mono h ?_)
  rintro _ σ2 ⟨v2, rfl, hp, h⟩
  obtain ⟨hF2, h⟩ := h
  show WP E m_S_spelled (d + 1) 18 [(0, aP 1), (1, aP x1), (2, aI x2)] [aI v2] σ2 Q
  refine s_pop d_S_spelled_18 (Nat.ne_of_beq_eq_false rfl) ?_
  refine s_aload_n 0 d_S_spelled_19 rfl rfl ?_
  refine s_getF (v := 31) d_S_spelled_20 fl_S_59 rfl (sf_1 hF2) (ff_4 hF2) ?_
  exact s_areturn d_S_spelled_23 rfl (Or.inl ⟨_, rfl⟩) h
theorem e_S_spelled {E : EV} {d : Nat} {Q : Option AV → St → Prop} {σ : St} (x1 x2 : Int) (hF : Fix σ) (h : (WMv E m_Speller_begin d [aP 31, aI x2] σ (fun σ1 => Fix σ1 ∧ (WMi E m_Speller_writePart d [aP 31, aP x1, aI 0, aI (-1)] σ1 (fun v2 σ2 => Fix σ2 ∧ Q (some (aP 31)) σ2))))) : WM E m_S_spelled (d + 1) [aP 1, aP x1, aI x2] σ Q := s_meth (by decide) (Nat.le_of_ble_eq_true rfl) rfl (b_S_spelled_0 x1 x2 hF h)
theorem d_S_release_0 : decode m_S_release.2.1 0 = .ok (.aload_n 0, 1) := by decide +kernel
theorem d_S_release_1 : decode m_S_release.2.1 1 = .ok (.iload_n 1, 1) := by decide +kernel
theorem d_S_release_2 : decode m_S_release.2.1 2 = .ok (.invokevirtual 158, 3) := by decide +kernel
theorem d_S_release_5 : decode m_S_release.2.1 5 = .ok (.astore 4, 2) := by decide +kernel
theorem d_S_release_7 : decode m_S_release.2.1 7 = .ok (.aload_n 0, 1) := by decide +kernel
theorem d_S_release_8 : decode m_S_release.2.1 8 = .ok (.iload_n 1, 1) := by decide +kernel
theorem d_S_release_9 : decode m_S_release.2.1 9 = .ok (.iload_n 2, 1) := by decide +kernel
theorem d_S_release_10 : decode m_S_release.2.1 10 = .ok (.invokevirtual 99, 3) := by decide +kernel
theorem d_S_release_13 : decode m_S_release.2.1 13 = .ok (.astore 5, 2) := by decide +kernel
theorem d_S_release_15 : decode m_S_release.2.1 15 = .ok (.aload 4, 2) := by decide +kernel
theorem d_S_release_17 : decode m_S_release.2.1 17 = .ok (.ifnull 18, 3) := by decide +kernel
theorem d_S_release_20 : decode m_S_release.2.1 20 = .ok (.aload 5, 2) := by decide +kernel
theorem d_S_release_22 : decode m_S_release.2.1 22 = .ok (.ifnull 13, 3) := by decide +kernel
theorem d_S_release_25 : decode m_S_release.2.1 25 = .ok (.aload 4, 2) := by decide +kernel
theorem d_S_release_27 : decode m_S_release.2.1 27 = .ok (.invokevirtual 170, 3) := by decide +kernel
theorem d_S_release_30 : decode m_S_release.2.1 30 = .ok (.bipush 8, 2) := by decide +kernel
theorem d_S_release_32 : decode m_S_release.2.1 32 = .ok (.if_icmp .lt 5, 3) := by decide +kernel
theorem d_S_release_35 : decode m_S_release.2.1 35 = .ok (.iconst 0, 1) := by decide +kernel
theorem d_S_release_36 : decode m_S_release.2.1 36 = .ok (.ireturn, 1) := by decide +kernel
theorem d_S_release_37 : decode m_S_release.2.1 37 = .ok (.aload 5, 2) := by decide +kernel
theorem d_S_release_39 : decode m_S_release.2.1 39 = .ok (.iload_n 3, 1) := by decide +kernel
theorem d_S_release_40 : decode m_S_release.2.1 40 = .ok (.invokevirtual 107, 3) := by decide +kernel
theorem d_S_release_43 : decode m_S_release.2.1 43 = .ok (.istore 6, 2) := by decide +kernel
theorem d_S_release_45 : decode m_S_release.2.1 45 = .ok (.aload 5, 2) := by decide +kernel
theorem d_S_release_47 : decode m_S_release.2.1 47 = .ok (.iload 6, 2) := by decide +kernel
theorem d_S_release_49 : decode m_S_release.2.1 49 = .ok (.invokevirtual 113, 3) := by decide +kernel
theorem d_S_release_52 : decode m_S_release.2.1 52 = .ok (.istore 7, 2) := by decide +kernel
theorem d_S_release_54 : decode m_S_release.2.1 54 = .ok (.iload 6, 2) := by decide +kernel
theorem d_S_release_56 : decode m_S_release.2.1 56 = .ok (.iconst (-1), 1) := by decide +kernel
theorem d_S_release_57 : decode m_S_release.2.1 57 = .ok (.if_icmp .eq 11, 3) := by decide +kernel
theorem d_S_release_60 : decode m_S_release.2.1 60 = .ok (.iload 7, 2) := by decide +kernel
theorem d_S_release_62 : decode m_S_release.2.1 62 = .ok (.invokestatic 119, 3) := by decide +kernel
theorem d_S_release_65 : decode m_S_release.2.1 65 = .ok (.ifCond .ne 5, 3) := by decide +kernel
theorem d_S_release_68 : decode m_S_release.2.1 68 = .ok (.iconst 0, 1) := by decide +kernel
theorem d_S_release_69 : decode m_S_release.2.1 69 = .ok (.ireturn, 1) := by decide +kernel
theorem d_S_release_70 : decode m_S_release.2.1 70 = .ok (.aload 5, 2) := by decide +kernel
theorem d_S_release_72 : decode m_S_release.2.1 72 = .ok (.iload 6, 2) := by decide +kernel
theorem d_S_release_74 : decode m_S_release.2.1 74 = .ok (.invokevirtual 173, 3) := by decide +kernel
theorem d_S_release_77 : decode m_S_release.2.1 77 = .ok (.istore 8, 2) := by decide +kernel
theorem d_S_release_79 : decode m_S_release.2.1 79 = .ok (.aload_n 0, 1) := by decide +kernel
theorem d_S_release_80 : decode m_S_release.2.1 80 = .ok (.aload 5, 2) := by decide +kernel
theorem d_S_release_82 : decode m_S_release.2.1 82 = .ok (.iload 6, 2) := by decide +kernel
theorem d_S_release_84 : decode m_S_release.2.1 84 = .ok (.iconst 1, 1) := by decide +kernel
theorem d_S_release_85 : decode m_S_release.2.1 85 = .ok (.iadd, 1) := by decide +kernel
theorem d_S_release_86 : decode m_S_release.2.1 86 = .ok (.iload 8, 2) := by decide +kernel
theorem d_S_release_88 : decode m_S_release.2.1 88 = .ok (.invokevirtual 176, 3) := by decide +kernel
theorem d_S_release_91 : decode m_S_release.2.1 91 = .ok (.astore 9, 2) := by decide +kernel
theorem d_S_release_93 : decode m_S_release.2.1 93 = .ok (.aload_n 0, 1) := by decide +kernel
theorem d_S_release_94 : decode m_S_release.2.1 94 = .ok (.getfield 38, 3) := by decide +kernel
theorem d_S_release_97 : decode m_S_release.2.1 97 = .ok (.invokevirtual 188, 3) := by decide +kernel
theorem d_S_release_100 : decode m_S_release.2.1 100 = .ok (.aload_n 0, 1) := by decide +kernel
theorem d_S_release_101 : decode m_S_release.2.1 101 = .ok (.getfield 38, 3) := by decide +kernel
theorem d_S_release_104 : decode m_S_release.2.1 104 = .ok (.aload 5, 2) := by decide +kernel
theorem d_S_release_106 : decode m_S_release.2.1 106 = .ok (.iconst 0, 1) := by decide +kernel
theorem d_S_release_107 : decode m_S_release.2.1 107 = .ok (.iload 6, 2) := by decide +kernel
theorem d_S_release_109 : decode m_S_release.2.1 109 = .ok (.invokevirtual 198, 3) := by decide +kernel
theorem d_S_release_112 : decode m_S_release.2.1 112 = .ok (.aload_n 0, 1) := by decide +kernel
theorem d_S_release_113 : decode m_S_release.2.1 113 = .ok (.getfield 38, 3) := by decide +kernel
theorem d_S_release_116 : decode m_S_release.2.1 116 = .ok (.iload 7, 2) := by decide +kernel
theorem d_S_release_118 : decode m_S_release.2.1 118 = .ok (.invokestatic 116, 3) := by decide +kernel
theorem d_S_release_121 : decode m_S_release.2.1 121 = .ok (.invokevirtual 195, 3) := by decide +kernel
theorem d_S_release_124 : decode m_S_release.2.1 124 = .ok (.aload_n 0, 1) := by decide +kernel
theorem d_S_release_125 : decode m_S_release.2.1 125 = .ok (.getfield 38, 3) := by decide +kernel
theorem d_S_release_128 : decode m_S_release.2.1 128 = .ok (.aload 5, 2) := by decide +kernel
theorem d_S_release_130 : decode m_S_release.2.1 130 = .ok (.iload 8, 2) := by decide +kernel
theorem d_S_release_132 : decode m_S_release.2.1 132 = .ok (.aload 5, 2) := by decide +kernel
theorem d_S_release_134 : decode m_S_release.2.1 134 = .ok (.invokevirtual 144, 3) := by decide +kernel
theorem d_S_release_137 : decode m_S_release.2.1 137 = .ok (.invokevirtual 198, 3) := by decide +kernel
theorem d_S_release_140 : decode m_S_release.2.1 140 = .ok (.aload_n 0, 1) := by decide +kernel
theorem d_S_release_141 : decode m_S_release.2.1 141 = .ok (.iload_n 1, 1) := by decide +kernel
theorem d_S_release_142 : decode m_S_release.2.1 142 = .ok (.aload 4, 2) := by decide +kernel
theorem d_S_release_144 : decode m_S_release.2.1 144 = .ok (.iload_n 2, 1) := by decide +kernel
theorem d_S_release_145 : decode m_S_release.2.1 145 = .ok (.aload_n 0, 1) := by decide +kernel
theorem d_S_release_146 : decode m_S_release.2.1 146 = .ok (.getfield 38, 3) := by decide +kernel
theorem d_S_release_149 : decode m_S_release.2.1 149 = .ok (.invokevirtual 133, 3) := by decide +kernel
theorem d_S_release_152 : decode m_S_release.2.1 152 = .ok (.aload 9, 2) := by decide +kernel
theorem d_S_release_154 : decode m_S_release.2.1 154 = .ok (.invokevirtual 180, 3) := by decide +kernel
theorem d_S_release_157 : decode m_S_release.2.1 157 = .ok (.invokevirtual 166, 3) := by decide +kernel
theorem d_S_release_160 : decode m_S_release.2.1 160 = .ok (.ireturn, 1) := by decide +kernel
theorem b_S_release_0 {E : EV} {d : Nat} {Q : Option AV → St → Prop} {σ : St} (x1 x2 x3 : Int) (hF : Fix σ) (h : (WMr E m_S_lineAt d [aP 1, aI x1] σ (fun v1 σ1 => Fix σ1 ∧ (WMr E m_S_squareAt d [aP 1, aI x1, aI x2] σ1 (fun v2 σ2 => Fix σ2 ∧ ((v1 = 0 → Q (some (aI 0)) σ2) ∧ (¬ v1 = 0 → ((v2 = 0 → Q (some (aI 0)) σ2) ∧ (¬ v2 = 0 → (sh σ2 v1 = some (3, 2)) ∧ (WMi E m_Line_size d [aP v1] σ2 (fun v3 σ3 => Fix σ3 ∧ (rI v3) ∧ ((v3 < 8 → (sh σ3 v2 = some (7, 1)) ∧ (WMi E m_Sq_placeOf d [aP v2, aI x3] σ3 (fun v6 σ6 => Fix σ6 ∧ (sh σ6 v2 = some (7, 1)) ∧ (WMi E m_Sq_symbol d [aP v2, aI v6] σ6 (fun v8 σ8 => Fix σ8 ∧ (rI v6) ∧ ((v6 = (-1) → Q (some (aI 0)) σ8) ∧ (¬ v6 = (-1) → (WMi E m_S_holds d [aI v8] σ8 (fun v11 σ11 => Fix σ11 ∧ (rI v11) ∧ ((¬ v11 = 0 → (sh σ11 v2 = some (7, 1)) ∧ (WMi E m_Sq_endOf d [aP v2, aI v6] σ11 (fun v13 σ13 => Fix σ13 ∧ (WMr E m_S_slice d [aP 1, aP v2, aI (v6 + 1), aI v13] σ13 (fun v15 σ15 => Fix σ15 ∧ (WMv E m_Draft_clear d [aP 10] σ15 (fun σ16 => Fix σ16 ∧ (WMv E m_Draft_putAll d [aP 10, aP v2, aI 0, aI v6] σ16 (fun σ17 => Fix σ17 ∧ (WMi E m_S_letterOf d [aI v8] σ17 (fun v18 σ18 => Fix σ18 ∧ (WMv E m_Draft_put d [aP 10, aI v18] σ18 (fun σ19 => Fix σ19 ∧ (sh σ19 v2 = some (7, 1)) ∧ (WMi E m_Sq_length d [aP v2] σ19 (fun v20 σ20 => Fix σ20 ∧ (WMv E m_Draft_putAll d [aP 10, aP v2, aI v13, aI v20] σ20 (fun σ22 => Fix σ22 ∧ (WMr E m_Draft_made d [aP 10] σ22 (fun v23 σ23 => Fix σ23 ∧ (sh σ23 v1 = some (3, 2)) ∧ (WMr E m_Line_withNext d [aP v1, aI x2, aP v23, aP v15] σ23 (fun v24 σ24 => Fix σ24 ∧ (WMi E m_S_replaceLine d [aP 1, aI x1, aP v24] σ24 (fun v26 σ26 => (v26 = 0 ∨ v26 = 1) ∧ Q (some (aI v26)) σ26))))))))))))))))))))))) ∧ (v11 = 0 → Q (some (aI 0)) σ11))))))))))) ∧ (¬ v3 < 8 → Q (some (aI 0)) σ3))))))))))))) : WP E m_S_release (d + 1) 0 [(0, aP 1), (1, aI x1), (2, aI x2), (3, aI x3)] [] σ Q := by
  refine s_aload_n 0 d_S_release_0 rfl rfl ?_
  refine s_iload_n 1 d_S_release_1 rfl rfl ?_
  refine s_callV (as := [aI x1]) (ci := 9) d_S_release_2 ok_S_lineAt lk_S_158 io_S_lineAt so_S_lineAt (by decide) rfl rfl rfl (Nat.le_of_ble_eq_true rfl) rfl (sf_1 hF) (WM.mono h ?_)
  rintro _ σ1 ⟨v1, rfl, hp, h⟩
  obtain ⟨hF1, h⟩ := h
  show WP E m_S_release (d + 1) 5 [(0, aP 1), (1, aI x1), (2, aI x2), (3, aI x3)] [aP v1] σ1 Q
  refine s_astore d_S_release_5 (by decide) rfl ?_
  refine s_aload_n 1 d_S_release_7 rfl rfl ?_
  refine s_iload_n 2 d_S_release_8 rfl rfl ?_
  refine s_iload_n 3 d_S_release_9 rfl rfl ?_
  refine s_callV (as := [aI x1, aI x2]) (ci := 9) d_S_release_10 ok_S_squareAt lk_S_99 io_S_squareAt so_S_squareAt (by decide) rfl rfl rfl (Nat.le_of_ble_eq_true rfl) rfl (sf_1 hF1) (WM.mono h ?_)
  rintro _ σ2 ⟨v2, rfl, hp, h⟩
  obtain ⟨hF2, h⟩ := h
  show WP E m_S_release (d + 1) 13 [(4, aP v1), (0, aP 1), (1, aI x1), (2, aI x2), (3, aI x3)] [aP v2] σ2 Q
  refine s_astore d_S_release_13 (by decide) rfl ?_
  refine s_aload 1 d_S_release_15 rfl ?_
  refine s_ifnull d_S_release_17 rfl (fun c => ?_) (fun c => ?_)
  · have h := h.1 c
    refine s_iconst d_S_release_35 ?_
    exact s_zreturn d_S_release_36 rfl (by decide) h
  · have h := h.2 c
    refine s_aload 0 d_S_release_20 rfl ?_
    refine s_ifnull d_S_release_22 rfl (fun c => ?_) (fun c => ?_)
    · have h := h.1 c
      refine s_iconst d_S_release_35 ?_
      exact s_zreturn d_S_release_36 rfl (by decide) h
    · have h := h.2 c
      refine s_aload 1 d_S_release_25 rfl ?_
      obtain ⟨g4, h⟩ := h
      refine s_callV (as := []) (ci := 3) d_S_release_27 ok_Line_size lk_S_170 io_Line_size so_Line_size (by decide) rfl rfl rfl (Nat.le_of_ble_eq_true rfl) rfl g4 (WM.mono h ?_)
      rintro _ σ3 ⟨v3, rfl, hp, h⟩
      obtain ⟨hF4, h⟩ := h
      show WP E m_S_release (d + 1) 30 [(5, aP v2), (4, aP v1), (0, aP 1), (1, aI x1), (2, aI x2), (3, aI x3)] [aI v3] σ3 Q
      refine s_bipush d_S_release_30 (by decide) ?_
      obtain ⟨g5, h⟩ := h
      refine s_icmp_lt d_S_release_32 rfl g5 (by decide) (fun c => ?_) (fun c => ?_)
      · have h := h.1 c
        refine s_aload 0 d_S_release_37 rfl ?_
        refine s_iload_n 5 d_S_release_39 rfl rfl ?_
        obtain ⟨g7, h⟩ := h
        refine s_callV (as := [aI x3]) (ci := 7) d_S_release_40 ok_Sq_placeOf lk_S_107 io_Sq_placeOf so_Sq_placeOf (by decide) rfl rfl rfl (Nat.le_of_ble_eq_true rfl) rfl g7 (WM.mono h ?_)
        rintro _ σ6 ⟨v6, rfl, hp, h⟩
        obtain ⟨hF7, h⟩ := h
        show WP E m_S_release (d + 1) 43 [(5, aP v2), (4, aP v1), (0, aP 1), (1, aI x1), (2, aI x2), (3, aI x3)] [aI v6] σ6 Q
        refine s_istore d_S_release_43 (by decide) rfl ?_
        refine s_aload 1 d_S_release_45 rfl ?_
        refine s_iload 0 d_S_release_47 rfl ?_
        obtain ⟨g9, h⟩ := h
        refine s_callV (as := [aI v6]) (ci := 7) d_S_release_49 ok_Sq_symbol lk_S_113 io_Sq_symbol so_Sq_symbol (by decide) rfl rfl rfl (Nat.le_of_ble_eq_true rfl) rfl g9 (WM.mono h ?_)
        rintro _ σ8 ⟨v8, rfl, hp, h⟩
        obtain ⟨hF9, h⟩ := h
        show WP E m_S_release (d + 1) 52 [(6, aI v6), (5, aP v2), (4, aP v1), (0, aP 1), (1, aI x1), (2, aI x2), (3, aI x3)] [aI v8] σ8 Q
        refine s_istore d_S_release_52 (by decide) rfl ?_
        refine s_iload 1 d_S_release_54 rfl ?_
        refine s_iconst d_S_release_56 ?_
        obtain ⟨g10, h⟩ := h
        refine s_icmp_eq d_S_release_57 rfl g10 (by decide) (fun c => ?_) (fun c => ?_)
        · have h := h.1 c
          refine s_iconst d_S_release_68 ?_
          exact s_zreturn d_S_release_69 rfl (by decide) h
        · have h := h.2 c
          refine s_iload 0 d_S_release_60 rfl ?_
          refine s_callS (as := [aI v8]) d_S_release_62 ok_S_holds lk_S_119 to_S_holds rfl (Nat.le_of_ble_eq_true rfl) rfl (WM.mono h ?_)
          rintro _ σ11 ⟨v11, rfl, hp, h⟩
          obtain ⟨hF11, h⟩ := h
          show WP E m_S_release (d + 1) 65 [(7, aI v8), (6, aI v6), (5, aP v2), (4, aP v1), (0, aP 1), (1, aI x1), (2, aI x2), (3, aI x3)] [aI v11] σ11 Q
          obtain ⟨g12, h⟩ := h
          refine s_if_ne d_S_release_65 rfl g12 (fun c => ?_) (fun c => ?_)
          · have h := h.1 c
            refine s_aload 2 d_S_release_70 rfl ?_
            refine s_iload 1 d_S_release_72 rfl ?_
            obtain ⟨g14, h⟩ := h
            refine s_callV (as := [aI v6]) (ci := 7) d_S_release_74 ok_Sq_endOf lk_S_173 io_Sq_endOf so_Sq_endOf (by decide) rfl rfl rfl (Nat.le_of_ble_eq_true rfl) rfl g14 (WM.mono h ?_)
            rintro _ σ13 ⟨v13, rfl, hp, h⟩
            obtain ⟨hF14, h⟩ := h
            show WP E m_S_release (d + 1) 77 [(7, aI v8), (6, aI v6), (5, aP v2), (4, aP v1), (0, aP 1), (1, aI x1), (2, aI x2), (3, aI x3)] [aI v13] σ13 Q
            refine s_istore d_S_release_77 (by decide) rfl ?_
            refine s_aload_n 5 d_S_release_79 rfl rfl ?_
            refine s_aload 3 d_S_release_80 rfl ?_
            refine s_iload 2 d_S_release_82 rfl ?_
            refine s_iconst d_S_release_84 ?_
            refine s_iadd d_S_release_85 ?_
            refine s_iload 0 d_S_release_86 rfl ?_
            refine s_callV (as := [aP v2, aI (v6 + 1), aI v13]) (ci := 9) d_S_release_88 ok_S_slice lk_S_176 io_S_slice so_S_slice (by decide) rfl rfl rfl (Nat.le_of_ble_eq_true rfl) rfl (sf_1 hF14) (WM.mono h ?_)
            rintro _ σ15 ⟨v15, rfl, hp, h⟩
            obtain ⟨hF15, h⟩ := h
            show WP E m_S_release (d + 1) 91 [(8, aI v13), (7, aI v8), (6, aI v6), (5, aP v2), (4, aP v1), (0, aP 1), (1, aI x1), (2, aI x2), (3, aI x3)] [aP v15] σ15 Q
            refine s_astore d_S_release_91 (by decide) rfl ?_
            refine s_aload_n 6 d_S_release_93 rfl rfl ?_
            refine s_getF (v := 10) d_S_release_94 fl_S_38 rfl (sf_1 hF15) (ff_1 hF15) ?_
            refine s_callV (as := []) (ci := 1) d_S_release_97 ok_Draft_clear lk_S_188 io_Draft_clear so_Draft_clear (by decide) rfl rfl rfl (Nat.le_of_ble_eq_true rfl) rfl (sf_10 hF15) (WM.mono h ?_)
            rintro _ σ16 ⟨rfl, hp, h⟩
            obtain ⟨hF16, h⟩ := h
            show WP E m_S_release (d + 1) 100 [(9, aP v15), (8, aI v13), (7, aI v8), (6, aI v6), (5, aP v2), (4, aP v1), (0, aP 1), (1, aI x1), (2, aI x2), (3, aI x3)] [] σ16 Q
            refine s_aload_n 6 d_S_release_100 rfl rfl ?_
            refine s_getF (v := 10) d_S_release_101 fl_S_38 rfl (sf_1 hF16) (ff_1 hF16) ?_
            refine s_aload 4 d_S_release_104 rfl ?_
            refine s_iconst d_S_release_106 ?_
            refine s_iload 3 d_S_release_107 rfl ?_
            refine s_callV (as := [aP v2, aI 0, aI v6]) (ci := 1) d_S_release_109 ok_Draft_putAll lk_S_198 io_Draft_putAll so_Draft_putAll (by decide) rfl rfl rfl (Nat.le_of_ble_eq_true rfl) rfl (sf_10 hF16) (WM.mono h ?_)
            rintro _ σ17 ⟨rfl, hp, h⟩
            obtain ⟨hF17, h⟩ := h
            show WP E m_S_release (d + 1) 112 [(9, aP v15), (8, aI v13), (7, aI v8), (6, aI v6), (5, aP v2), (4, aP v1), (0, aP 1), (1, aI x1), (2, aI x2), (3, aI x3)] [] σ17 Q
            refine s_aload_n 6 d_S_release_112 rfl rfl ?_
            refine s_getF (v := 10) d_S_release_113 fl_S_38 rfl (sf_1 hF17) (ff_1 hF17) ?_
            refine s_iload 2 d_S_release_116 rfl ?_
            refine s_callS (as := [aI v8]) d_S_release_118 ok_S_letterOf lk_S_116 to_S_letterOf rfl (Nat.le_of_ble_eq_true rfl) rfl (WM.mono h ?_)
            rintro _ σ18 ⟨v18, rfl, hp, h⟩
            obtain ⟨hF18, h⟩ := h
            show WP E m_S_release (d + 1) 121 [(9, aP v15), (8, aI v13), (7, aI v8), (6, aI v6), (5, aP v2), (4, aP v1), (0, aP 1), (1, aI x1), (2, aI x2), (3, aI x3)] [aI v18, aP 10] σ18 Q
            refine s_callV (as := [aI v18]) (ci := 1) d_S_release_121 ok_Draft_put lk_S_195 io_Draft_put so_Draft_put (by decide) rfl rfl rfl (Nat.le_of_ble_eq_true rfl) rfl (sf_10 hF18) (WM.mono h ?_)
            rintro _ σ19 ⟨rfl, hp, h⟩
            obtain ⟨hF19, h⟩ := h
            show WP E m_S_release (d + 1) 124 [(9, aP v15), (8, aI v13), (7, aI v8), (6, aI v6), (5, aP v2), (4, aP v1), (0, aP 1), (1, aI x1), (2, aI x2), (3, aI x3)] [] σ19 Q
            refine s_aload_n 6 d_S_release_124 rfl rfl ?_
            refine s_getF (v := 10) d_S_release_125 fl_S_38 rfl (sf_1 hF19) (ff_1 hF19) ?_
            refine s_aload 4 d_S_release_128 rfl ?_
            refine s_iload 1 d_S_release_130 rfl ?_
            refine s_aload 4 d_S_release_132 rfl ?_
            obtain ⟨g21, h⟩ := h
            refine s_callV (as := []) (ci := 7) d_S_release_134 ok_Sq_length lk_S_144 io_Sq_length so_Sq_length (by decide) rfl rfl rfl (Nat.le_of_ble_eq_true rfl) rfl g21 (WM.mono h ?_)
            rintro _ σ20 ⟨v20, rfl, hp, h⟩
            obtain ⟨hF21, h⟩ := h
            show WP E m_S_release (d + 1) 137 [(9, aP v15), (8, aI v13), (7, aI v8), (6, aI v6), (5, aP v2), (4, aP v1), (0, aP 1), (1, aI x1), (2, aI x2), (3, aI x3)] [aI v20, aI v13, aP v2, aP 10] σ20 Q
            refine s_callV (as := [aP v2, aI v13, aI v20]) (ci := 1) d_S_release_137 ok_Draft_putAll lk_S_198 io_Draft_putAll so_Draft_putAll (by decide) rfl rfl rfl (Nat.le_of_ble_eq_true rfl) rfl (sf_10 hF21) (WM.mono h ?_)
            rintro _ σ22 ⟨rfl, hp, h⟩
            obtain ⟨hF22, h⟩ := h
            show WP E m_S_release (d + 1) 140 [(9, aP v15), (8, aI v13), (7, aI v8), (6, aI v6), (5, aP v2), (4, aP v1), (0, aP 1), (1, aI x1), (2, aI x2), (3, aI x3)] [] σ22 Q
            refine s_aload_n 6 d_S_release_140 rfl rfl ?_
            refine s_iload_n 7 d_S_release_141 rfl rfl ?_
            refine s_aload 5 d_S_release_142 rfl ?_
            refine s_iload_n 8 d_S_release_144 rfl rfl ?_
            refine s_aload_n 6 d_S_release_145 rfl rfl ?_
            refine s_getF (v := 10) d_S_release_146 fl_S_38 rfl (sf_1 hF22) (ff_1 hF22) ?_
            refine s_callV (as := []) (ci := 1) d_S_release_149 ok_Draft_made lk_S_133 io_Draft_made so_Draft_made (by decide) rfl rfl rfl (Nat.le_of_ble_eq_true rfl) rfl (sf_10 hF22) (WM.mono h ?_)
            rintro _ σ23 ⟨v23, rfl, hp, h⟩
            obtain ⟨hF23, h⟩ := h
            show WP E m_S_release (d + 1) 152 [(9, aP v15), (8, aI v13), (7, aI v8), (6, aI v6), (5, aP v2), (4, aP v1), (0, aP 1), (1, aI x1), (2, aI x2), (3, aI x3)] [aP v23, aI x2, aP v1, aI x1, aP 1] σ23 Q
            refine s_aload 0 d_S_release_152 rfl ?_
            obtain ⟨g25, h⟩ := h
            refine s_callV (as := [aI x2, aP v23, aP v15]) (ci := 3) d_S_release_154 ok_Line_withNext lk_S_180 io_Line_withNext so_Line_withNext (by decide) rfl rfl rfl (Nat.le_of_ble_eq_true rfl) rfl g25 (WM.mono h ?_)
            rintro _ σ24 ⟨v24, rfl, hp, h⟩
            obtain ⟨hF25, h⟩ := h
            show WP E m_S_release (d + 1) 157 [(9, aP v15), (8, aI v13), (7, aI v8), (6, aI v6), (5, aP v2), (4, aP v1), (0, aP 1), (1, aI x1), (2, aI x2), (3, aI x3)] [aP v24, aI x1, aP 1] σ24 Q
            refine s_callV (as := [aI x1, aP v24]) (ci := 9) d_S_release_157 ok_S_replaceLine lk_S_166 io_S_replaceLine so_S_replaceLine (by decide) rfl rfl rfl (Nat.le_of_ble_eq_true rfl) rfl (sf_1 hF25) (WM.mono h ?_)
            rintro _ σ26 ⟨v26, rfl, hp, h⟩
            show WP E m_S_release (d + 1) 160 [(9, aP v15), (8, aI v13), (7, aI v8), (6, aI v6), (5, aP v2), (4, aP v1), (0, aP 1), (1, aI x1), (2, aI x2), (3, aI x3)] [aI v26] σ26 Q
            obtain ⟨g27, h⟩ := h
            exact s_zreturn d_S_release_160 rfl g27 h
          · have h := h.2 c
            refine s_iconst d_S_release_68 ?_
            exact s_zreturn d_S_release_69 rfl (by decide) h
      · have h := h.2 c
        refine s_iconst d_S_release_35 ?_
        exact s_zreturn d_S_release_36 rfl (by decide) h
theorem e_S_release {E : EV} {d : Nat} {Q : Option AV → St → Prop} {σ : St} (x1 x2 x3 : Int) (hF : Fix σ) (h : (WMr E m_S_lineAt d [aP 1, aI x1] σ (fun v1 σ1 => Fix σ1 ∧ (WMr E m_S_squareAt d [aP 1, aI x1, aI x2] σ1 (fun v2 σ2 => Fix σ2 ∧ ((v1 = 0 → Q (some (aI 0)) σ2) ∧ (¬ v1 = 0 → ((v2 = 0 → Q (some (aI 0)) σ2) ∧ (¬ v2 = 0 → (sh σ2 v1 = some (3, 2)) ∧ (WMi E m_Line_size d [aP v1] σ2 (fun v3 σ3 => Fix σ3 ∧ (rI v3) ∧ ((v3 < 8 → (sh σ3 v2 = some (7, 1)) ∧ (WMi E m_Sq_placeOf d [aP v2, aI x3] σ3 (fun v6 σ6 => Fix σ6 ∧ (sh σ6 v2 = some (7, 1)) ∧ (WMi E m_Sq_symbol d [aP v2, aI v6] σ6 (fun v8 σ8 => Fix σ8 ∧ (rI v6) ∧ ((v6 = (-1) → Q (some (aI 0)) σ8) ∧ (¬ v6 = (-1) → (WMi E m_S_holds d [aI v8] σ8 (fun v11 σ11 => Fix σ11 ∧ (rI v11) ∧ ((¬ v11 = 0 → (sh σ11 v2 = some (7, 1)) ∧ (WMi E m_Sq_endOf d [aP v2, aI v6] σ11 (fun v13 σ13 => Fix σ13 ∧ (WMr E m_S_slice d [aP 1, aP v2, aI (v6 + 1), aI v13] σ13 (fun v15 σ15 => Fix σ15 ∧ (WMv E m_Draft_clear d [aP 10] σ15 (fun σ16 => Fix σ16 ∧ (WMv E m_Draft_putAll d [aP 10, aP v2, aI 0, aI v6] σ16 (fun σ17 => Fix σ17 ∧ (WMi E m_S_letterOf d [aI v8] σ17 (fun v18 σ18 => Fix σ18 ∧ (WMv E m_Draft_put d [aP 10, aI v18] σ18 (fun σ19 => Fix σ19 ∧ (sh σ19 v2 = some (7, 1)) ∧ (WMi E m_Sq_length d [aP v2] σ19 (fun v20 σ20 => Fix σ20 ∧ (WMv E m_Draft_putAll d [aP 10, aP v2, aI v13, aI v20] σ20 (fun σ22 => Fix σ22 ∧ (WMr E m_Draft_made d [aP 10] σ22 (fun v23 σ23 => Fix σ23 ∧ (sh σ23 v1 = some (3, 2)) ∧ (WMr E m_Line_withNext d [aP v1, aI x2, aP v23, aP v15] σ23 (fun v24 σ24 => Fix σ24 ∧ (WMi E m_S_replaceLine d [aP 1, aI x1, aP v24] σ24 (fun v26 σ26 => (v26 = 0 ∨ v26 = 1) ∧ Q (some (aI v26)) σ26))))))))))))))))))))))) ∧ (v11 = 0 → Q (some (aI 0)) σ11))))))))))) ∧ (¬ v3 < 8 → Q (some (aI 0)) σ3))))))))))))) : WM E m_S_release (d + 1) [aP 1, aI x1, aI x2, aI x3] σ Q := s_meth (by decide) (Nat.le_of_ble_eq_true rfl) rfl (b_S_release_0 x1 x2 x3 hF h)
theorem d_S_move_0 : decode m_S_move.2.1 0 = .ok (.aload_n 0, 1) := by decide +kernel
theorem d_S_move_1 : decode m_S_move.2.1 1 = .ok (.iload_n 1, 1) := by decide +kernel
theorem d_S_move_2 : decode m_S_move.2.1 2 = .ok (.invokevirtual 158, 3) := by decide +kernel
theorem d_S_move_5 : decode m_S_move.2.1 5 = .ok (.astore 4, 2) := by decide +kernel
theorem d_S_move_7 : decode m_S_move.2.1 7 = .ok (.aload 4, 2) := by decide +kernel
theorem d_S_move_9 : decode m_S_move.2.1 9 = .ok (.ifnull 26, 3) := by decide +kernel
theorem d_S_move_12 : decode m_S_move.2.1 12 = .ok (.aload 4, 2) := by decide +kernel
theorem d_S_move_14 : decode m_S_move.2.1 14 = .ok (.iload_n 2, 1) := by decide +kernel
theorem d_S_move_15 : decode m_S_move.2.1 15 = .ok (.invokevirtual 212, 3) := by decide +kernel
theorem d_S_move_18 : decode m_S_move.2.1 18 = .ok (.ifCond .eq 17, 3) := by decide +kernel
theorem d_S_move_21 : decode m_S_move.2.1 21 = .ok (.aload 4, 2) := by decide +kernel
theorem d_S_move_23 : decode m_S_move.2.1 23 = .ok (.iload_n 3, 1) := by decide +kernel
theorem d_S_move_24 : decode m_S_move.2.1 24 = .ok (.invokevirtual 212, 3) := by decide +kernel
theorem d_S_move_27 : decode m_S_move.2.1 27 = .ok (.ifCond .eq 8, 3) := by decide +kernel
theorem d_S_move_30 : decode m_S_move.2.1 30 = .ok (.iload_n 2, 1) := by decide +kernel
theorem d_S_move_31 : decode m_S_move.2.1 31 = .ok (.iload_n 3, 1) := by decide +kernel
theorem d_S_move_32 : decode m_S_move.2.1 32 = .ok (.if_icmp .ne 5, 3) := by decide +kernel
theorem d_S_move_35 : decode m_S_move.2.1 35 = .ok (.iconst 0, 1) := by decide +kernel
theorem d_S_move_36 : decode m_S_move.2.1 36 = .ok (.ireturn, 1) := by decide +kernel
theorem d_S_move_37 : decode m_S_move.2.1 37 = .ok (.aload_n 0, 1) := by decide +kernel
theorem d_S_move_38 : decode m_S_move.2.1 38 = .ok (.iload_n 1, 1) := by decide +kernel
theorem d_S_move_39 : decode m_S_move.2.1 39 = .ok (.aload 4, 2) := by decide +kernel
theorem d_S_move_41 : decode m_S_move.2.1 41 = .ok (.iload_n 2, 1) := by decide +kernel
theorem d_S_move_42 : decode m_S_move.2.1 42 = .ok (.iload_n 3, 1) := by decide +kernel
theorem d_S_move_43 : decode m_S_move.2.1 43 = .ok (.invokevirtual 213, 3) := by decide +kernel
theorem d_S_move_46 : decode m_S_move.2.1 46 = .ok (.invokevirtual 166, 3) := by decide +kernel
theorem d_S_move_49 : decode m_S_move.2.1 49 = .ok (.ireturn, 1) := by decide +kernel
theorem b_S_move_0 {E : EV} {d : Nat} {Q : Option AV → St → Prop} {σ : St} (x1 x2 x3 : Int) (hF : Fix σ) (h : (WMr E m_S_lineAt d [aP 1, aI x1] σ (fun v1 σ1 => Fix σ1 ∧ ((v1 = 0 → Q (some (aI 0)) σ1) ∧ (¬ v1 = 0 → (sh σ1 v1 = some (3, 2)) ∧ (WMi E m_Line_has d [aP v1, aI x2] σ1 (fun v2 σ2 => Fix σ2 ∧ (rI v2) ∧ ((v2 = 0 → Q (some (aI 0)) σ2) ∧ (¬ v2 = 0 → (sh σ2 v1 = some (3, 2)) ∧ (WMi E m_Line_has d [aP v1, aI x3] σ2 (fun v5 σ5 => Fix σ5 ∧ (rI v5) ∧ ((v5 = 0 → Q (some (aI 0)) σ5) ∧ (¬ v5 = 0 → (rI x2) ∧ (rI x3) ∧ ((¬ x2 = x3 → (sh σ5 v1 = some (3, 2)) ∧ (WMr E m_Line_moved d [aP v1, aI x2, aI x3] σ5 (fun v10 σ10 => Fix σ10 ∧ (WMi E m_S_replaceLine d [aP 1, aI x1, aP v10] σ10 (fun v12 σ12 => (v12 = 0 ∨ v12 = 1) ∧ Q (some (aI v12)) σ12))))) ∧ (x2 = x3 → Q (some (aI 0)) σ5))))))))))))))) : WP E m_S_move (d + 1) 0 [(0, aP 1), (1, aI x1), (2, aI x2), (3, aI x3)] [] σ Q := by
  refine s_aload_n 0 d_S_move_0 rfl rfl ?_
  refine s_iload_n 1 d_S_move_1 rfl rfl ?_
  refine s_callV (as := [aI x1]) (ci := 9) d_S_move_2 ok_S_lineAt lk_S_158 io_S_lineAt so_S_lineAt (by decide) rfl rfl rfl (Nat.le_of_ble_eq_true rfl) rfl (sf_1 hF) (WM.mono h ?_)
  rintro _ σ1 ⟨v1, rfl, hp, h⟩
  obtain ⟨hF1, h⟩ := h
  show WP E m_S_move (d + 1) 5 [(0, aP 1), (1, aI x1), (2, aI x2), (3, aI x3)] [aP v1] σ1 Q
  refine s_astore d_S_move_5 (by decide) rfl ?_
  refine s_aload 0 d_S_move_7 rfl ?_
  refine s_ifnull d_S_move_9 rfl (fun c => ?_) (fun c => ?_)
  · have h := h.1 c
    refine s_iconst d_S_move_35 ?_
    exact s_zreturn d_S_move_36 rfl (by decide) h
  · have h := h.2 c
    refine s_aload 0 d_S_move_12 rfl ?_
    refine s_iload_n 3 d_S_move_14 rfl rfl ?_
    obtain ⟨g3, h⟩ := h
    refine s_callV (as := [aI x2]) (ci := 3) d_S_move_15 ok_Line_has lk_S_212 io_Line_has so_Line_has (by decide) rfl rfl rfl (Nat.le_of_ble_eq_true rfl) rfl g3 (WM.mono h ?_)
    rintro _ σ2 ⟨v2, rfl, hp, h⟩
    obtain ⟨hF3, h⟩ := h
    show WP E m_S_move (d + 1) 18 [(4, aP v1), (0, aP 1), (1, aI x1), (2, aI x2), (3, aI x3)] [aI v2] σ2 Q
    obtain ⟨g4, h⟩ := h
    refine s_if_eq d_S_move_18 rfl g4 (fun c => ?_) (fun c => ?_)
    · have h := h.1 c
      refine s_iconst d_S_move_35 ?_
      exact s_zreturn d_S_move_36 rfl (by decide) h
    · have h := h.2 c
      refine s_aload 0 d_S_move_21 rfl ?_
      refine s_iload_n 4 d_S_move_23 rfl rfl ?_
      obtain ⟨g6, h⟩ := h
      refine s_callV (as := [aI x3]) (ci := 3) d_S_move_24 ok_Line_has lk_S_212 io_Line_has so_Line_has (by decide) rfl rfl rfl (Nat.le_of_ble_eq_true rfl) rfl g6 (WM.mono h ?_)
      rintro _ σ5 ⟨v5, rfl, hp, h⟩
      obtain ⟨hF6, h⟩ := h
      show WP E m_S_move (d + 1) 27 [(4, aP v1), (0, aP 1), (1, aI x1), (2, aI x2), (3, aI x3)] [aI v5] σ5 Q
      obtain ⟨g7, h⟩ := h
      refine s_if_eq d_S_move_27 rfl g7 (fun c => ?_) (fun c => ?_)
      · have h := h.1 c
        refine s_iconst d_S_move_35 ?_
        exact s_zreturn d_S_move_36 rfl (by decide) h
      · have h := h.2 c
        refine s_iload_n 3 d_S_move_30 rfl rfl ?_
        refine s_iload_n 4 d_S_move_31 rfl rfl ?_
        obtain ⟨g8, h⟩ := h
        obtain ⟨g9, h⟩ := h
        refine s_icmp_ne d_S_move_32 rfl g8 g9 (fun c => ?_) (fun c => ?_)
        · have h := h.1 c
          refine s_aload_n 1 d_S_move_37 rfl rfl ?_
          refine s_iload_n 2 d_S_move_38 rfl rfl ?_
          refine s_aload 0 d_S_move_39 rfl ?_
          refine s_iload_n 3 d_S_move_41 rfl rfl ?_
          refine s_iload_n 4 d_S_move_42 rfl rfl ?_
          obtain ⟨g11, h⟩ := h
          refine s_callV (as := [aI x2, aI x3]) (ci := 3) d_S_move_43 ok_Line_moved lk_S_213 io_Line_moved so_Line_moved (by decide) rfl rfl rfl (Nat.le_of_ble_eq_true rfl) rfl g11 (WM.mono h ?_)
          rintro _ σ10 ⟨v10, rfl, hp, h⟩
          obtain ⟨hF11, h⟩ := h
          show WP E m_S_move (d + 1) 46 [(4, aP v1), (0, aP 1), (1, aI x1), (2, aI x2), (3, aI x3)] [aP v10, aI x1, aP 1] σ10 Q
          refine s_callV (as := [aI x1, aP v10]) (ci := 9) d_S_move_46 ok_S_replaceLine lk_S_166 io_S_replaceLine so_S_replaceLine (by decide) rfl rfl rfl (Nat.le_of_ble_eq_true rfl) rfl (sf_1 hF11) (WM.mono h ?_)
          rintro _ σ12 ⟨v12, rfl, hp, h⟩
          show WP E m_S_move (d + 1) 49 [(4, aP v1), (0, aP 1), (1, aI x1), (2, aI x2), (3, aI x3)] [aI v12] σ12 Q
          obtain ⟨g13, h⟩ := h
          exact s_zreturn d_S_move_49 rfl g13 h
        · have h := h.2 c
          refine s_iconst d_S_move_35 ?_
          exact s_zreturn d_S_move_36 rfl (by decide) h
theorem e_S_move {E : EV} {d : Nat} {Q : Option AV → St → Prop} {σ : St} (x1 x2 x3 : Int) (hF : Fix σ) (h : (WMr E m_S_lineAt d [aP 1, aI x1] σ (fun v1 σ1 => Fix σ1 ∧ ((v1 = 0 → Q (some (aI 0)) σ1) ∧ (¬ v1 = 0 → (sh σ1 v1 = some (3, 2)) ∧ (WMi E m_Line_has d [aP v1, aI x2] σ1 (fun v2 σ2 => Fix σ2 ∧ (rI v2) ∧ ((v2 = 0 → Q (some (aI 0)) σ2) ∧ (¬ v2 = 0 → (sh σ2 v1 = some (3, 2)) ∧ (WMi E m_Line_has d [aP v1, aI x3] σ2 (fun v5 σ5 => Fix σ5 ∧ (rI v5) ∧ ((v5 = 0 → Q (some (aI 0)) σ5) ∧ (¬ v5 = 0 → (rI x2) ∧ (rI x3) ∧ ((¬ x2 = x3 → (sh σ5 v1 = some (3, 2)) ∧ (WMr E m_Line_moved d [aP v1, aI x2, aI x3] σ5 (fun v10 σ10 => Fix σ10 ∧ (WMi E m_S_replaceLine d [aP 1, aI x1, aP v10] σ10 (fun v12 σ12 => (v12 = 0 ∨ v12 = 1) ∧ Q (some (aI v12)) σ12))))) ∧ (x2 = x3 → Q (some (aI 0)) σ5))))))))))))))) : WM E m_S_move (d + 1) [aP 1, aI x1, aI x2, aI x3] σ Q := s_meth (by decide) (Nat.le_of_ble_eq_true rfl) rfl (b_S_move_0 x1 x2 x3 hF h)
theorem d_S_mirror_0 : decode m_S_mirror.2.1 0 = .ok (.aload_n 0, 1) := by decide +kernel
theorem d_S_mirror_1 : decode m_S_mirror.2.1 1 = .ok (.iload_n 1, 1) := by decide +kernel
theorem d_S_mirror_2 : decode m_S_mirror.2.1 2 = .ok (.invokevirtual 158, 3) := by decide +kernel
theorem d_S_mirror_5 : decode m_S_mirror.2.1 5 = .ok (.astore_n 2, 1) := by decide +kernel
theorem d_S_mirror_6 : decode m_S_mirror.2.1 6 = .ok (.aload_n 2, 1) := by decide +kernel
theorem d_S_mirror_7 : decode m_S_mirror.2.1 7 = .ok (.ifnull 38, 3) := by decide +kernel
theorem d_S_mirror_10 : decode m_S_mirror.2.1 10 = .ok (.aload_n 0, 1) := by decide +kernel
theorem d_S_mirror_11 : decode m_S_mirror.2.1 11 = .ok (.iload_n 1, 1) := by decide +kernel
theorem d_S_mirror_12 : decode m_S_mirror.2.1 12 = .ok (.new 18, 3) := by decide +kernel
theorem d_S_mirror_15 : decode m_S_mirror.2.1 15 = .ok (.dup, 1) := by decide +kernel
theorem d_S_mirror_16 : decode m_S_mirror.2.1 16 = .ok (.aload_n 2, 1) := by decide +kernel
theorem d_S_mirror_17 : decode m_S_mirror.2.1 17 = .ok (.getfield 217, 3) := by decide +kernel
theorem d_S_mirror_20 : decode m_S_mirror.2.1 20 = .ok (.aload_n 2, 1) := by decide +kernel
theorem d_S_mirror_21 : decode m_S_mirror.2.1 21 = .ok (.getfield 221, 3) := by decide +kernel
theorem d_S_mirror_24 : decode m_S_mirror.2.1 24 = .ok (.ifCond .ne 7, 3) := by decide +kernel
theorem d_S_mirror_27 : decode m_S_mirror.2.1 27 = .ok (.iconst 1, 1) := by decide +kernel
theorem d_S_mirror_28 : decode m_S_mirror.2.1 28 = .ok (.goto 4, 3) := by decide +kernel
theorem d_S_mirror_31 : decode m_S_mirror.2.1 31 = .ok (.iconst 0, 1) := by decide +kernel
theorem d_S_mirror_32 : decode m_S_mirror.2.1 32 = .ok (.invokespecial 225, 3) := by decide +kernel
theorem d_S_mirror_35 : decode m_S_mirror.2.1 35 = .ok (.invokevirtual 166, 3) := by decide +kernel
theorem d_S_mirror_38 : decode m_S_mirror.2.1 38 = .ok (.ifCond .eq 7, 3) := by decide +kernel
theorem d_S_mirror_41 : decode m_S_mirror.2.1 41 = .ok (.iconst 1, 1) := by decide +kernel
theorem d_S_mirror_42 : decode m_S_mirror.2.1 42 = .ok (.goto 4, 3) := by decide +kernel
theorem d_S_mirror_45 : decode m_S_mirror.2.1 45 = .ok (.iconst 0, 1) := by decide +kernel
theorem d_S_mirror_46 : decode m_S_mirror.2.1 46 = .ok (.ireturn, 1) := by decide +kernel
theorem b_S_mirror_0 {E : EV} {d : Nat} {Q : Option AV → St → Prop} {σ : St} (x1 : Int) (hF : Fix σ) (h : (WMr E m_S_lineAt d [aP 1, aI x1] σ (fun v1 σ1 => ((v1 = 0 → Q (some (aI 0)) σ1) ∧ (¬ v1 = 0 → (sh (al σ1 3 2) v1 = some (3, 2)) ∧ (sh (al σ1 3 2) v1 = some (3, 2)) ∧ (rI ((al σ1 3 2).1 v1 1)) ∧ ((¬ ((al σ1 3 2).1 v1 1) = 0 → WP E m_S_mirror (d + 1) 32 [] [aI 0, aP ((al σ1 3 2).1 v1 0), aP (nx σ1), aP (nx σ1), aI x1, aP 1] (al σ1 3 2) Q) ∧ (((al σ1 3 2).1 v1 1) = 0 → WP E m_S_mirror (d + 1) 32 [] [aI 1, aP ((al σ1 3 2).1 v1 0), aP (nx σ1), aP (nx σ1), aI x1, aP 1] (al σ1 3 2) Q))))))) : WP E m_S_mirror (d + 1) 0 [(0, aP 1), (1, aI x1)] [] σ Q := by
  refine s_aload_n 0 d_S_mirror_0 rfl rfl ?_
  refine s_iload_n 1 d_S_mirror_1 rfl rfl ?_
  refine s_callV (as := [aI x1]) (ci := 9) d_S_mirror_2 ok_S_lineAt lk_S_158 io_S_lineAt so_S_lineAt (by decide) rfl rfl rfl (Nat.le_of_ble_eq_true rfl) rfl (sf_1 hF) (WM.mono h ?_)
  rintro _ σ1 ⟨v1, rfl, hp, h⟩
  show WP E m_S_mirror (d + 1) 5 [(0, aP 1), (1, aI x1)] [aP v1] σ1 Q
  refine s_astore_n d_S_mirror_5 rfl (by decide) rfl ?_
  refine s_aload_n 0 d_S_mirror_6 rfl rfl ?_
  refine s_ifnull d_S_mirror_7 rfl (fun c => ?_) (fun c => ?_)
  · have h := h.1 c
    refine s_iconst d_S_mirror_45 ?_
    exact s_zreturn d_S_mirror_46 rfl (by decide) h
  · have h := h.2 c
    refine s_aload_n 1 d_S_mirror_10 rfl rfl ?_
    refine s_iload_n 2 d_S_mirror_11 rfl rfl ?_
    refine s_new (ci := 3) d_S_mirror_12 (by decide) rfl inG3 tyX3_ok (df_3 E) nw_S_18 in_3 ii_3 ?_
    refine s_dup d_S_mirror_15 (Nat.ne_of_beq_eq_false rfl) ?_
    refine s_aload_n 0 d_S_mirror_16 rfl rfl ?_
    obtain ⟨g2, h⟩ := h
    refine s_getF (v := (al σ1 3 2).1 v1 0) d_S_mirror_17 fl_S_217 rfl g2 rfl ?_
    refine s_aload_n 0 d_S_mirror_20 rfl rfl ?_
    obtain ⟨g3, h⟩ := h
    refine s_getF (v := (al σ1 3 2).1 v1 1) d_S_mirror_21 fl_S_221 rfl g3 rfl ?_
    obtain ⟨g4, h⟩ := h
    refine s_if_ne d_S_mirror_24 rfl g4 (fun c => ?_) (fun c => ?_)
    · have h := h.1 c
      refine s_iconst d_S_mirror_31 ?_
      refine wp_drop [] rfl ?_
      exact h
    · have h := h.2 c
      refine s_iconst d_S_mirror_27 ?_
      refine s_goto d_S_mirror_28 rfl ?_
      refine wp_drop [] rfl ?_
      exact h
theorem e_S_mirror {E : EV} {d : Nat} {Q : Option AV → St → Prop} {σ : St} (x1 : Int) (hF : Fix σ) (h : (WMr E m_S_lineAt d [aP 1, aI x1] σ (fun v1 σ1 => ((v1 = 0 → Q (some (aI 0)) σ1) ∧ (¬ v1 = 0 → (sh (al σ1 3 2) v1 = some (3, 2)) ∧ (sh (al σ1 3 2) v1 = some (3, 2)) ∧ (rI ((al σ1 3 2).1 v1 1)) ∧ ((¬ ((al σ1 3 2).1 v1 1) = 0 → WP E m_S_mirror (d + 1) 32 [] [aI 0, aP ((al σ1 3 2).1 v1 0), aP (nx σ1), aP (nx σ1), aI x1, aP 1] (al σ1 3 2) Q) ∧ (((al σ1 3 2).1 v1 1) = 0 → WP E m_S_mirror (d + 1) 32 [] [aI 1, aP ((al σ1 3 2).1 v1 0), aP (nx σ1), aP (nx σ1), aI x1, aP 1] (al σ1 3 2) Q))))))) : WM E m_S_mirror (d + 1) [aP 1, aI x1] σ Q := s_meth (by decide) (Nat.le_of_ble_eq_true rfl) rfl (b_S_mirror_0 x1 hF h)
theorem b_S_mirror_32 {E : EV} {d : Nat} {Q : Option AV → St → Prop} {σ : St} (s0 s1 s2 s3 s4 s5 : Int) (h : (0 < s3) ∧ (WMv E m_Line_init d [aP s3, aP s4, aI s5] σ (fun σ1 => (sh σ1 s0 = some (9, 9)) ∧ (WMi E m_S_replaceLine d [aP s0, aI s1, aP s2] σ1 (fun v3 σ3 => (rI v3) ∧ ((v3 = 0 → Q (some (aI 0)) σ3) ∧ (¬ v3 = 0 → Q (some (aI 1)) σ3))))))) : WP E m_S_mirror (d + 1) 32 [] [aI s5, aP s4, aP s3, aP s2, aI s1, aP s0] σ Q := by
  obtain ⟨g2, h⟩ := h
  refine s_callI (as := [aP s4, aI s5]) d_S_mirror_32 ok_Line_init lk_S_225 io_Line_init rfl rfl rfl (Nat.le_of_ble_eq_true rfl) rfl g2 (WM.mono h ?_)
  rintro _ σ1 ⟨rfl, hp, h⟩
  show WP E m_S_mirror (d + 1) 35 [] [aP s2, aI s1, aP s0] σ1 Q
  obtain ⟨g4, h⟩ := h
  refine s_callV (as := [aI s1, aP s2]) (ci := 9) d_S_mirror_35 ok_S_replaceLine lk_S_166 io_S_replaceLine so_S_replaceLine (by decide) rfl rfl rfl (Nat.le_of_ble_eq_true rfl) rfl g4 (WM.mono h ?_)
  rintro _ σ3 ⟨v3, rfl, hp, h⟩
  show WP E m_S_mirror (d + 1) 38 [] [aI v3] σ3 Q
  obtain ⟨g5, h⟩ := h
  refine s_if_eq d_S_mirror_38 rfl g5 (fun c => ?_) (fun c => ?_)
  · have h := h.1 c
    refine s_iconst d_S_mirror_45 ?_
    exact s_zreturn d_S_mirror_46 rfl (by decide) h
  · have h := h.2 c
    refine s_iconst d_S_mirror_41 ?_
    refine s_goto d_S_mirror_42 rfl ?_
    exact s_zreturn d_S_mirror_46 rfl (by decide) h
theorem d_S_arrange_0 : decode m_S_arrange.2.1 0 = .ok (.aload_n 0, 1) := by decide +kernel
theorem d_S_arrange_1 : decode m_S_arrange.2.1 1 = .ok (.iload_n 1, 1) := by decide +kernel
theorem d_S_arrange_2 : decode m_S_arrange.2.1 2 = .ok (.iload_n 2, 1) := by decide +kernel
theorem d_S_arrange_3 : decode m_S_arrange.2.1 3 = .ok (.invokevirtual 99, 3) := by decide +kernel
theorem d_S_arrange_6 : decode m_S_arrange.2.1 6 = .ok (.astore_n 3, 1) := by decide +kernel
theorem d_S_arrange_7 : decode m_S_arrange.2.1 7 = .ok (.aload_n 0, 1) := by decide +kernel
theorem d_S_arrange_8 : decode m_S_arrange.2.1 8 = .ok (.aload_n 3, 1) := by decide +kernel
theorem d_S_arrange_9 : decode m_S_arrange.2.1 9 = .ok (.invokevirtual 228, 3) := by decide +kernel
theorem d_S_arrange_12 : decode m_S_arrange.2.1 12 = .ok (.astore 4, 2) := by decide +kernel
theorem d_S_arrange_14 : decode m_S_arrange.2.1 14 = .ok (.aload_n 3, 1) := by decide +kernel
theorem d_S_arrange_15 : decode m_S_arrange.2.1 15 = .ok (.ifnull 17, 3) := by decide +kernel
theorem d_S_arrange_18 : decode m_S_arrange.2.1 18 = .ok (.aload 4, 2) := by decide +kernel
theorem d_S_arrange_20 : decode m_S_arrange.2.1 20 = .ok (.ifnull 12, 3) := by decide +kernel
theorem d_S_arrange_23 : decode m_S_arrange.2.1 23 = .ok (.aload 4, 2) := by decide +kernel
theorem d_S_arrange_25 : decode m_S_arrange.2.1 25 = .ok (.aload_n 3, 1) := by decide +kernel
theorem d_S_arrange_26 : decode m_S_arrange.2.1 26 = .ok (.invokevirtual 232, 3) := by decide +kernel
theorem d_S_arrange_29 : decode m_S_arrange.2.1 29 = .ok (.ifCond .eq 5, 3) := by decide +kernel
theorem d_S_arrange_32 : decode m_S_arrange.2.1 32 = .ok (.iconst 0, 1) := by decide +kernel
theorem d_S_arrange_33 : decode m_S_arrange.2.1 33 = .ok (.ireturn, 1) := by decide +kernel
theorem d_S_arrange_34 : decode m_S_arrange.2.1 34 = .ok (.aload_n 0, 1) := by decide +kernel
theorem d_S_arrange_35 : decode m_S_arrange.2.1 35 = .ok (.iload_n 1, 1) := by decide +kernel
theorem d_S_arrange_36 : decode m_S_arrange.2.1 36 = .ok (.iload_n 2, 1) := by decide +kernel
theorem d_S_arrange_37 : decode m_S_arrange.2.1 37 = .ok (.aload 4, 2) := by decide +kernel
theorem d_S_arrange_39 : decode m_S_arrange.2.1 39 = .ok (.invokevirtual 137, 3) := by decide +kernel
theorem d_S_arrange_42 : decode m_S_arrange.2.1 42 = .ok (.ireturn, 1) := by decide +kernel
theorem b_S_arrange_0 {E : EV} {d : Nat} {Q : Option AV → St → Prop} {σ : St} (x1 x2 : Int) (hF : Fix σ) (h : (WMr E m_S_squareAt d [aP 1, aI x1, aI x2] σ (fun v1 σ1 => Fix σ1 ∧ (WMr E m_S_bestOf d [aP 1, aP v1] σ1 (fun v2 σ2 => Fix σ2 ∧ ((v1 = 0 → Q (some (aI 0)) σ2) ∧ (¬ v1 = 0 → ((v2 = 0 → Q (some (aI 0)) σ2) ∧ (¬ v2 = 0 → (sh σ2 v2 = some (7, 1)) ∧ (WMi E m_Sq_isLike d [aP v2, aP v1] σ2 (fun v3 σ3 => Fix σ3 ∧ (rI v3) ∧ ((v3 = 0 → (WMi E m_S_become d [aP 1, aI x1, aI x2, aP v2] σ3 (fun v6 σ6 => (v6 = 0 ∨ v6 = 1) ∧ Q (some (aI v6)) σ6))) ∧ (¬ v3 = 0 → Q (some (aI 0)) σ3))))))))))))) : WP E m_S_arrange (d + 1) 0 [(0, aP 1), (1, aI x1), (2, aI x2)] [] σ Q := by
  refine s_aload_n 0 d_S_arrange_0 rfl rfl ?_
  refine s_iload_n 1 d_S_arrange_1 rfl rfl ?_
  refine s_iload_n 2 d_S_arrange_2 rfl rfl ?_
  refine s_callV (as := [aI x1, aI x2]) (ci := 9) d_S_arrange_3 ok_S_squareAt lk_S_99 io_S_squareAt so_S_squareAt (by decide) rfl rfl rfl (Nat.le_of_ble_eq_true rfl) rfl (sf_1 hF) (WM.mono h ?_)
  rintro _ σ1 ⟨v1, rfl, hp, h⟩
  obtain ⟨hF1, h⟩ := h
  show WP E m_S_arrange (d + 1) 6 [(0, aP 1), (1, aI x1), (2, aI x2)] [aP v1] σ1 Q
  refine s_astore_n d_S_arrange_6 rfl (by decide) rfl ?_
  refine s_aload_n 1 d_S_arrange_7 rfl rfl ?_
  refine s_aload_n 0 d_S_arrange_8 rfl rfl ?_
  refine s_callV (as := [aP v1]) (ci := 9) d_S_arrange_9 ok_S_bestOf lk_S_228 io_S_bestOf so_S_bestOf (by decide) rfl rfl rfl (Nat.le_of_ble_eq_true rfl) rfl (sf_1 hF1) (WM.mono h ?_)
  rintro _ σ2 ⟨v2, rfl, hp, h⟩
  obtain ⟨hF2, h⟩ := h
  show WP E m_S_arrange (d + 1) 12 [(3, aP v1), (0, aP 1), (1, aI x1), (2, aI x2)] [aP v2] σ2 Q
  refine s_astore d_S_arrange_12 (by decide) rfl ?_
  refine s_aload_n 1 d_S_arrange_14 rfl rfl ?_
  refine s_ifnull d_S_arrange_15 rfl (fun c => ?_) (fun c => ?_)
  · have h := h.1 c
    refine s_iconst d_S_arrange_32 ?_
    exact s_zreturn d_S_arrange_33 rfl (by decide) h
  · have h := h.2 c
    refine s_aload 0 d_S_arrange_18 rfl ?_
    refine s_ifnull d_S_arrange_20 rfl (fun c => ?_) (fun c => ?_)
    · have h := h.1 c
      refine s_iconst d_S_arrange_32 ?_
      exact s_zreturn d_S_arrange_33 rfl (by decide) h
    · have h := h.2 c
      refine s_aload 0 d_S_arrange_23 rfl ?_
      refine s_aload_n 1 d_S_arrange_25 rfl rfl ?_
      obtain ⟨g4, h⟩ := h
      refine s_callV (as := [aP v1]) (ci := 7) d_S_arrange_26 ok_Sq_isLike lk_S_232 io_Sq_isLike so_Sq_isLike (by decide) rfl rfl rfl (Nat.le_of_ble_eq_true rfl) rfl g4 (WM.mono h ?_)
      rintro _ σ3 ⟨v3, rfl, hp, h⟩
      obtain ⟨hF4, h⟩ := h
      show WP E m_S_arrange (d + 1) 29 [(4, aP v2), (3, aP v1), (0, aP 1), (1, aI x1), (2, aI x2)] [aI v3] σ3 Q
      obtain ⟨g5, h⟩ := h
      refine s_if_eq d_S_arrange_29 rfl g5 (fun c => ?_) (fun c => ?_)
      · have h := h.1 c
        refine s_aload_n 2 d_S_arrange_34 rfl rfl ?_
        refine s_iload_n 3 d_S_arrange_35 rfl rfl ?_
        refine s_iload_n 4 d_S_arrange_36 rfl rfl ?_
        refine s_aload 0 d_S_arrange_37 rfl ?_
        refine s_callV (as := [aI x1, aI x2, aP v2]) (ci := 9) d_S_arrange_39 ok_S_become lk_S_137 io_S_become so_S_become (by decide) rfl rfl rfl (Nat.le_of_ble_eq_true rfl) rfl (sf_1 hF4) (WM.mono h ?_)
        rintro _ σ6 ⟨v6, rfl, hp, h⟩
        show WP E m_S_arrange (d + 1) 42 [(4, aP v2), (3, aP v1), (0, aP 1), (1, aI x1), (2, aI x2)] [aI v6] σ6 Q
        obtain ⟨g7, h⟩ := h
        exact s_zreturn d_S_arrange_42 rfl g7 h
      · have h := h.2 c
        refine s_iconst d_S_arrange_32 ?_
        exact s_zreturn d_S_arrange_33 rfl (by decide) h
theorem e_S_arrange {E : EV} {d : Nat} {Q : Option AV → St → Prop} {σ : St} (x1 x2 : Int) (hF : Fix σ) (h : (WMr E m_S_squareAt d [aP 1, aI x1, aI x2] σ (fun v1 σ1 => Fix σ1 ∧ (WMr E m_S_bestOf d [aP 1, aP v1] σ1 (fun v2 σ2 => Fix σ2 ∧ ((v1 = 0 → Q (some (aI 0)) σ2) ∧ (¬ v1 = 0 → ((v2 = 0 → Q (some (aI 0)) σ2) ∧ (¬ v2 = 0 → (sh σ2 v2 = some (7, 1)) ∧ (WMi E m_Sq_isLike d [aP v2, aP v1] σ2 (fun v3 σ3 => Fix σ3 ∧ (rI v3) ∧ ((v3 = 0 → (WMi E m_S_become d [aP 1, aI x1, aI x2, aP v2] σ3 (fun v6 σ6 => (v6 = 0 ∨ v6 = 1) ∧ Q (some (aI v6)) σ6))) ∧ (¬ v3 = 0 → Q (some (aI 0)) σ3))))))))))))) : WM E m_S_arrange (d + 1) [aP 1, aI x1, aI x2] σ Q := s_meth (by decide) (Nat.le_of_ble_eq_true rfl) rfl (b_S_arrange_0 x1 x2 hF h)
theorem d_S_bestOf_0 : decode m_S_bestOf.2.1 0 = .ok (.aload_n 1, 1) := by decide +kernel
theorem d_S_bestOf_1 : decode m_S_bestOf.2.1 1 = .ok (.ifnull 12, 3) := by decide +kernel
theorem d_S_bestOf_4 : decode m_S_bestOf.2.1 4 = .ok (.aload_n 1, 1) := by decide +kernel
theorem d_S_bestOf_5 : decode m_S_bestOf.2.1 5 = .ok (.invokevirtual 272, 3) := by decide +kernel
theorem d_S_bestOf_8 : decode m_S_bestOf.2.1 8 = .ok (.bipush 6, 2) := by decide +kernel
theorem d_S_bestOf_10 : decode m_S_bestOf.2.1 10 = .ok (.if_icmp .le 5, 3) := by decide +kernel
theorem d_S_bestOf_13 : decode m_S_bestOf.2.1 13 = .ok (.aconst_null, 1) := by decide +kernel
theorem d_S_bestOf_14 : decode m_S_bestOf.2.1 14 = .ok (.areturn, 1) := by decide +kernel
theorem d_S_bestOf_15 : decode m_S_bestOf.2.1 15 = .ok (.aload_n 0, 1) := by decide +kernel
theorem d_S_bestOf_16 : decode m_S_bestOf.2.1 16 = .ok (.getfield 66, 3) := by decide +kernel
theorem d_S_bestOf_19 : decode m_S_bestOf.2.1 19 = .ok (.aload_n 1, 1) := by decide +kernel
theorem d_S_bestOf_20 : decode m_S_bestOf.2.1 20 = .ok (.aload_n 0, 1) := by decide +kernel
theorem d_S_bestOf_21 : decode m_S_bestOf.2.1 21 = .ok (.getfield 23, 3) := by decide +kernel
theorem d_S_bestOf_24 : decode m_S_bestOf.2.1 24 = .ok (.invokevirtual 364, 3) := by decide +kernel
theorem d_S_bestOf_27 : decode m_S_bestOf.2.1 27 = .ok (.ifCond .ne 23, 3) := by decide +kernel
theorem d_S_bestOf_30 : decode m_S_bestOf.2.1 30 = .ok (.aload_n 0, 1) := by decide +kernel
theorem d_S_bestOf_31 : decode m_S_bestOf.2.1 31 = .ok (.getfield 66, 3) := by decide +kernel
theorem d_S_bestOf_34 : decode m_S_bestOf.2.1 34 = .ok (.aload_n 1, 1) := by decide +kernel
theorem d_S_bestOf_35 : decode m_S_bestOf.2.1 35 = .ok (.aload_n 0, 1) := by decide +kernel
theorem d_S_bestOf_36 : decode m_S_bestOf.2.1 36 = .ok (.getfield 10, 3) := by decide +kernel
theorem d_S_bestOf_39 : decode m_S_bestOf.2.1 39 = .ok (.aload_n 0, 1) := by decide +kernel
theorem d_S_bestOf_40 : decode m_S_bestOf.2.1 40 = .ok (.getfield 23, 3) := by decide +kernel
theorem d_S_bestOf_43 : decode m_S_bestOf.2.1 43 = .ok (.aload_n 0, 1) := by decide +kernel
theorem d_S_bestOf_44 : decode m_S_bestOf.2.1 44 = .ok (.getfield 38, 3) := by decide +kernel
theorem d_S_bestOf_47 : decode m_S_bestOf.2.1 47 = .ok (.invokevirtual 368, 3) := by decide +kernel
theorem d_S_bestOf_50 : decode m_S_bestOf.2.1 50 = .ok (.aload_n 0, 1) := by decide +kernel
theorem d_S_bestOf_51 : decode m_S_bestOf.2.1 51 = .ok (.getfield 66, 3) := by decide +kernel
theorem d_S_bestOf_54 : decode m_S_bestOf.2.1 54 = .ok (.getfield 372, 3) := by decide +kernel
theorem d_S_bestOf_57 : decode m_S_bestOf.2.1 57 = .ok (.areturn, 1) := by decide +kernel
theorem b_S_bestOf_0 {E : EV} {d : Nat} {Q : Option AV → St → Prop} {σ : St} (x1 : Int) (hF : Fix σ) (h : ((x1 = 0 → Q (some (aP 0)) σ) ∧ (¬ x1 = 0 → (sh σ x1 = some (7, 1)) ∧ (WMi E m_Sq_outerSigns d [aP x1] σ (fun v1 σ1 => Fix σ1 ∧ (rI v1) ∧ ((v1 ≤ 6 → (WMi E m_Arranger_knows d [aP 32, aP x1, aP (σ1.1 1 1)] σ1 (fun v4 σ4 => Fix σ4 ∧ (rI v4) ∧ ((¬ v4 = 0 → Q (some (aP (σ4.1 32 13))) σ4) ∧ (v4 = 0 → (WMv E m_Arranger_find d [aP 32, aP x1, aP (σ4.1 1 0), aP (σ4.1 1 1), aP 10] σ4 (fun σ6 => Fix σ6 ∧ Q (some (aP (σ6.1 32 13))) σ6))))))) ∧ (¬ v1 ≤ 6 → Q (some (aP 0)) σ1))))))) : WP E m_S_bestOf (d + 1) 0 [(0, aP 1), (1, aP x1)] [] σ Q := by
  refine s_aload_n 1 d_S_bestOf_0 rfl rfl ?_
  refine s_ifnull d_S_bestOf_1 rfl (fun c => ?_) (fun c => ?_)
  · have h := h.1 c
    refine s_null d_S_bestOf_13 ?_
    exact s_areturn d_S_bestOf_14 rfl (Or.inl ⟨_, rfl⟩) h
  · have h := h.2 c
    refine s_aload_n 1 d_S_bestOf_4 rfl rfl ?_
    obtain ⟨g2, h⟩ := h
    refine s_callV (as := []) (ci := 7) d_S_bestOf_5 ok_Sq_outerSigns lk_S_272 io_Sq_outerSigns so_Sq_outerSigns (by decide) rfl rfl rfl (Nat.le_of_ble_eq_true rfl) rfl g2 (WM.mono h ?_)
    rintro _ σ1 ⟨v1, rfl, hp, h⟩
    obtain ⟨hF2, h⟩ := h
    show WP E m_S_bestOf (d + 1) 8 [(0, aP 1), (1, aP x1)] [aI v1] σ1 Q
    refine s_bipush d_S_bestOf_8 (by decide) ?_
    obtain ⟨g3, h⟩ := h
    refine s_icmp_le d_S_bestOf_10 rfl g3 (by decide) (fun c => ?_) (fun c => ?_)
    · have h := h.1 c
      refine s_aload_n 0 d_S_bestOf_15 rfl rfl ?_
      refine s_getF (v := 32) d_S_bestOf_16 fl_S_66 rfl (sf_1 hF2) (ff_5 hF2) ?_
      refine s_aload_n 1 d_S_bestOf_19 rfl rfl ?_
      refine s_aload_n 0 d_S_bestOf_20 rfl rfl ?_
      refine s_getF (v := σ1.1 1 1) d_S_bestOf_21 fl_S_23 rfl (sf_1 hF2) rfl ?_
      refine s_callV (as := [aP x1, aP (σ1.1 1 1)]) (ci := 0) d_S_bestOf_24 ok_Arranger_knows lk_S_364 io_Arranger_knows so_Arranger_knows (by decide) rfl rfl rfl (Nat.le_of_ble_eq_true rfl) rfl (sf_32 hF2) (WM.mono h ?_)
      rintro _ σ4 ⟨v4, rfl, hp, h⟩
      obtain ⟨hF4, h⟩ := h
      show WP E m_S_bestOf (d + 1) 27 [(0, aP 1), (1, aP x1)] [aI v4] σ4 Q
      obtain ⟨g5, h⟩ := h
      refine s_if_ne d_S_bestOf_27 rfl g5 (fun c => ?_) (fun c => ?_)
      · have h := h.1 c
        refine s_aload_n 0 d_S_bestOf_50 rfl rfl ?_
        refine s_getF (v := 32) d_S_bestOf_51 fl_S_66 rfl (sf_1 hF4) (ff_5 hF4) ?_
        refine s_getF (v := σ4.1 32 13) d_S_bestOf_54 fl_S_372 rfl (sf_32 hF4) rfl ?_
        exact s_areturn d_S_bestOf_57 rfl (Or.inl ⟨_, rfl⟩) h
      · have h := h.2 c
        refine s_aload_n 0 d_S_bestOf_30 rfl rfl ?_
        refine s_getF (v := 32) d_S_bestOf_31 fl_S_66 rfl (sf_1 hF4) (ff_5 hF4) ?_
        refine s_aload_n 1 d_S_bestOf_34 rfl rfl ?_
        refine s_aload_n 0 d_S_bestOf_35 rfl rfl ?_
        refine s_getF (v := σ4.1 1 0) d_S_bestOf_36 fl_S_10 rfl (sf_1 hF4) rfl ?_
        refine s_aload_n 0 d_S_bestOf_39 rfl rfl ?_
        refine s_getF (v := σ4.1 1 1) d_S_bestOf_40 fl_S_23 rfl (sf_1 hF4) rfl ?_
        refine s_aload_n 0 d_S_bestOf_43 rfl rfl ?_
        refine s_getF (v := 10) d_S_bestOf_44 fl_S_38 rfl (sf_1 hF4) (ff_1 hF4) ?_
        refine s_callV (as := [aP x1, aP (σ4.1 1 0), aP (σ4.1 1 1), aP 10]) (ci := 0) d_S_bestOf_47 ok_Arranger_find lk_S_368 io_Arranger_find so_Arranger_find (by decide) rfl rfl rfl (Nat.le_of_ble_eq_true rfl) rfl (sf_32 hF4) (WM.mono h ?_)
        rintro _ σ6 ⟨rfl, hp, h⟩
        obtain ⟨hF6, h⟩ := h
        show WP E m_S_bestOf (d + 1) 50 [(0, aP 1), (1, aP x1)] [] σ6 Q
        refine s_aload_n 0 d_S_bestOf_50 rfl rfl ?_
        refine s_getF (v := 32) d_S_bestOf_51 fl_S_66 rfl (sf_1 hF6) (ff_5 hF6) ?_
        refine s_getF (v := σ6.1 32 13) d_S_bestOf_54 fl_S_372 rfl (sf_32 hF6) rfl ?_
        exact s_areturn d_S_bestOf_57 rfl (Or.inl ⟨_, rfl⟩) h
    · have h := h.2 c
      refine s_null d_S_bestOf_13 ?_
      exact s_areturn d_S_bestOf_14 rfl (Or.inl ⟨_, rfl⟩) h
theorem e_S_bestOf {E : EV} {d : Nat} {Q : Option AV → St → Prop} {σ : St} (x1 : Int) (hF : Fix σ) (h : ((x1 = 0 → Q (some (aP 0)) σ) ∧ (¬ x1 = 0 → (sh σ x1 = some (7, 1)) ∧ (WMi E m_Sq_outerSigns d [aP x1] σ (fun v1 σ1 => Fix σ1 ∧ (rI v1) ∧ ((v1 ≤ 6 → (WMi E m_Arranger_knows d [aP 32, aP x1, aP (σ1.1 1 1)] σ1 (fun v4 σ4 => Fix σ4 ∧ (rI v4) ∧ ((¬ v4 = 0 → Q (some (aP (σ4.1 32 13))) σ4) ∧ (v4 = 0 → (WMv E m_Arranger_find d [aP 32, aP x1, aP (σ4.1 1 0), aP (σ4.1 1 1), aP 10] σ4 (fun σ6 => Fix σ6 ∧ Q (some (aP (σ6.1 32 13))) σ6))))))) ∧ (¬ v1 ≤ 6 → Q (some (aP 0)) σ1))))))) : WM E m_S_bestOf (d + 1) [aP 1, aP x1] σ Q := s_meth (by decide) (Nat.le_of_ble_eq_true rfl) rfl (b_S_bestOf_0 x1 hF h)
theorem d_S_side_0 : decode m_S_side.2.1 0 = .ok (.aload_n 0, 1) := by decide +kernel
theorem d_S_side_1 : decode m_S_side.2.1 1 = .ok (.getfield 23, 3) := by decide +kernel
theorem d_S_side_4 : decode m_S_side.2.1 4 = .ok (.getfield 236, 3) := by decide +kernel
theorem d_S_side_7 : decode m_S_side.2.1 7 = .ok (.istore_n 2, 1) := by decide +kernel
theorem d_S_side_8 : decode m_S_side.2.1 8 = .ok (.iload_n 1, 1) := by decide +kernel
theorem d_S_side_9 : decode m_S_side.2.1 9 = .ok (.iconst 1, 1) := by decide +kernel
theorem d_S_side_10 : decode m_S_side.2.1 10 = .ok (.if_icmp .lt 14, 3) := by decide +kernel
theorem d_S_side_13 : decode m_S_side.2.1 13 = .ok (.iload_n 1, 1) := by decide +kernel
theorem d_S_side_14 : decode m_S_side.2.1 14 = .ok (.bipush 24, 2) := by decide +kernel
theorem d_S_side_16 : decode m_S_side.2.1 16 = .ok (.if_icmp .gt 8, 3) := by decide +kernel
theorem d_S_side_19 : decode m_S_side.2.1 19 = .ok (.iload_n 1, 1) := by decide +kernel
theorem d_S_side_20 : decode m_S_side.2.1 20 = .ok (.iload_n 2, 1) := by decide +kernel
theorem d_S_side_21 : decode m_S_side.2.1 21 = .ok (.if_icmp .ne 5, 3) := by decide +kernel
theorem d_S_side_24 : decode m_S_side.2.1 24 = .ok (.iconst (-1), 1) := by decide +kernel
theorem d_S_side_25 : decode m_S_side.2.1 25 = .ok (.ireturn, 1) := by decide +kernel
theorem d_S_side_26 : decode m_S_side.2.1 26 = .ok (.aload_n 0, 1) := by decide +kernel
theorem d_S_side_27 : decode m_S_side.2.1 27 = .ok (.new 16, 3) := by decide +kernel
theorem d_S_side_30 : decode m_S_side.2.1 30 = .ok (.dup, 1) := by decide +kernel
theorem d_S_side_31 : decode m_S_side.2.1 31 = .ok (.aload_n 0, 1) := by decide +kernel
theorem d_S_side_32 : decode m_S_side.2.1 32 = .ok (.getfield 23, 3) := by decide +kernel
theorem d_S_side_35 : decode m_S_side.2.1 35 = .ok (.getfield 95, 3) := by decide +kernel
theorem d_S_side_38 : decode m_S_side.2.1 38 = .ok (.iload_n 1, 1) := by decide +kernel
theorem d_S_side_39 : decode m_S_side.2.1 39 = .ok (.aload_n 0, 1) := by decide +kernel
theorem d_S_side_40 : decode m_S_side.2.1 40 = .ok (.getfield 23, 3) := by decide +kernel
theorem d_S_side_43 : decode m_S_side.2.1 43 = .ok (.getfield 239, 3) := by decide +kernel
theorem d_S_side_46 : decode m_S_side.2.1 46 = .ok (.invokespecial 20, 3) := by decide +kernel
theorem d_S_side_49 : decode m_S_side.2.1 49 = .ok (.invokevirtual 242, 3) := by decide +kernel
theorem d_S_side_52 : decode m_S_side.2.1 52 = .ok (.iload_n 2, 1) := by decide +kernel
theorem d_S_side_53 : decode m_S_side.2.1 53 = .ok (.ireturn, 1) := by decide +kernel
theorem b_S_side_0 {E : EV} {d : Nat} {Q : Option AV → St → Prop} {σ : St} (x1 : Int) (hF : Fix σ) (h : (sh σ (σ.1 1 1) = some (4, 3)) ∧ (rI x1) ∧ ((x1 < 1 → Q (some (aI (-1))) σ) ∧ (¬ x1 < 1 → (rI x1) ∧ ((24 < x1 → Q (some (aI (-1))) σ) ∧ (¬ 24 < x1 → (rI x1) ∧ (rI (σ.1 (σ.1 1 1) 1)) ∧ ((¬ x1 = (σ.1 (σ.1 1 1) 1) → (sh (al σ 4 3) ((al σ 4 3).1 1 1) = some (4, 3)) ∧ (sh (al σ 4 3) ((al σ 4 3).1 1 1) = some (4, 3)) ∧ (0 < (nx σ)) ∧ (WMv E m_Moment_init d [aP (nx σ), aP ((al σ 4 3).1 ((al σ 4 3).1 1 1) 0), aI x1, aI ((al σ 4 3).1 ((al σ 4 3).1 1 1) 2)] (al σ 4 3) (fun σ8 => Fix σ8 ∧ (WMv E m_S_act d [aP 1, aP (nx σ)] σ8 (fun σ10 => Q (some (aI (σ.1 (σ.1 1 1) 1))) σ10))))) ∧ (x1 = (σ.1 (σ.1 1 1) 1) → Q (some (aI (-1))) σ))))))) : WP E m_S_side (d + 1) 0 [(0, aP 1), (1, aI x1)] [] σ Q := by
  refine s_aload_n 0 d_S_side_0 rfl rfl ?_
  refine s_getF (v := σ.1 1 1) d_S_side_1 fl_S_23 rfl (sf_1 hF) rfl ?_
  obtain ⟨g1, h⟩ := h
  refine s_getF (v := σ.1 (σ.1 1 1) 1) d_S_side_4 fl_S_236 rfl g1 rfl ?_
  refine s_istore_n d_S_side_7 rfl (by decide) rfl ?_
  refine s_iload_n 2 d_S_side_8 rfl rfl ?_
  refine s_iconst d_S_side_9 ?_
  obtain ⟨g2, h⟩ := h
  refine s_icmp_lt d_S_side_10 rfl g2 (by decide) (fun c => ?_) (fun c => ?_)
  · have h := h.1 c
    refine s_iconst d_S_side_24 ?_
    exact s_ireturn d_S_side_25 rfl h
  · have h := h.2 c
    refine s_iload_n 2 d_S_side_13 rfl rfl ?_
    refine s_bipush d_S_side_14 (by decide) ?_
    obtain ⟨g3, h⟩ := h
    refine s_icmp_gt d_S_side_16 rfl g3 (by decide) (fun c => ?_) (fun c => ?_)
    · have h := h.1 c
      refine s_iconst d_S_side_24 ?_
      exact s_ireturn d_S_side_25 rfl h
    · have h := h.2 c
      refine s_iload_n 2 d_S_side_19 rfl rfl ?_
      refine s_iload_n 0 d_S_side_20 rfl rfl ?_
      obtain ⟨g4, h⟩ := h
      obtain ⟨g5, h⟩ := h
      refine s_icmp_ne d_S_side_21 rfl g4 g5 (fun c => ?_) (fun c => ?_)
      · have h := h.1 c
        refine s_aload_n 1 d_S_side_26 rfl rfl ?_
        refine s_new (ci := 4) d_S_side_27 (by decide) rfl inG4 tyX4_ok (df_4 E) nw_S_16 in_4 ii_4 ?_
        refine s_dup d_S_side_30 (Nat.ne_of_beq_eq_false rfl) ?_
        refine s_aload_n 1 d_S_side_31 rfl rfl ?_
        refine s_getF (v := (al σ 4 3).1 1 1) d_S_side_32 fl_S_23 rfl (sf_1 hF.al_) rfl ?_
        obtain ⟨g6, h⟩ := h
        refine s_getF (v := (al σ 4 3).1 ((al σ 4 3).1 1 1) 0) d_S_side_35 fl_S_95 rfl g6 rfl ?_
        refine s_iload_n 2 d_S_side_38 rfl rfl ?_
        refine s_aload_n 1 d_S_side_39 rfl rfl ?_
        refine s_getF (v := (al σ 4 3).1 1 1) d_S_side_40 fl_S_23 rfl (sf_1 hF.al_) rfl ?_
        obtain ⟨g7, h⟩ := h
        refine s_getF (v := (al σ 4 3).1 ((al σ 4 3).1 1 1) 2) d_S_side_43 fl_S_239 rfl g7 rfl ?_
        obtain ⟨g9, h⟩ := h
        refine s_callI (as := [aP ((al σ 4 3).1 ((al σ 4 3).1 1 1) 0), aI x1, aI ((al σ 4 3).1 ((al σ 4 3).1 1 1) 2)]) d_S_side_46 ok_Moment_init lk_S_20 io_Moment_init rfl rfl rfl (Nat.le_of_ble_eq_true rfl) rfl g9 (WM.mono h ?_)
        rintro _ σ8 ⟨rfl, hp, h⟩
        obtain ⟨hF9, h⟩ := h
        show WP E m_S_side (d + 1) 49 [(2, aI (σ.1 (σ.1 1 1) 1)), (0, aP 1), (1, aI x1)] [aP (nx σ), aP 1] σ8 Q
        refine s_callV (as := [aP (nx σ)]) (ci := 9) d_S_side_49 ok_S_act lk_S_242 io_S_act so_S_act (by decide) rfl rfl rfl (Nat.le_of_ble_eq_true rfl) rfl (sf_1 hF9) (WM.mono h ?_)
        rintro _ σ10 ⟨rfl, hp, h⟩
        show WP E m_S_side (d + 1) 52 [(2, aI (σ.1 (σ.1 1 1) 1)), (0, aP 1), (1, aI x1)] [] σ10 Q
        refine s_iload_n 0 d_S_side_52 rfl rfl ?_
        exact s_ireturn d_S_side_53 rfl h
      · have h := h.2 c
        refine s_iconst d_S_side_24 ?_
        exact s_ireturn d_S_side_25 rfl h
theorem e_S_side {E : EV} {d : Nat} {Q : Option AV → St → Prop} {σ : St} (x1 : Int) (hF : Fix σ) (h : (sh σ (σ.1 1 1) = some (4, 3)) ∧ (rI x1) ∧ ((x1 < 1 → Q (some (aI (-1))) σ) ∧ (¬ x1 < 1 → (rI x1) ∧ ((24 < x1 → Q (some (aI (-1))) σ) ∧ (¬ 24 < x1 → (rI x1) ∧ (rI (σ.1 (σ.1 1 1) 1)) ∧ ((¬ x1 = (σ.1 (σ.1 1 1) 1) → (sh (al σ 4 3) ((al σ 4 3).1 1 1) = some (4, 3)) ∧ (sh (al σ 4 3) ((al σ 4 3).1 1 1) = some (4, 3)) ∧ (0 < (nx σ)) ∧ (WMv E m_Moment_init d [aP (nx σ), aP ((al σ 4 3).1 ((al σ 4 3).1 1 1) 0), aI x1, aI ((al σ 4 3).1 ((al σ 4 3).1 1 1) 2)] (al σ 4 3) (fun σ8 => Fix σ8 ∧ (WMv E m_S_act d [aP 1, aP (nx σ)] σ8 (fun σ10 => Q (some (aI (σ.1 (σ.1 1 1) 1))) σ10))))) ∧ (x1 = (σ.1 (σ.1 1 1) 1) → Q (some (aI (-1))) σ))))))) : WM E m_S_side (d + 1) [aP 1, aI x1] σ Q := s_meth (by decide) (Nat.le_of_ble_eq_true rfl) rfl (b_S_side_0 x1 hF h)
theorem d_S_gap_0 : decode m_S_gap.2.1 0 = .ok (.aload_n 0, 1) := by decide +kernel
theorem d_S_gap_1 : decode m_S_gap.2.1 1 = .ok (.getfield 23, 3) := by decide +kernel
theorem d_S_gap_4 : decode m_S_gap.2.1 4 = .ok (.getfield 239, 3) := by decide +kernel
theorem d_S_gap_7 : decode m_S_gap.2.1 7 = .ok (.istore_n 2, 1) := by decide +kernel
theorem d_S_gap_8 : decode m_S_gap.2.1 8 = .ok (.iload_n 1, 1) := by decide +kernel
theorem d_S_gap_9 : decode m_S_gap.2.1 9 = .ok (.ifCond .lt 13, 3) := by decide +kernel
theorem d_S_gap_12 : decode m_S_gap.2.1 12 = .ok (.iload_n 1, 1) := by decide +kernel
theorem d_S_gap_13 : decode m_S_gap.2.1 13 = .ok (.iconst 3, 1) := by decide +kernel
theorem d_S_gap_14 : decode m_S_gap.2.1 14 = .ok (.if_icmp .gt 8, 3) := by decide +kernel
theorem d_S_gap_17 : decode m_S_gap.2.1 17 = .ok (.iload_n 1, 1) := by decide +kernel
theorem d_S_gap_18 : decode m_S_gap.2.1 18 = .ok (.iload_n 2, 1) := by decide +kernel
theorem d_S_gap_19 : decode m_S_gap.2.1 19 = .ok (.if_icmp .ne 5, 3) := by decide +kernel
theorem d_S_gap_22 : decode m_S_gap.2.1 22 = .ok (.iconst (-1), 1) := by decide +kernel
theorem d_S_gap_23 : decode m_S_gap.2.1 23 = .ok (.ireturn, 1) := by decide +kernel
theorem d_S_gap_24 : decode m_S_gap.2.1 24 = .ok (.aload_n 0, 1) := by decide +kernel
theorem d_S_gap_25 : decode m_S_gap.2.1 25 = .ok (.new 16, 3) := by decide +kernel
theorem d_S_gap_28 : decode m_S_gap.2.1 28 = .ok (.dup, 1) := by decide +kernel
theorem d_S_gap_29 : decode m_S_gap.2.1 29 = .ok (.aload_n 0, 1) := by decide +kernel
theorem d_S_gap_30 : decode m_S_gap.2.1 30 = .ok (.getfield 23, 3) := by decide +kernel
theorem d_S_gap_33 : decode m_S_gap.2.1 33 = .ok (.getfield 95, 3) := by decide +kernel
theorem d_S_gap_36 : decode m_S_gap.2.1 36 = .ok (.aload_n 0, 1) := by decide +kernel
theorem d_S_gap_37 : decode m_S_gap.2.1 37 = .ok (.getfield 23, 3) := by decide +kernel
theorem d_S_gap_40 : decode m_S_gap.2.1 40 = .ok (.getfield 236, 3) := by decide +kernel
theorem d_S_gap_43 : decode m_S_gap.2.1 43 = .ok (.iload_n 1, 1) := by decide +kernel
theorem d_S_gap_44 : decode m_S_gap.2.1 44 = .ok (.invokespecial 20, 3) := by decide +kernel
theorem d_S_gap_47 : decode m_S_gap.2.1 47 = .ok (.invokevirtual 242, 3) := by decide +kernel
theorem d_S_gap_50 : decode m_S_gap.2.1 50 = .ok (.iload_n 2, 1) := by decide +kernel
theorem d_S_gap_51 : decode m_S_gap.2.1 51 = .ok (.ireturn, 1) := by decide +kernel
theorem b_S_gap_0 {E : EV} {d : Nat} {Q : Option AV → St → Prop} {σ : St} (x1 : Int) (hF : Fix σ) (h : (sh σ (σ.1 1 1) = some (4, 3)) ∧ (rI x1) ∧ ((x1 < 0 → Q (some (aI (-1))) σ) ∧ (¬ x1 < 0 → (rI x1) ∧ ((3 < x1 → Q (some (aI (-1))) σ) ∧ (¬ 3 < x1 → (rI x1) ∧ (rI (σ.1 (σ.1 1 1) 2)) ∧ ((¬ x1 = (σ.1 (σ.1 1 1) 2) → (sh (al σ 4 3) ((al σ 4 3).1 1 1) = some (4, 3)) ∧ (sh (al σ 4 3) ((al σ 4 3).1 1 1) = some (4, 3)) ∧ (0 < (nx σ)) ∧ (WMv E m_Moment_init d [aP (nx σ), aP ((al σ 4 3).1 ((al σ 4 3).1 1 1) 0), aI ((al σ 4 3).1 ((al σ 4 3).1 1 1) 1), aI x1] (al σ 4 3) (fun σ8 => Fix σ8 ∧ (WMv E m_S_act d [aP 1, aP (nx σ)] σ8 (fun σ10 => Q (some (aI (σ.1 (σ.1 1 1) 2))) σ10))))) ∧ (x1 = (σ.1 (σ.1 1 1) 2) → Q (some (aI (-1))) σ))))))) : WP E m_S_gap (d + 1) 0 [(0, aP 1), (1, aI x1)] [] σ Q := by
  refine s_aload_n 0 d_S_gap_0 rfl rfl ?_
  refine s_getF (v := σ.1 1 1) d_S_gap_1 fl_S_23 rfl (sf_1 hF) rfl ?_
  obtain ⟨g1, h⟩ := h
  refine s_getF (v := σ.1 (σ.1 1 1) 2) d_S_gap_4 fl_S_239 rfl g1 rfl ?_
  refine s_istore_n d_S_gap_7 rfl (by decide) rfl ?_
  refine s_iload_n 2 d_S_gap_8 rfl rfl ?_
  obtain ⟨g2, h⟩ := h
  refine s_if_lt d_S_gap_9 rfl g2 (fun c => ?_) (fun c => ?_)
  · have h := h.1 c
    refine s_iconst d_S_gap_22 ?_
    exact s_ireturn d_S_gap_23 rfl h
  · have h := h.2 c
    refine s_iload_n 2 d_S_gap_12 rfl rfl ?_
    refine s_iconst d_S_gap_13 ?_
    obtain ⟨g3, h⟩ := h
    refine s_icmp_gt d_S_gap_14 rfl g3 (by decide) (fun c => ?_) (fun c => ?_)
    · have h := h.1 c
      refine s_iconst d_S_gap_22 ?_
      exact s_ireturn d_S_gap_23 rfl h
    · have h := h.2 c
      refine s_iload_n 2 d_S_gap_17 rfl rfl ?_
      refine s_iload_n 0 d_S_gap_18 rfl rfl ?_
      obtain ⟨g4, h⟩ := h
      obtain ⟨g5, h⟩ := h
      refine s_icmp_ne d_S_gap_19 rfl g4 g5 (fun c => ?_) (fun c => ?_)
      · have h := h.1 c
        refine s_aload_n 1 d_S_gap_24 rfl rfl ?_
        refine s_new (ci := 4) d_S_gap_25 (by decide) rfl inG4 tyX4_ok (df_4 E) nw_S_16 in_4 ii_4 ?_
        refine s_dup d_S_gap_28 (Nat.ne_of_beq_eq_false rfl) ?_
        refine s_aload_n 1 d_S_gap_29 rfl rfl ?_
        refine s_getF (v := (al σ 4 3).1 1 1) d_S_gap_30 fl_S_23 rfl (sf_1 hF.al_) rfl ?_
        obtain ⟨g6, h⟩ := h
        refine s_getF (v := (al σ 4 3).1 ((al σ 4 3).1 1 1) 0) d_S_gap_33 fl_S_95 rfl g6 rfl ?_
        refine s_aload_n 1 d_S_gap_36 rfl rfl ?_
        refine s_getF (v := (al σ 4 3).1 1 1) d_S_gap_37 fl_S_23 rfl (sf_1 hF.al_) rfl ?_
        obtain ⟨g7, h⟩ := h
        refine s_getF (v := (al σ 4 3).1 ((al σ 4 3).1 1 1) 1) d_S_gap_40 fl_S_236 rfl g7 rfl ?_
        refine s_iload_n 2 d_S_gap_43 rfl rfl ?_
        obtain ⟨g9, h⟩ := h
        refine s_callI (as := [aP ((al σ 4 3).1 ((al σ 4 3).1 1 1) 0), aI ((al σ 4 3).1 ((al σ 4 3).1 1 1) 1), aI x1]) d_S_gap_44 ok_Moment_init lk_S_20 io_Moment_init rfl rfl rfl (Nat.le_of_ble_eq_true rfl) rfl g9 (WM.mono h ?_)
        rintro _ σ8 ⟨rfl, hp, h⟩
        obtain ⟨hF9, h⟩ := h
        show WP E m_S_gap (d + 1) 47 [(2, aI (σ.1 (σ.1 1 1) 2)), (0, aP 1), (1, aI x1)] [aP (nx σ), aP 1] σ8 Q
        refine s_callV (as := [aP (nx σ)]) (ci := 9) d_S_gap_47 ok_S_act lk_S_242 io_S_act so_S_act (by decide) rfl rfl rfl (Nat.le_of_ble_eq_true rfl) rfl (sf_1 hF9) (WM.mono h ?_)
        rintro _ σ10 ⟨rfl, hp, h⟩
        show WP E m_S_gap (d + 1) 50 [(2, aI (σ.1 (σ.1 1 1) 2)), (0, aP 1), (1, aI x1)] [] σ10 Q
        refine s_iload_n 0 d_S_gap_50 rfl rfl ?_
        exact s_ireturn d_S_gap_51 rfl h
      · have h := h.2 c
        refine s_iconst d_S_gap_22 ?_
        exact s_ireturn d_S_gap_23 rfl h
theorem e_S_gap {E : EV} {d : Nat} {Q : Option AV → St → Prop} {σ : St} (x1 : Int) (hF : Fix σ) (h : (sh σ (σ.1 1 1) = some (4, 3)) ∧ (rI x1) ∧ ((x1 < 0 → Q (some (aI (-1))) σ) ∧ (¬ x1 < 0 → (rI x1) ∧ ((3 < x1 → Q (some (aI (-1))) σ) ∧ (¬ 3 < x1 → (rI x1) ∧ (rI (σ.1 (σ.1 1 1) 2)) ∧ ((¬ x1 = (σ.1 (σ.1 1 1) 2) → (sh (al σ 4 3) ((al σ 4 3).1 1 1) = some (4, 3)) ∧ (sh (al σ 4 3) ((al σ 4 3).1 1 1) = some (4, 3)) ∧ (0 < (nx σ)) ∧ (WMv E m_Moment_init d [aP (nx σ), aP ((al σ 4 3).1 ((al σ 4 3).1 1 1) 0), aI ((al σ 4 3).1 ((al σ 4 3).1 1 1) 1), aI x1] (al σ 4 3) (fun σ8 => Fix σ8 ∧ (WMv E m_S_act d [aP 1, aP (nx σ)] σ8 (fun σ10 => Q (some (aI (σ.1 (σ.1 1 1) 2))) σ10))))) ∧ (x1 = (σ.1 (σ.1 1 1) 2) → Q (some (aI (-1))) σ))))))) : WM E m_S_gap (d + 1) [aP 1, aI x1] σ Q := s_meth (by decide) (Nat.le_of_ble_eq_true rfl) rfl (b_S_gap_0 x1 hF h)
theorem d_S_undo_0 : decode m_S_undo.2.1 0 = .ok (.aload_n 0, 1) := by decide +kernel
theorem d_S_undo_1 : decode m_S_undo.2.1 1 = .ok (.getfield 31, 3) := by decide +kernel
theorem d_S_undo_4 : decode m_S_undo.2.1 4 = .ok (.ifCond .le 12, 3) := by decide +kernel
theorem d_S_undo_7 : decode m_S_undo.2.1 7 = .ok (.aload_n 0, 1) := by decide +kernel
theorem d_S_undo_8 : decode m_S_undo.2.1 8 = .ok (.getfield 31, 3) := by decide +kernel
theorem d_S_undo_11 : decode m_S_undo.2.1 11 = .ok (.bipush 12, 2) := by decide +kernel
theorem d_S_undo_13 : decode m_S_undo.2.1 13 = .ok (.if_icmp .le 5, 3) := by decide +kernel
theorem d_S_undo_16 : decode m_S_undo.2.1 16 = .ok (.iconst (-1), 1) := by decide +kernel
theorem d_S_undo_17 : decode m_S_undo.2.1 17 = .ok (.ireturn, 1) := by decide +kernel
theorem d_S_undo_18 : decode m_S_undo.2.1 18 = .ok (.aload_n 0, 1) := by decide +kernel
theorem d_S_undo_19 : decode m_S_undo.2.1 19 = .ok (.getfield 27, 3) := by decide +kernel
theorem d_S_undo_22 : decode m_S_undo.2.1 22 = .ok (.aload_n 0, 1) := by decide +kernel
theorem d_S_undo_23 : decode m_S_undo.2.1 23 = .ok (.getfield 31, 3) := by decide +kernel
theorem d_S_undo_26 : decode m_S_undo.2.1 26 = .ok (.iconst 1, 1) := by decide +kernel
theorem d_S_undo_27 : decode m_S_undo.2.1 27 = .ok (.isub, 1) := by decide +kernel
theorem d_S_undo_28 : decode m_S_undo.2.1 28 = .ok (.aaload, 1) := by decide +kernel
theorem d_S_undo_29 : decode m_S_undo.2.1 29 = .ok (.astore_n 1, 1) := by decide +kernel
theorem d_S_undo_30 : decode m_S_undo.2.1 30 = .ok (.aload_n 1, 1) := by decide +kernel
theorem d_S_undo_31 : decode m_S_undo.2.1 31 = .ok (.ifnonnull 5, 3) := by decide +kernel
theorem d_S_undo_34 : decode m_S_undo.2.1 34 = .ok (.iconst (-1), 1) := by decide +kernel
theorem d_S_undo_35 : decode m_S_undo.2.1 35 = .ok (.ireturn, 1) := by decide +kernel
theorem d_S_undo_36 : decode m_S_undo.2.1 36 = .ok (.aload_n 0, 1) := by decide +kernel
theorem d_S_undo_37 : decode m_S_undo.2.1 37 = .ok (.dup, 1) := by decide +kernel
theorem d_S_undo_38 : decode m_S_undo.2.1 38 = .ok (.getfield 31, 3) := by decide +kernel
theorem d_S_undo_41 : decode m_S_undo.2.1 41 = .ok (.iconst 1, 1) := by decide +kernel
theorem d_S_undo_42 : decode m_S_undo.2.1 42 = .ok (.isub, 1) := by decide +kernel
theorem d_S_undo_43 : decode m_S_undo.2.1 43 = .ok (.putfield 31, 3) := by decide +kernel
theorem d_S_undo_46 : decode m_S_undo.2.1 46 = .ok (.aload_n 0, 1) := by decide +kernel
theorem d_S_undo_47 : decode m_S_undo.2.1 47 = .ok (.getfield 27, 3) := by decide +kernel
theorem d_S_undo_50 : decode m_S_undo.2.1 50 = .ok (.aload_n 0, 1) := by decide +kernel
theorem d_S_undo_51 : decode m_S_undo.2.1 51 = .ok (.getfield 31, 3) := by decide +kernel
theorem d_S_undo_54 : decode m_S_undo.2.1 54 = .ok (.aconst_null, 1) := by decide +kernel
theorem d_S_undo_55 : decode m_S_undo.2.1 55 = .ok (.aastore, 1) := by decide +kernel
theorem d_S_undo_56 : decode m_S_undo.2.1 56 = .ok (.aload_n 0, 1) := by decide +kernel
theorem d_S_undo_57 : decode m_S_undo.2.1 57 = .ok (.aload_n 1, 1) := by decide +kernel
theorem d_S_undo_58 : decode m_S_undo.2.1 58 = .ok (.putfield 23, 3) := by decide +kernel
theorem d_S_undo_61 : decode m_S_undo.2.1 61 = .ok (.aload_n 0, 1) := by decide +kernel
theorem d_S_undo_62 : decode m_S_undo.2.1 62 = .ok (.getfield 31, 3) := by decide +kernel
theorem d_S_undo_65 : decode m_S_undo.2.1 65 = .ok (.ireturn, 1) := by decide +kernel
theorem b_S_undo_0 {E : EV} {d : Nat} {Q : Option AV → St → Prop} {σ : St} (hF : Fix σ) (h : (rI (σ.1 1 3)) ∧ (((σ.1 1 3) ≤ 0 → Q (some (aI (-1))) σ) ∧ (¬ (σ.1 1 3) ≤ 0 → (rI (σ.1 1 3)) ∧ (((σ.1 1 3) ≤ 12 → (0 ≤ ((σ.1 1 3) - 1) ∧ ((σ.1 1 3) - 1) < 12) ∧ ((¬ (σ.1 9 ((σ.1 1 3) - 1)) = 0 → (0 ≤ ((σ.1 1 3) - 1) ∧ ((σ.1 1 3) - 1) < 12) ∧ Q (some (aI ((σ.1 1 3) - 1))) (wr (wr (wr σ 1 3 ((σ.1 1 3) - 1)) 9 ((σ.1 1 3) - 1) 0) 1 1 (σ.1 9 ((σ.1 1 3) - 1)))) ∧ ((σ.1 9 ((σ.1 1 3) - 1)) = 0 → Q (some (aI (-1))) σ))) ∧ (¬ (σ.1 1 3) ≤ 12 → Q (some (aI (-1))) σ))))) : WP E m_S_undo d 0 [(0, aP 1)] [] σ Q := by
  refine s_aload_n 0 d_S_undo_0 rfl rfl ?_
  refine s_getF (v := σ.1 1 3) d_S_undo_1 fl_S_31 rfl (sf_1 hF) rfl ?_
  obtain ⟨g1, h⟩ := h
  refine s_if_le d_S_undo_4 rfl g1 (fun c => ?_) (fun c => ?_)
  · have h := h.1 c
    refine s_iconst d_S_undo_16 ?_
    exact s_ireturn d_S_undo_17 rfl h
  · have h := h.2 c
    refine s_aload_n 0 d_S_undo_7 rfl rfl ?_
    refine s_getF (v := σ.1 1 3) d_S_undo_8 fl_S_31 rfl (sf_1 hF) rfl ?_
    refine s_bipush d_S_undo_11 (by decide) ?_
    obtain ⟨g2, h⟩ := h
    refine s_icmp_le d_S_undo_13 rfl g2 (by decide) (fun c => ?_) (fun c => ?_)
    · have h := h.1 c
      refine s_aload_n 0 d_S_undo_18 rfl rfl ?_
      refine s_getF (v := 9) d_S_undo_19 fl_S_27 rfl (sf_1 hF) (ff_0 hF) ?_
      refine s_aload_n 0 d_S_undo_22 rfl rfl ?_
      refine s_getF (v := σ.1 1 3) d_S_undo_23 fl_S_31 rfl (sf_1 hF) rfl ?_
      refine s_iconst d_S_undo_26 ?_
      refine s_isub d_S_undo_27 ?_
      obtain ⟨g3, h⟩ := h
      refine s_aaloadv (v := σ.1 9 ((σ.1 1 3) - 1)) (by decide) d_S_undo_28 ⟨_, sf_9 hF, g3.1, g3.2, by have := g3.2; omega⟩ rfl ?_
      refine s_astore_n d_S_undo_29 rfl (by decide) rfl ?_
      refine s_aload_n 0 d_S_undo_30 rfl rfl ?_
      refine s_ifnonnull d_S_undo_31 rfl (fun c => ?_) (fun c => ?_)
      · have h := h.1 c
        refine s_aload_n 1 d_S_undo_36 rfl rfl ?_
        refine s_dup d_S_undo_37 (Nat.ne_of_beq_eq_false rfl) ?_
        refine s_getF (v := σ.1 1 3) d_S_undo_38 fl_S_31 rfl (sf_1 hF) rfl ?_
        refine s_iconst d_S_undo_41 ?_
        refine s_isub d_S_undo_42 ?_
        refine s_putf 3 rfl d_S_undo_43 fl_S_31 (fun C T h => by cases h; exact Or.inl rfl) rfl (Or.inl rfl) (fun h => nomatch h) (sf_1 hF) ?_
        refine s_aload_n 1 d_S_undo_46 rfl rfl ?_
        refine s_getF (v := 9) d_S_undo_47 fl_S_27 rfl (sf_1 (hF.wf (a := 1) (k := 3) (by decide))) (ff_0 (hF.wf (a := 1) (k := 3) (by decide))) ?_
        refine s_aload_n 1 d_S_undo_50 rfl rfl ?_
        refine s_getF (v := (σ.1 1 3) - 1) d_S_undo_51 fl_S_31 rfl (sf_1 (hF.wf (a := 1) (k := 3) (by decide))) rfl ?_
        refine s_null d_S_undo_54 ?_
        obtain ⟨g4, h⟩ := h
        refine s_aastore (ci := 4) (N := 3) (by decide) d_S_undo_55 ⟨_, sf_9 (hF.wf (a := 1) (k := 3) (by decide)), g4.1, g4.2, by have := g4.2; omega⟩ (Or.inl rfl) ?_
        refine s_aload_n 1 d_S_undo_56 rfl rfl ?_
        refine s_aload_n 0 d_S_undo_57 rfl rfl ?_
        refine s_putf 1 rfl d_S_undo_58 fl_S_23 (fun C T h => by cases h; exact Or.inl rfl) rfl (Or.inr (Or.inr (Or.inr (Or.inl ⟨_, rfl⟩)))) (fun h => nomatch h) (sf_1 ((hF.wf (a := 1) (k := 3) (by decide)).wa (a := 9) (by decide))) ?_
        refine s_aload_n 1 d_S_undo_61 rfl rfl ?_
        refine s_getF (v := (σ.1 1 3) - 1) d_S_undo_62 fl_S_31 rfl (sf_1 (((hF.wf (a := 1) (k := 3) (by decide)).wa (a := 9) (by decide)).wf (a := 1) (k := 1) (by decide))) rfl ?_
        exact s_ireturn d_S_undo_65 rfl h
      · have h := h.2 c
        refine s_iconst d_S_undo_34 ?_
        exact s_ireturn d_S_undo_35 rfl h
    · have h := h.2 c
      refine s_iconst d_S_undo_16 ?_
      exact s_ireturn d_S_undo_17 rfl h
theorem e_S_undo {E : EV} {d : Nat} {Q : Option AV → St → Prop} {σ : St} (hF : Fix σ) (h : (rI (σ.1 1 3)) ∧ (((σ.1 1 3) ≤ 0 → Q (some (aI (-1))) σ) ∧ (¬ (σ.1 1 3) ≤ 0 → (rI (σ.1 1 3)) ∧ (((σ.1 1 3) ≤ 12 → (0 ≤ ((σ.1 1 3) - 1) ∧ ((σ.1 1 3) - 1) < 12) ∧ ((¬ (σ.1 9 ((σ.1 1 3) - 1)) = 0 → (0 ≤ ((σ.1 1 3) - 1) ∧ ((σ.1 1 3) - 1) < 12) ∧ Q (some (aI ((σ.1 1 3) - 1))) (wr (wr (wr σ 1 3 ((σ.1 1 3) - 1)) 9 ((σ.1 1 3) - 1) 0) 1 1 (σ.1 9 ((σ.1 1 3) - 1)))) ∧ ((σ.1 9 ((σ.1 1 3) - 1)) = 0 → Q (some (aI (-1))) σ))) ∧ (¬ (σ.1 1 3) ≤ 12 → Q (some (aI (-1))) σ))))) : WM E m_S_undo d [aP 1] σ Q := s_meth (by decide) (Nat.le_of_ble_eq_true rfl) rfl (b_S_undo_0 hF h)
theorem d_S_sign_0 : decode m_S_sign.2.1 0 = .ok (.iload_n 1, 1) := by decide +kernel
theorem d_S_sign_1 : decode m_S_sign.2.1 1 = .ok (.ifCond .lt 18, 3) := by decide +kernel
theorem d_S_sign_4 : decode m_S_sign.2.1 4 = .ok (.iload_n 1, 1) := by decide +kernel
theorem d_S_sign_5 : decode m_S_sign.2.1 5 = .ok (.bipush 26, 2) := by decide +kernel
theorem d_S_sign_7 : decode m_S_sign.2.1 7 = .ok (.if_icmp .ge 12, 3) := by decide +kernel
theorem d_S_sign_10 : decode m_S_sign.2.1 10 = .ok (.iload_n 2, 1) := by decide +kernel
theorem d_S_sign_11 : decode m_S_sign.2.1 11 = .ok (.ifCond .lt 8, 3) := by decide +kernel
theorem d_S_sign_14 : decode m_S_sign.2.1 14 = .ok (.iload_n 2, 1) := by decide +kernel
theorem d_S_sign_15 : decode m_S_sign.2.1 15 = .ok (.iconst 4, 1) := by decide +kernel
theorem d_S_sign_16 : decode m_S_sign.2.1 16 = .ok (.if_icmp .le 5, 3) := by decide +kernel
theorem d_S_sign_19 : decode m_S_sign.2.1 19 = .ok (.iconst (-1), 1) := by decide +kernel
theorem d_S_sign_20 : decode m_S_sign.2.1 20 = .ok (.ireturn, 1) := by decide +kernel
theorem d_S_sign_21 : decode m_S_sign.2.1 21 = .ok (.aload_n 0, 1) := by decide +kernel
theorem d_S_sign_22 : decode m_S_sign.2.1 22 = .ok (.getfield 10, 3) := by decide +kernel
theorem d_S_sign_25 : decode m_S_sign.2.1 25 = .ok (.iload_n 1, 1) := by decide +kernel
theorem d_S_sign_26 : decode m_S_sign.2.1 26 = .ok (.invokevirtual 103, 3) := by decide +kernel
theorem d_S_sign_29 : decode m_S_sign.2.1 29 = .ok (.ifCond .ne 6, 3) := by decide +kernel
theorem d_S_sign_32 : decode m_S_sign.2.1 32 = .ok (.bipush (-2), 2) := by decide +kernel
theorem d_S_sign_34 : decode m_S_sign.2.1 34 = .ok (.ireturn, 1) := by decide +kernel
theorem d_S_sign_35 : decode m_S_sign.2.1 35 = .ok (.iload_n 2, 1) := by decide +kernel
theorem d_S_sign_36 : decode m_S_sign.2.1 36 = .ok (.tableswitch 68 0 3 #[32, 41, 50, 59], 32) := by decide +kernel
theorem d_S_sign_68 : decode m_S_sign.2.1 68 = .ok (.aload_n 0, 1) := by decide +kernel
theorem d_S_sign_69 : decode m_S_sign.2.1 69 = .ok (.getfield 10, 3) := by decide +kernel
theorem d_S_sign_72 : decode m_S_sign.2.1 72 = .ok (.iload_n 1, 1) := by decide +kernel
theorem d_S_sign_73 : decode m_S_sign.2.1 73 = .ok (.invokevirtual 246, 3) := by decide +kernel
theorem d_S_sign_76 : decode m_S_sign.2.1 76 = .ok (.ireturn, 1) := by decide +kernel
theorem d_S_sign_77 : decode m_S_sign.2.1 77 = .ok (.aload_n 0, 1) := by decide +kernel
theorem d_S_sign_78 : decode m_S_sign.2.1 78 = .ok (.getfield 10, 3) := by decide +kernel
theorem d_S_sign_81 : decode m_S_sign.2.1 81 = .ok (.iload_n 1, 1) := by decide +kernel
theorem d_S_sign_82 : decode m_S_sign.2.1 82 = .ok (.invokevirtual 249, 3) := by decide +kernel
theorem d_S_sign_85 : decode m_S_sign.2.1 85 = .ok (.ireturn, 1) := by decide +kernel
theorem d_S_sign_86 : decode m_S_sign.2.1 86 = .ok (.aload_n 0, 1) := by decide +kernel
theorem d_S_sign_87 : decode m_S_sign.2.1 87 = .ok (.getfield 10, 3) := by decide +kernel
theorem d_S_sign_90 : decode m_S_sign.2.1 90 = .ok (.iload_n 1, 1) := by decide +kernel
theorem d_S_sign_91 : decode m_S_sign.2.1 91 = .ok (.invokevirtual 252, 3) := by decide +kernel
theorem d_S_sign_94 : decode m_S_sign.2.1 94 = .ok (.ireturn, 1) := by decide +kernel
theorem d_S_sign_95 : decode m_S_sign.2.1 95 = .ok (.aload_n 0, 1) := by decide +kernel
theorem d_S_sign_96 : decode m_S_sign.2.1 96 = .ok (.getfield 10, 3) := by decide +kernel
theorem d_S_sign_99 : decode m_S_sign.2.1 99 = .ok (.iload_n 1, 1) := by decide +kernel
theorem d_S_sign_100 : decode m_S_sign.2.1 100 = .ok (.invokevirtual 255, 3) := by decide +kernel
theorem d_S_sign_103 : decode m_S_sign.2.1 103 = .ok (.ireturn, 1) := by decide +kernel
theorem d_S_sign_104 : decode m_S_sign.2.1 104 = .ok (.aload_n 0, 1) := by decide +kernel
theorem d_S_sign_105 : decode m_S_sign.2.1 105 = .ok (.iload_n 1, 1) := by decide +kernel
theorem d_S_sign_106 : decode m_S_sign.2.1 106 = .ok (.invokevirtual 258, 3) := by decide +kernel
theorem d_S_sign_109 : decode m_S_sign.2.1 109 = .ok (.ireturn, 1) := by decide +kernel
theorem b_S_sign_0 {E : EV} {d : Nat} {Q : Option AV → St → Prop} {σ : St} (x1 x2 : Int) (hF : Fix σ) (h : (rI x1) ∧ ((x1 < 0 → Q (some (aI (-1))) σ) ∧ (¬ x1 < 0 → (rI x1) ∧ ((26 ≤ x1 → Q (some (aI (-1))) σ) ∧ (¬ 26 ≤ x1 → (rI x2) ∧ ((x2 < 0 → Q (some (aI (-1))) σ) ∧ (¬ x2 < 0 → (rI x2) ∧ ((x2 ≤ 4 → (sh σ (σ.1 1 0) = some (8, 4)) ∧ (WMi E m_Table_has d [aP (σ.1 1 0), aI x1] σ (fun v5 σ5 => Fix σ5 ∧ (rI v5) ∧ ((¬ v5 = 0 → (rI x2) ∧ ((x2 = 0 → (sh σ5 (σ5.1 1 0) = some (8, 4)) ∧ (WMi E m_Table_wideOf d [aP (σ5.1 1 0), aI x1] σ5 (fun v9 σ9 => Q (some (aI v9)) σ9))) ∧ (x2 = 1 → (sh σ5 (σ5.1 1 0) = some (8, 4)) ∧ (WMi E m_Table_highOf d [aP (σ5.1 1 0), aI x1] σ5 (fun v11 σ11 => Q (some (aI v11)) σ11))) ∧ (x2 = 2 → (sh σ5 (σ5.1 1 0) = some (8, 4)) ∧ (WMi E m_Table_coreWideOf d [aP (σ5.1 1 0), aI x1] σ5 (fun v13 σ13 => Q (some (aI v13)) σ13))) ∧ (x2 = 3 → (sh σ5 (σ5.1 1 0) = some (8, 4)) ∧ (WMi E m_Table_coreHighOf d [aP (σ5.1 1 0), aI x1] σ5 (fun v15 σ15 => Q (some (aI v15)) σ15))) ∧ (¬ (0 ≤ x2 ∧ x2 ≤ 3) → (WMi E m_S_timesOf d [aP 1, aI x1] σ5 (fun v17 σ17 => Q (some (aI v17)) σ17))))) ∧ (v5 = 0 → Q (some (aI (-2))) σ5))))) ∧ (¬ x2 ≤ 4 → Q (some (aI (-1))) σ))))))))) : WP E m_S_sign (d + 1) 0 [(0, aP 1), (1, aI x1), (2, aI x2)] [] σ Q := by
  refine s_iload_n 1 d_S_sign_0 rfl rfl ?_
  obtain ⟨g1, h⟩ := h
  refine s_if_lt d_S_sign_1 rfl g1 (fun c => ?_) (fun c => ?_)
  · have h := h.1 c
    refine s_iconst d_S_sign_19 ?_
    exact s_ireturn d_S_sign_20 rfl h
  · have h := h.2 c
    refine s_iload_n 1 d_S_sign_4 rfl rfl ?_
    refine s_bipush d_S_sign_5 (by decide) ?_
    obtain ⟨g2, h⟩ := h
    refine s_icmp_ge d_S_sign_7 rfl g2 (by decide) (fun c => ?_) (fun c => ?_)
    · have h := h.1 c
      refine s_iconst d_S_sign_19 ?_
      exact s_ireturn d_S_sign_20 rfl h
    · have h := h.2 c
      refine s_iload_n 2 d_S_sign_10 rfl rfl ?_
      obtain ⟨g3, h⟩ := h
      refine s_if_lt d_S_sign_11 rfl g3 (fun c => ?_) (fun c => ?_)
      · have h := h.1 c
        refine s_iconst d_S_sign_19 ?_
        exact s_ireturn d_S_sign_20 rfl h
      · have h := h.2 c
        refine s_iload_n 2 d_S_sign_14 rfl rfl ?_
        refine s_iconst d_S_sign_15 ?_
        obtain ⟨g4, h⟩ := h
        refine s_icmp_le d_S_sign_16 rfl g4 (by decide) (fun c => ?_) (fun c => ?_)
        · have h := h.1 c
          refine s_aload_n 0 d_S_sign_21 rfl rfl ?_
          refine s_getF (v := σ.1 1 0) d_S_sign_22 fl_S_10 rfl (sf_1 hF) rfl ?_
          refine s_iload_n 1 d_S_sign_25 rfl rfl ?_
          obtain ⟨g6, h⟩ := h
          refine s_callV (as := [aI x1]) (ci := 8) d_S_sign_26 ok_Table_has lk_S_103 io_Table_has so_Table_has (by decide) rfl rfl rfl (Nat.le_of_ble_eq_true rfl) rfl g6 (WM.mono h ?_)
          rintro _ σ5 ⟨v5, rfl, hp, h⟩
          obtain ⟨hF6, h⟩ := h
          show WP E m_S_sign (d + 1) 29 [(0, aP 1), (1, aI x1), (2, aI x2)] [aI v5] σ5 Q
          obtain ⟨g7, h⟩ := h
          refine s_if_ne d_S_sign_29 rfl g7 (fun c => ?_) (fun c => ?_)
          · have h := h.1 c
            refine s_iload_n 2 d_S_sign_35 rfl rfl ?_
            obtain ⟨g8, h⟩ := h
            by_cases c0 : x2 = 0
            · have h := h.1 c0
              refine s_tableIn d_S_sign_36 g8 (by rw [c0]; decide) (by rw [c0]; rfl) (tgt := 68) rfl ?_
              refine s_aload_n 0 d_S_sign_68 rfl rfl ?_
              refine s_getF (v := σ5.1 1 0) d_S_sign_69 fl_S_10 rfl (sf_1 hF6) rfl ?_
              refine s_iload_n 1 d_S_sign_72 rfl rfl ?_
              obtain ⟨g10, h⟩ := h
              refine s_callV (as := [aI x1]) (ci := 8) d_S_sign_73 ok_Table_wideOf lk_S_246 io_Table_wideOf so_Table_wideOf (by decide) rfl rfl rfl (Nat.le_of_ble_eq_true rfl) rfl g10 (WM.mono h ?_)
              rintro _ σ9 ⟨v9, rfl, hp, h⟩
              show WP E m_S_sign (d + 1) 76 [(0, aP 1), (1, aI x1), (2, aI x2)] [aI v9] σ9 Q
              exact s_ireturn d_S_sign_76 rfl h
            by_cases c1 : x2 = 1
            · have h := h.2.1 c1
              refine s_tableIn d_S_sign_36 g8 (by rw [c1]; decide) (by rw [c1]; rfl) (tgt := 77) rfl ?_
              refine s_aload_n 0 d_S_sign_77 rfl rfl ?_
              refine s_getF (v := σ5.1 1 0) d_S_sign_78 fl_S_10 rfl (sf_1 hF6) rfl ?_
              refine s_iload_n 1 d_S_sign_81 rfl rfl ?_
              obtain ⟨g12, h⟩ := h
              refine s_callV (as := [aI x1]) (ci := 8) d_S_sign_82 ok_Table_highOf lk_S_249 io_Table_highOf so_Table_highOf (by decide) rfl rfl rfl (Nat.le_of_ble_eq_true rfl) rfl g12 (WM.mono h ?_)
              rintro _ σ11 ⟨v11, rfl, hp, h⟩
              show WP E m_S_sign (d + 1) 85 [(0, aP 1), (1, aI x1), (2, aI x2)] [aI v11] σ11 Q
              exact s_ireturn d_S_sign_85 rfl h
            by_cases c2 : x2 = 2
            · have h := h.2.2.1 c2
              refine s_tableIn d_S_sign_36 g8 (by rw [c2]; decide) (by rw [c2]; rfl) (tgt := 86) rfl ?_
              refine s_aload_n 0 d_S_sign_86 rfl rfl ?_
              refine s_getF (v := σ5.1 1 0) d_S_sign_87 fl_S_10 rfl (sf_1 hF6) rfl ?_
              refine s_iload_n 1 d_S_sign_90 rfl rfl ?_
              obtain ⟨g14, h⟩ := h
              refine s_callV (as := [aI x1]) (ci := 8) d_S_sign_91 ok_Table_coreWideOf lk_S_252 io_Table_coreWideOf so_Table_coreWideOf (by decide) rfl rfl rfl (Nat.le_of_ble_eq_true rfl) rfl g14 (WM.mono h ?_)
              rintro _ σ13 ⟨v13, rfl, hp, h⟩
              show WP E m_S_sign (d + 1) 94 [(0, aP 1), (1, aI x1), (2, aI x2)] [aI v13] σ13 Q
              exact s_ireturn d_S_sign_94 rfl h
            by_cases c3 : x2 = 3
            · have h := h.2.2.2.1 c3
              refine s_tableIn d_S_sign_36 g8 (by rw [c3]; decide) (by rw [c3]; rfl) (tgt := 95) rfl ?_
              refine s_aload_n 0 d_S_sign_95 rfl rfl ?_
              refine s_getF (v := σ5.1 1 0) d_S_sign_96 fl_S_10 rfl (sf_1 hF6) rfl ?_
              refine s_iload_n 1 d_S_sign_99 rfl rfl ?_
              obtain ⟨g16, h⟩ := h
              refine s_callV (as := [aI x1]) (ci := 8) d_S_sign_100 ok_Table_coreHighOf lk_S_255 io_Table_coreHighOf so_Table_coreHighOf (by decide) rfl rfl rfl (Nat.le_of_ble_eq_true rfl) rfl g16 (WM.mono h ?_)
              rintro _ σ15 ⟨v15, rfl, hp, h⟩
              show WP E m_S_sign (d + 1) 103 [(0, aP 1), (1, aI x1), (2, aI x2)] [aI v15] σ15 Q
              exact s_ireturn d_S_sign_103 rfl h
            have c : ¬ (0 ≤ x2 ∧ x2 ≤ 3) := by omega
            have h := h.2.2.2.2 c
            refine s_tableOut d_S_sign_36 g8 c (tgt := 104) rfl ?_
            refine s_aload_n 0 d_S_sign_104 rfl rfl ?_
            refine s_iload_n 1 d_S_sign_105 rfl rfl ?_
            refine s_callV (as := [aI x1]) (ci := 9) d_S_sign_106 ok_S_timesOf lk_S_258 io_S_timesOf so_S_timesOf (by decide) rfl rfl rfl (Nat.le_of_ble_eq_true rfl) rfl (sf_1 hF6) (WM.mono h ?_)
            rintro _ σ17 ⟨v17, rfl, hp, h⟩
            show WP E m_S_sign (d + 1) 109 [(0, aP 1), (1, aI x1), (2, aI x2)] [aI v17] σ17 Q
            exact s_ireturn d_S_sign_109 rfl h
          · have h := h.2 c
            refine s_bipush d_S_sign_32 (by decide) ?_
            exact s_ireturn d_S_sign_34 rfl h
        · have h := h.2 c
          refine s_iconst d_S_sign_19 ?_
          exact s_ireturn d_S_sign_20 rfl h
theorem e_S_sign {E : EV} {d : Nat} {Q : Option AV → St → Prop} {σ : St} (x1 x2 : Int) (hF : Fix σ) (h : (rI x1) ∧ ((x1 < 0 → Q (some (aI (-1))) σ) ∧ (¬ x1 < 0 → (rI x1) ∧ ((26 ≤ x1 → Q (some (aI (-1))) σ) ∧ (¬ 26 ≤ x1 → (rI x2) ∧ ((x2 < 0 → Q (some (aI (-1))) σ) ∧ (¬ x2 < 0 → (rI x2) ∧ ((x2 ≤ 4 → (sh σ (σ.1 1 0) = some (8, 4)) ∧ (WMi E m_Table_has d [aP (σ.1 1 0), aI x1] σ (fun v5 σ5 => Fix σ5 ∧ (rI v5) ∧ ((¬ v5 = 0 → (rI x2) ∧ ((x2 = 0 → (sh σ5 (σ5.1 1 0) = some (8, 4)) ∧ (WMi E m_Table_wideOf d [aP (σ5.1 1 0), aI x1] σ5 (fun v9 σ9 => Q (some (aI v9)) σ9))) ∧ (x2 = 1 → (sh σ5 (σ5.1 1 0) = some (8, 4)) ∧ (WMi E m_Table_highOf d [aP (σ5.1 1 0), aI x1] σ5 (fun v11 σ11 => Q (some (aI v11)) σ11))) ∧ (x2 = 2 → (sh σ5 (σ5.1 1 0) = some (8, 4)) ∧ (WMi E m_Table_coreWideOf d [aP (σ5.1 1 0), aI x1] σ5 (fun v13 σ13 => Q (some (aI v13)) σ13))) ∧ (x2 = 3 → (sh σ5 (σ5.1 1 0) = some (8, 4)) ∧ (WMi E m_Table_coreHighOf d [aP (σ5.1 1 0), aI x1] σ5 (fun v15 σ15 => Q (some (aI v15)) σ15))) ∧ (¬ (0 ≤ x2 ∧ x2 ≤ 3) → (WMi E m_S_timesOf d [aP 1, aI x1] σ5 (fun v17 σ17 => Q (some (aI v17)) σ17))))) ∧ (v5 = 0 → Q (some (aI (-2))) σ5))))) ∧ (¬ x2 ≤ 4 → Q (some (aI (-1))) σ))))))))) : WM E m_S_sign (d + 1) [aP 1, aI x1, aI x2] σ Q := s_meth (by decide) (Nat.le_of_ble_eq_true rfl) rfl (b_S_sign_0 x1 x2 hF h)
theorem d_S_timesOf_0 : decode m_S_timesOf.2.1 0 = .ok (.iconst 0, 1) := by decide +kernel
theorem d_S_timesOf_1 : decode m_S_timesOf.2.1 1 = .ok (.istore_n 2, 1) := by decide +kernel
theorem d_S_timesOf_2 : decode m_S_timesOf.2.1 2 = .ok (.iconst 0, 1) := by decide +kernel
theorem d_S_timesOf_3 : decode m_S_timesOf.2.1 3 = .ok (.istore_n 3, 1) := by decide +kernel
theorem d_S_timesOf_4 : decode m_S_timesOf.2.1 4 = .ok (.iload_n 3, 1) := by decide +kernel
theorem d_S_timesOf_5 : decode m_S_timesOf.2.1 5 = .ok (.aload_n 0, 1) := by decide +kernel
theorem d_S_timesOf_6 : decode m_S_timesOf.2.1 6 = .ok (.getfield 23, 3) := by decide +kernel
theorem d_S_timesOf_9 : decode m_S_timesOf.2.1 9 = .ok (.getfield 95, 3) := by decide +kernel
theorem d_S_timesOf_12 : decode m_S_timesOf.2.1 12 = .ok (.arraylength, 1) := by decide +kernel
theorem d_S_timesOf_13 : decode m_S_timesOf.2.1 13 = .ok (.if_icmp .ge 37, 3) := by decide +kernel
theorem d_S_timesOf_16 : decode m_S_timesOf.2.1 16 = .ok (.aload_n 0, 1) := by decide +kernel
theorem d_S_timesOf_17 : decode m_S_timesOf.2.1 17 = .ok (.getfield 23, 3) := by decide +kernel
theorem d_S_timesOf_20 : decode m_S_timesOf.2.1 20 = .ok (.iload_n 3, 1) := by decide +kernel
theorem d_S_timesOf_21 : decode m_S_timesOf.2.1 21 = .ok (.invokevirtual 352, 3) := by decide +kernel
theorem d_S_timesOf_24 : decode m_S_timesOf.2.1 24 = .ok (.astore 4, 2) := by decide +kernel
theorem d_S_timesOf_26 : decode m_S_timesOf.2.1 26 = .ok (.iload_n 2, 1) := by decide +kernel
theorem d_S_timesOf_27 : decode m_S_timesOf.2.1 27 = .ok (.aload 4, 2) := by decide +kernel
theorem d_S_timesOf_29 : decode m_S_timesOf.2.1 29 = .ok (.ifnonnull 7, 3) := by decide +kernel
theorem d_S_timesOf_32 : decode m_S_timesOf.2.1 32 = .ok (.iconst 0, 1) := by decide +kernel
theorem d_S_timesOf_33 : decode m_S_timesOf.2.1 33 = .ok (.goto 9, 3) := by decide +kernel
theorem d_S_timesOf_36 : decode m_S_timesOf.2.1 36 = .ok (.aload 4, 2) := by decide +kernel
theorem d_S_timesOf_38 : decode m_S_timesOf.2.1 38 = .ok (.iload_n 1, 1) := by decide +kernel
theorem d_S_timesOf_39 : decode m_S_timesOf.2.1 39 = .ok (.invokevirtual 354, 3) := by decide +kernel
theorem d_S_timesOf_42 : decode m_S_timesOf.2.1 42 = .ok (.iadd, 1) := by decide +kernel
theorem d_S_timesOf_43 : decode m_S_timesOf.2.1 43 = .ok (.istore_n 2, 1) := by decide +kernel
theorem d_S_timesOf_44 : decode m_S_timesOf.2.1 44 = .ok (.iinc 3 1, 3) := by decide +kernel
theorem d_S_timesOf_47 : decode m_S_timesOf.2.1 47 = .ok (.goto (-43), 3) := by decide +kernel
theorem d_S_timesOf_50 : decode m_S_timesOf.2.1 50 = .ok (.iload_n 2, 1) := by decide +kernel
theorem d_S_timesOf_51 : decode m_S_timesOf.2.1 51 = .ok (.ireturn, 1) := by decide +kernel
theorem b_S_timesOf_0 {E : EV} {d : Nat} {Q : Option AV → St → Prop} {σ : St} (x1 : Int) (h : WP E m_S_timesOf (d + 1) 4 [(0, aP 1), (1, aI x1), (2, aI 0), (3, aI 0)] [] σ Q) : WP E m_S_timesOf (d + 1) 0 [(0, aP 1), (1, aI x1)] [] σ Q := by
  refine s_iconst d_S_timesOf_0 ?_
  refine s_istore_n d_S_timesOf_1 rfl (by decide) rfl ?_
  refine s_iconst d_S_timesOf_2 ?_
  refine s_istore_n d_S_timesOf_3 rfl (by decide) rfl ?_
  refine wp_drop [2, 3, 1, 0] rfl ?_
  exact h
theorem e_S_timesOf {E : EV} {d : Nat} {Q : Option AV → St → Prop} {σ : St} (x1 : Int) (h : WP E m_S_timesOf (d + 1) 4 [(0, aP 1), (1, aI x1), (2, aI 0), (3, aI 0)] [] σ Q) : WM E m_S_timesOf (d + 1) [aP 1, aI x1] σ Q := s_meth (by decide) (Nat.le_of_ble_eq_true rfl) rfl (b_S_timesOf_0 x1 h)
theorem b_S_timesOf_4 {E : EV} {d : Nat} {Q : Option AV → St → Prop} {σ : St} (x1 x2 x3 : Int) (hF : Fix σ) (h : (sh σ (σ.1 1 1) = some (4, 3)) ∧ (sa σ (σ.1 (σ.1 1 1) 0) 25) ∧ (rI x3) ∧ (rI (ln σ (σ.1 (σ.1 1 1) 0))) ∧ (((ln σ (σ.1 (σ.1 1 1) 0)) ≤ x3 → Q (some (aI x2)) σ) ∧ (¬ (ln σ (σ.1 (σ.1 1 1) 0)) ≤ x3 → (sh σ (σ.1 1 1) = some (4, 3)) ∧ (WMr E m_Moment_get d [aP (σ.1 1 1), aI x3] σ (fun v5 σ5 => ((¬ v5 = 0 → (sh σ5 v5 = some (3, 2)) ∧ (WMi E m_Line_timesOf d [aP v5, aI x1] σ5 (fun v7 σ7 => WP E m_S_timesOf (d + 1) 42 [(0, aP 1), (1, aI x1), (3, aI x3)] [aI v7, aI x2] σ7 Q))) ∧ (v5 = 0 → WP E m_S_timesOf (d + 1) 42 [(0, aP 1), (1, aI x1), (3, aI x3)] [aI 0, aI x2] σ5 Q))))))) : WP E m_S_timesOf (d + 1) 4 [(0, aP 1), (1, aI x1), (2, aI x2), (3, aI x3)] [] σ Q := by
  refine s_iload_n 3 d_S_timesOf_4 rfl rfl ?_
  refine s_aload_n 0 d_S_timesOf_5 rfl rfl ?_
  refine s_getF (v := σ.1 1 1) d_S_timesOf_6 fl_S_23 rfl (sf_1 hF) rfl ?_
  obtain ⟨g1, h⟩ := h
  refine s_getF (v := σ.1 (σ.1 1 1) 0) d_S_timesOf_9 fl_S_95 rfl g1 rfl ?_
  obtain ⟨g2, h⟩ := h
  refine s_alenS (by decide) d_S_timesOf_12 g2 ?_
  obtain ⟨g3, h⟩ := h
  obtain ⟨g4, h⟩ := h
  refine s_icmp_ge d_S_timesOf_13 rfl g3 g4 (fun c => ?_) (fun c => ?_)
  · have h := h.1 c
    refine s_iload_n 2 d_S_timesOf_50 rfl rfl ?_
    exact s_ireturn d_S_timesOf_51 rfl h
  · have h := h.2 c
    refine s_aload_n 0 d_S_timesOf_16 rfl rfl ?_
    refine s_getF (v := σ.1 1 1) d_S_timesOf_17 fl_S_23 rfl (sf_1 hF) rfl ?_
    refine s_iload_n 3 d_S_timesOf_20 rfl rfl ?_
    obtain ⟨g6, h⟩ := h
    refine s_callV (as := [aI x3]) (ci := 4) d_S_timesOf_21 ok_Moment_get lk_S_352 io_Moment_get so_Moment_get (by decide) rfl rfl rfl (Nat.le_of_ble_eq_true rfl) rfl g6 (WM.mono h ?_)
    rintro _ σ5 ⟨v5, rfl, hp, h⟩
    show WP E m_S_timesOf (d + 1) 24 [(0, aP 1), (1, aI x1), (2, aI x2), (3, aI x3)] [aP v5] σ5 Q
    refine s_astore d_S_timesOf_24 (by decide) rfl ?_
    refine s_iload_n 3 d_S_timesOf_26 rfl rfl ?_
    refine s_aload 0 d_S_timesOf_27 rfl ?_
    refine s_ifnonnull d_S_timesOf_29 rfl (fun c => ?_) (fun c => ?_)
    · have h := h.1 c
      refine s_aload 0 d_S_timesOf_36 rfl ?_
      refine s_iload_n 2 d_S_timesOf_38 rfl rfl ?_
      obtain ⟨g8, h⟩ := h
      refine s_callV (as := [aI x1]) (ci := 3) d_S_timesOf_39 ok_Line_timesOf lk_S_354 io_Line_timesOf so_Line_timesOf (by decide) rfl rfl rfl (Nat.le_of_ble_eq_true rfl) rfl g8 (WM.mono h ?_)
      rintro _ σ7 ⟨v7, rfl, hp, h⟩
      show WP E m_S_timesOf (d + 1) 42 [(4, aP v5), (0, aP 1), (1, aI x1), (2, aI x2), (3, aI x3)] [aI v7, aI x2] σ7 Q
      refine wp_drop [1, 2, 4] rfl ?_
      exact h
    · have h := h.2 c
      refine s_iconst d_S_timesOf_32 ?_
      refine s_goto d_S_timesOf_33 rfl ?_
      refine wp_drop [1, 2, 4] rfl ?_
      exact h
theorem b_S_timesOf_42 {E : EV} {d : Nat} {Q : Option AV → St → Prop} {σ : St} (x1 x3 s0 s1 : Int) (h : WP E m_S_timesOf (d + 1) 4 [(0, aP 1), (1, aI x1), (2, aI (s0 + s1)), (3, aI (x3 + 1))] [] σ Q) : WP E m_S_timesOf (d + 1) 42 [(0, aP 1), (1, aI x1), (3, aI x3)] [aI s1, aI s0] σ Q := by
  refine s_iadd d_S_timesOf_42 ?_
  refine s_istore_n d_S_timesOf_43 rfl (by decide) rfl ?_
  refine s_iinc 3 d_S_timesOf_44 rfl (by decide) rfl ?_
  refine s_goto d_S_timesOf_47 rfl ?_
  refine wp_drop [2, 3, 1, 0] rfl ?_
  exact h
theorem d_S_line_0 : decode m_S_line.2.1 0 = .ok (.aload_n 0, 1) := by decide +kernel
theorem d_S_line_1 : decode m_S_line.2.1 1 = .ok (.iload_n 1, 1) := by decide +kernel
theorem d_S_line_2 : decode m_S_line.2.1 2 = .ok (.invokevirtual 158, 3) := by decide +kernel
theorem d_S_line_5 : decode m_S_line.2.1 5 = .ok (.astore_n 3, 1) := by decide +kernel
theorem d_S_line_6 : decode m_S_line.2.1 6 = .ok (.aload_n 3, 1) := by decide +kernel
theorem d_S_line_7 : decode m_S_line.2.1 7 = .ok (.ifnonnull 5, 3) := by decide +kernel
theorem d_S_line_10 : decode m_S_line.2.1 10 = .ok (.iconst (-1), 1) := by decide +kernel
theorem d_S_line_11 : decode m_S_line.2.1 11 = .ok (.ireturn, 1) := by decide +kernel
theorem d_S_line_12 : decode m_S_line.2.1 12 = .ok (.iload_n 2, 1) := by decide +kernel
theorem d_S_line_13 : decode m_S_line.2.1 13 = .ok (.tableswitch 50 0 2 #[27, 32, 37], 27) := by decide +kernel
theorem d_S_line_40 : decode m_S_line.2.1 40 = .ok (.aload_n 3, 1) := by decide +kernel
theorem d_S_line_41 : decode m_S_line.2.1 41 = .ok (.invokevirtual 170, 3) := by decide +kernel
theorem d_S_line_44 : decode m_S_line.2.1 44 = .ok (.ireturn, 1) := by decide +kernel
theorem d_S_line_45 : decode m_S_line.2.1 45 = .ok (.aload_n 3, 1) := by decide +kernel
theorem d_S_line_46 : decode m_S_line.2.1 46 = .ok (.invokevirtual 261, 3) := by decide +kernel
theorem d_S_line_49 : decode m_S_line.2.1 49 = .ok (.ireturn, 1) := by decide +kernel
theorem d_S_line_50 : decode m_S_line.2.1 50 = .ok (.aload_n 3, 1) := by decide +kernel
theorem d_S_line_51 : decode m_S_line.2.1 51 = .ok (.getfield 221, 3) := by decide +kernel
theorem d_S_line_54 : decode m_S_line.2.1 54 = .ok (.ifCond .eq 7, 3) := by decide +kernel
theorem d_S_line_57 : decode m_S_line.2.1 57 = .ok (.iconst 1, 1) := by decide +kernel
theorem d_S_line_58 : decode m_S_line.2.1 58 = .ok (.goto 4, 3) := by decide +kernel
theorem d_S_line_61 : decode m_S_line.2.1 61 = .ok (.iconst 0, 1) := by decide +kernel
theorem d_S_line_62 : decode m_S_line.2.1 62 = .ok (.ireturn, 1) := by decide +kernel
theorem d_S_line_63 : decode m_S_line.2.1 63 = .ok (.iconst (-1), 1) := by decide +kernel
theorem d_S_line_64 : decode m_S_line.2.1 64 = .ok (.ireturn, 1) := by decide +kernel
theorem b_S_line_0 {E : EV} {d : Nat} {Q : Option AV → St → Prop} {σ : St} (x1 x2 : Int) (hF : Fix σ) (h : (WMr E m_S_lineAt d [aP 1, aI x1] σ (fun v1 σ1 => ((¬ v1 = 0 → (rI x2) ∧ ((x2 = 0 → (sh σ1 v1 = some (3, 2)) ∧ (WMi E m_Line_size d [aP v1] σ1 (fun v3 σ3 => Q (some (aI v3)) σ3))) ∧ (x2 = 1 → (sh σ1 v1 = some (3, 2)) ∧ (WMi E m_Line_signs d [aP v1] σ1 (fun v5 σ5 => Q (some (aI v5)) σ5))) ∧ (x2 = 2 → (sh σ1 v1 = some (3, 2)) ∧ (rI (σ1.1 v1 1)) ∧ (((σ1.1 v1 1) = 0 → Q (some (aI 0)) σ1) ∧ (¬ (σ1.1 v1 1) = 0 → Q (some (aI 1)) σ1))) ∧ (¬ (0 ≤ x2 ∧ x2 ≤ 2) → Q (some (aI (-1))) σ1))) ∧ (v1 = 0 → Q (some (aI (-1))) σ1))))) : WP E m_S_line (d + 1) 0 [(0, aP 1), (1, aI x1), (2, aI x2)] [] σ Q := by
  refine s_aload_n 0 d_S_line_0 rfl rfl ?_
  refine s_iload_n 1 d_S_line_1 rfl rfl ?_
  refine s_callV (as := [aI x1]) (ci := 9) d_S_line_2 ok_S_lineAt lk_S_158 io_S_lineAt so_S_lineAt (by decide) rfl rfl rfl (Nat.le_of_ble_eq_true rfl) rfl (sf_1 hF) (WM.mono h ?_)
  rintro _ σ1 ⟨v1, rfl, hp, h⟩
  show WP E m_S_line (d + 1) 5 [(0, aP 1), (1, aI x1), (2, aI x2)] [aP v1] σ1 Q
  refine s_astore_n d_S_line_5 rfl (by decide) rfl ?_
  refine s_aload_n 0 d_S_line_6 rfl rfl ?_
  refine s_ifnonnull d_S_line_7 rfl (fun c => ?_) (fun c => ?_)
  · have h := h.1 c
    refine s_iload_n 3 d_S_line_12 rfl rfl ?_
    obtain ⟨g2, h⟩ := h
    by_cases c0 : x2 = 0
    · have h := h.1 c0
      refine s_tableIn d_S_line_13 g2 (by rw [c0]; decide) (by rw [c0]; rfl) (tgt := 40) rfl ?_
      refine s_aload_n 0 d_S_line_40 rfl rfl ?_
      obtain ⟨g4, h⟩ := h
      refine s_callV (as := []) (ci := 3) d_S_line_41 ok_Line_size lk_S_170 io_Line_size so_Line_size (by decide) rfl rfl rfl (Nat.le_of_ble_eq_true rfl) rfl g4 (WM.mono h ?_)
      rintro _ σ3 ⟨v3, rfl, hp, h⟩
      show WP E m_S_line (d + 1) 44 [(3, aP v1), (0, aP 1), (1, aI x1), (2, aI x2)] [aI v3] σ3 Q
      exact s_ireturn d_S_line_44 rfl h
    by_cases c1 : x2 = 1
    · have h := h.2.1 c1
      refine s_tableIn d_S_line_13 g2 (by rw [c1]; decide) (by rw [c1]; rfl) (tgt := 45) rfl ?_
      refine s_aload_n 0 d_S_line_45 rfl rfl ?_
      obtain ⟨g6, h⟩ := h
      refine s_callV (as := []) (ci := 3) d_S_line_46 ok_Line_signs lk_S_261 io_Line_signs so_Line_signs (by decide) rfl rfl rfl (Nat.le_of_ble_eq_true rfl) rfl g6 (WM.mono h ?_)
      rintro _ σ5 ⟨v5, rfl, hp, h⟩
      show WP E m_S_line (d + 1) 49 [(3, aP v1), (0, aP 1), (1, aI x1), (2, aI x2)] [aI v5] σ5 Q
      exact s_ireturn d_S_line_49 rfl h
    by_cases c2 : x2 = 2
    · have h := h.2.2.1 c2
      refine s_tableIn d_S_line_13 g2 (by rw [c2]; decide) (by rw [c2]; rfl) (tgt := 50) rfl ?_
      refine s_aload_n 0 d_S_line_50 rfl rfl ?_
      obtain ⟨g7, h⟩ := h
      refine s_getF (v := σ1.1 v1 1) d_S_line_51 fl_S_221 rfl g7 rfl ?_
      obtain ⟨g8, h⟩ := h
      refine s_if_eq d_S_line_54 rfl g8 (fun c => ?_) (fun c => ?_)
      · have h := h.1 c
        refine s_iconst d_S_line_61 ?_
        exact s_ireturn d_S_line_62 rfl h
      · have h := h.2 c
        refine s_iconst d_S_line_57 ?_
        refine s_goto d_S_line_58 rfl ?_
        exact s_ireturn d_S_line_62 rfl h
    have c : ¬ (0 ≤ x2 ∧ x2 ≤ 2) := by omega
    have h := h.2.2.2 c
    refine s_tableOut d_S_line_13 g2 c (tgt := 63) rfl ?_
    refine s_iconst d_S_line_63 ?_
    exact s_ireturn d_S_line_64 rfl h
  · have h := h.2 c
    refine s_iconst d_S_line_10 ?_
    exact s_ireturn d_S_line_11 rfl h
theorem e_S_line {E : EV} {d : Nat} {Q : Option AV → St → Prop} {σ : St} (x1 x2 : Int) (hF : Fix σ) (h : (WMr E m_S_lineAt d [aP 1, aI x1] σ (fun v1 σ1 => ((¬ v1 = 0 → (rI x2) ∧ ((x2 = 0 → (sh σ1 v1 = some (3, 2)) ∧ (WMi E m_Line_size d [aP v1] σ1 (fun v3 σ3 => Q (some (aI v3)) σ3))) ∧ (x2 = 1 → (sh σ1 v1 = some (3, 2)) ∧ (WMi E m_Line_signs d [aP v1] σ1 (fun v5 σ5 => Q (some (aI v5)) σ5))) ∧ (x2 = 2 → (sh σ1 v1 = some (3, 2)) ∧ (rI (σ1.1 v1 1)) ∧ (((σ1.1 v1 1) = 0 → Q (some (aI 0)) σ1) ∧ (¬ (σ1.1 v1 1) = 0 → Q (some (aI 1)) σ1))) ∧ (¬ (0 ≤ x2 ∧ x2 ≤ 2) → Q (some (aI (-1))) σ1))) ∧ (v1 = 0 → Q (some (aI (-1))) σ1))))) : WM E m_S_line (d + 1) [aP 1, aI x1, aI x2] σ Q := s_meth (by decide) (Nat.le_of_ble_eq_true rfl) rfl (b_S_line_0 x1 x2 hF h)
theorem d_S_square_0 : decode m_S_square.2.1 0 = .ok (.aload_n 0, 1) := by decide +kernel
theorem d_S_square_1 : decode m_S_square.2.1 1 = .ok (.iload_n 1, 1) := by decide +kernel
theorem d_S_square_2 : decode m_S_square.2.1 2 = .ok (.iload_n 2, 1) := by decide +kernel
theorem d_S_square_3 : decode m_S_square.2.1 3 = .ok (.invokevirtual 99, 3) := by decide +kernel
theorem d_S_square_6 : decode m_S_square.2.1 6 = .ok (.astore 4, 2) := by decide +kernel
theorem d_S_square_8 : decode m_S_square.2.1 8 = .ok (.aload 4, 2) := by decide +kernel
theorem d_S_square_10 : decode m_S_square.2.1 10 = .ok (.ifnonnull 5, 3) := by decide +kernel
theorem d_S_square_13 : decode m_S_square.2.1 13 = .ok (.iconst (-1), 1) := by decide +kernel
theorem d_S_square_14 : decode m_S_square.2.1 14 = .ok (.ireturn, 1) := by decide +kernel
theorem d_S_square_15 : decode m_S_square.2.1 15 = .ok (.iload_n 3, 1) := by decide +kernel
theorem d_S_square_16 : decode m_S_square.2.1 16 = .ok (.tableswitch 143 0 7 #[48, 54, 65, 76, 88, 97, 121, 132], 48) := by decide +kernel
theorem d_S_square_64 : decode m_S_square.2.1 64 = .ok (.aload 4, 2) := by decide +kernel
theorem d_S_square_66 : decode m_S_square.2.1 66 = .ok (.invokevirtual 202, 3) := by decide +kernel
theorem d_S_square_69 : decode m_S_square.2.1 69 = .ok (.ireturn, 1) := by decide +kernel
theorem d_S_square_70 : decode m_S_square.2.1 70 = .ok (.aload_n 0, 1) := by decide +kernel
theorem d_S_square_71 : decode m_S_square.2.1 71 = .ok (.aload 4, 2) := by decide +kernel
theorem d_S_square_73 : decode m_S_square.2.1 73 = .ok (.invokevirtual 262, 3) := by decide +kernel
theorem d_S_square_76 : decode m_S_square.2.1 76 = .ok (.iconst 0, 1) := by decide +kernel
theorem d_S_square_77 : decode m_S_square.2.1 77 = .ok (.invokevirtual 266, 3) := by decide +kernel
theorem d_S_square_80 : decode m_S_square.2.1 80 = .ok (.ireturn, 1) := by decide +kernel
theorem d_S_square_81 : decode m_S_square.2.1 81 = .ok (.aload_n 0, 1) := by decide +kernel
theorem d_S_square_82 : decode m_S_square.2.1 82 = .ok (.aload 4, 2) := by decide +kernel
theorem d_S_square_84 : decode m_S_square.2.1 84 = .ok (.invokevirtual 262, 3) := by decide +kernel
theorem d_S_square_87 : decode m_S_square.2.1 87 = .ok (.iconst 0, 1) := by decide +kernel
theorem d_S_square_88 : decode m_S_square.2.1 88 = .ok (.invokevirtual 269, 3) := by decide +kernel
theorem d_S_square_91 : decode m_S_square.2.1 91 = .ok (.ireturn, 1) := by decide +kernel
theorem d_S_square_92 : decode m_S_square.2.1 92 = .ok (.aload 4, 2) := by decide +kernel
theorem d_S_square_94 : decode m_S_square.2.1 94 = .ok (.invokevirtual 202, 3) := by decide +kernel
theorem d_S_square_97 : decode m_S_square.2.1 97 = .ok (.aload 4, 2) := by decide +kernel
theorem d_S_square_99 : decode m_S_square.2.1 99 = .ok (.invokevirtual 272, 3) := by decide +kernel
theorem d_S_square_102 : decode m_S_square.2.1 102 = .ok (.isub, 1) := by decide +kernel
theorem d_S_square_103 : decode m_S_square.2.1 103 = .ok (.ireturn, 1) := by decide +kernel
theorem d_S_square_104 : decode m_S_square.2.1 104 = .ok (.aload 4, 2) := by decide +kernel
theorem d_S_square_106 : decode m_S_square.2.1 106 = .ok (.iconst 0, 1) := by decide +kernel
theorem d_S_square_107 : decode m_S_square.2.1 107 = .ok (.bipush 65, 2) := by decide +kernel
theorem d_S_square_109 : decode m_S_square.2.1 109 = .ok (.invokevirtual 184, 3) := by decide +kernel
theorem d_S_square_112 : decode m_S_square.2.1 112 = .ok (.ireturn, 1) := by decide +kernel
theorem d_S_square_113 : decode m_S_square.2.1 113 = .ok (.aload 4, 2) := by decide +kernel
theorem d_S_square_115 : decode m_S_square.2.1 115 = .ok (.aload 4, 2) := by decide +kernel
theorem d_S_square_117 : decode m_S_square.2.1 117 = .ok (.iconst 0, 1) := by decide +kernel
theorem d_S_square_118 : decode m_S_square.2.1 118 = .ok (.invokevirtual 113, 3) := by decide +kernel
theorem d_S_square_121 : decode m_S_square.2.1 121 = .ok (.bipush 65, 2) := by decide +kernel
theorem d_S_square_123 : decode m_S_square.2.1 123 = .ok (.if_icmp .ne 7, 3) := by decide +kernel
theorem d_S_square_126 : decode m_S_square.2.1 126 = .ok (.iconst 1, 1) := by decide +kernel
theorem d_S_square_127 : decode m_S_square.2.1 127 = .ok (.goto 4, 3) := by decide +kernel
theorem d_S_square_130 : decode m_S_square.2.1 130 = .ok (.iconst 0, 1) := by decide +kernel
theorem d_S_square_131 : decode m_S_square.2.1 131 = .ok (.bipush 64, 2) := by decide +kernel
theorem d_S_square_133 : decode m_S_square.2.1 133 = .ok (.invokevirtual 184, 3) := by decide +kernel
theorem d_S_square_136 : decode m_S_square.2.1 136 = .ok (.ireturn, 1) := by decide +kernel
theorem d_S_square_137 : decode m_S_square.2.1 137 = .ok (.aload_n 0, 1) := by decide +kernel
theorem d_S_square_138 : decode m_S_square.2.1 138 = .ok (.aload 4, 2) := by decide +kernel
theorem d_S_square_140 : decode m_S_square.2.1 140 = .ok (.iconst (-1), 1) := by decide +kernel
theorem d_S_square_141 : decode m_S_square.2.1 141 = .ok (.invokevirtual 205, 3) := by decide +kernel
theorem d_S_square_144 : decode m_S_square.2.1 144 = .ok (.getfield 275, 3) := by decide +kernel
theorem d_S_square_147 : decode m_S_square.2.1 147 = .ok (.ireturn, 1) := by decide +kernel
theorem d_S_square_148 : decode m_S_square.2.1 148 = .ok (.aload_n 0, 1) := by decide +kernel
theorem d_S_square_149 : decode m_S_square.2.1 149 = .ok (.aload 4, 2) := by decide +kernel
theorem d_S_square_151 : decode m_S_square.2.1 151 = .ok (.iconst (-1), 1) := by decide +kernel
theorem d_S_square_152 : decode m_S_square.2.1 152 = .ok (.invokevirtual 205, 3) := by decide +kernel
theorem d_S_square_155 : decode m_S_square.2.1 155 = .ok (.getfield 278, 3) := by decide +kernel
theorem d_S_square_158 : decode m_S_square.2.1 158 = .ok (.ireturn, 1) := by decide +kernel
theorem d_S_square_159 : decode m_S_square.2.1 159 = .ok (.iconst (-1), 1) := by decide +kernel
theorem d_S_square_160 : decode m_S_square.2.1 160 = .ok (.ireturn, 1) := by decide +kernel
theorem b_S_square_0 {E : EV} {d : Nat} {Q : Option AV → St → Prop} {σ : St} (x1 x2 x3 : Int) (hF : Fix σ) (h : (WMr E m_S_squareAt d [aP 1, aI x1, aI x2] σ (fun v1 σ1 => Fix σ1 ∧ ((¬ v1 = 0 → (rI x3) ∧ ((x3 = 0 → (sh σ1 v1 = some (7, 1)) ∧ (WMi E m_Sq_signs d [aP v1] σ1 (fun v3 σ3 => Q (some (aI v3)) σ3))) ∧ (x3 = 1 → (WMr E m_S_measured d [aP 1, aP v1] σ1 (fun v5 σ5 => (sh σ5 v5 = some (2, 8)) ∧ (WMi E m_Layout_wideAt d [aP v5, aI 0] σ5 (fun v6 σ6 => Q (some (aI v6)) σ6))))) ∧ (x3 = 2 → (WMr E m_S_measured d [aP 1, aP v1] σ1 (fun v8 σ8 => (sh σ8 v8 = some (2, 8)) ∧ (WMi E m_Layout_highAt d [aP v8, aI 0] σ8 (fun v9 σ9 => Q (some (aI v9)) σ9))))) ∧ (x3 = 3 → (sh σ1 v1 = some (7, 1)) ∧ (WMi E m_Sq_signs d [aP v1] σ1 (fun v11 σ11 => (sh σ11 v1 = some (7, 1)) ∧ (WMi E m_Sq_outerSigns d [aP v1] σ11 (fun v13 σ13 => Q (some (aI (v11 - v13))) σ13))))) ∧ (x3 = 4 → (sh σ1 v1 = some (7, 1)) ∧ (WMi E m_Sq_links d [aP v1, aI 0, aI 65] σ1 (fun v15 σ15 => Q (some (aI v15)) σ15))) ∧ (x3 = 5 → (sh σ1 v1 = some (7, 1)) ∧ (WMi E m_Sq_symbol d [aP v1, aI 0] σ1 (fun v17 σ17 => (rI v17) ∧ ((¬ v17 = 65 → WP E m_S_square (d + 1) 131 [] [aI 0, aP v1] σ17 Q) ∧ (v17 = 65 → WP E m_S_square (d + 1) 131 [] [aI 1, aP v1] σ17 Q))))) ∧ (x3 = 6 → (WMr E m_S_spelled d [aP 1, aP v1, aI (-1)] σ1 (fun v20 σ20 => (sh σ20 v20 = some (6, 9)) ∧ Q (some (aI (σ20.1 v20 4))) σ20))) ∧ (x3 = 7 → (WMr E m_S_spelled d [aP 1, aP v1, aI (-1)] σ1 (fun v22 σ22 => (sh σ22 v22 = some (6, 9)) ∧ Q (some (aI (σ22.1 v22 6))) σ22))) ∧ (¬ (0 ≤ x3 ∧ x3 ≤ 7) → Q (some (aI (-1))) σ1))) ∧ (v1 = 0 → Q (some (aI (-1))) σ1))))) : WP E m_S_square (d + 1) 0 [(0, aP 1), (1, aI x1), (2, aI x2), (3, aI x3)] [] σ Q := by
  refine s_aload_n 0 d_S_square_0 rfl rfl ?_
  refine s_iload_n 1 d_S_square_1 rfl rfl ?_
  refine s_iload_n 2 d_S_square_2 rfl rfl ?_
  refine s_callV (as := [aI x1, aI x2]) (ci := 9) d_S_square_3 ok_S_squareAt lk_S_99 io_S_squareAt so_S_squareAt (by decide) rfl rfl rfl (Nat.le_of_ble_eq_true rfl) rfl (sf_1 hF) (WM.mono h ?_)
  rintro _ σ1 ⟨v1, rfl, hp, h⟩
  obtain ⟨hF1, h⟩ := h
  show WP E m_S_square (d + 1) 6 [(0, aP 1), (1, aI x1), (2, aI x2), (3, aI x3)] [aP v1] σ1 Q
  refine s_astore d_S_square_6 (by decide) rfl ?_
  refine s_aload 0 d_S_square_8 rfl ?_
  refine s_ifnonnull d_S_square_10 rfl (fun c => ?_) (fun c => ?_)
  · have h := h.1 c
    refine s_iload_n 4 d_S_square_15 rfl rfl ?_
    obtain ⟨g2, h⟩ := h
    by_cases c0 : x3 = 0
    · have h := h.1 c0
      refine s_tableIn d_S_square_16 g2 (by rw [c0]; decide) (by rw [c0]; rfl) (tgt := 64) rfl ?_
      refine s_aload 0 d_S_square_64 rfl ?_
      obtain ⟨g4, h⟩ := h
      refine s_callV (as := []) (ci := 7) d_S_square_66 ok_Sq_signs lk_S_202 io_Sq_signs so_Sq_signs (by decide) rfl rfl rfl (Nat.le_of_ble_eq_true rfl) rfl g4 (WM.mono h ?_)
      rintro _ σ3 ⟨v3, rfl, hp, h⟩
      show WP E m_S_square (d + 1) 69 [(4, aP v1), (0, aP 1), (1, aI x1), (2, aI x2), (3, aI x3)] [aI v3] σ3 Q
      exact s_ireturn d_S_square_69 rfl h
    by_cases c1 : x3 = 1
    · have h := h.2.1 c1
      refine s_tableIn d_S_square_16 g2 (by rw [c1]; decide) (by rw [c1]; rfl) (tgt := 70) rfl ?_
      refine s_aload_n 1 d_S_square_70 rfl rfl ?_
      refine s_aload 0 d_S_square_71 rfl ?_
      refine s_callV (as := [aP v1]) (ci := 9) d_S_square_73 ok_S_measured lk_S_262 io_S_measured so_S_measured (by decide) rfl rfl rfl (Nat.le_of_ble_eq_true rfl) rfl (sf_1 hF1) (WM.mono h ?_)
      rintro _ σ5 ⟨v5, rfl, hp, h⟩
      show WP E m_S_square (d + 1) 76 [(4, aP v1), (0, aP 1), (1, aI x1), (2, aI x2), (3, aI x3)] [aP v5] σ5 Q
      refine s_iconst d_S_square_76 ?_
      obtain ⟨g7, h⟩ := h
      refine s_callV (as := [aI 0]) (ci := 2) d_S_square_77 ok_Layout_wideAt lk_S_266 io_Layout_wideAt so_Layout_wideAt (by decide) rfl rfl rfl (Nat.le_of_ble_eq_true rfl) rfl g7 (WM.mono h ?_)
      rintro _ σ6 ⟨v6, rfl, hp, h⟩
      show WP E m_S_square (d + 1) 80 [(4, aP v1), (0, aP 1), (1, aI x1), (2, aI x2), (3, aI x3)] [aI v6] σ6 Q
      exact s_ireturn d_S_square_80 rfl h
    by_cases c2 : x3 = 2
    · have h := h.2.2.1 c2
      refine s_tableIn d_S_square_16 g2 (by rw [c2]; decide) (by rw [c2]; rfl) (tgt := 81) rfl ?_
      refine s_aload_n 1 d_S_square_81 rfl rfl ?_
      refine s_aload 0 d_S_square_82 rfl ?_
      refine s_callV (as := [aP v1]) (ci := 9) d_S_square_84 ok_S_measured lk_S_262 io_S_measured so_S_measured (by decide) rfl rfl rfl (Nat.le_of_ble_eq_true rfl) rfl (sf_1 hF1) (WM.mono h ?_)
      rintro _ σ8 ⟨v8, rfl, hp, h⟩
      show WP E m_S_square (d + 1) 87 [(4, aP v1), (0, aP 1), (1, aI x1), (2, aI x2), (3, aI x3)] [aP v8] σ8 Q
      refine s_iconst d_S_square_87 ?_
      obtain ⟨g10, h⟩ := h
      refine s_callV (as := [aI 0]) (ci := 2) d_S_square_88 ok_Layout_highAt lk_S_269 io_Layout_highAt so_Layout_highAt (by decide) rfl rfl rfl (Nat.le_of_ble_eq_true rfl) rfl g10 (WM.mono h ?_)
      rintro _ σ9 ⟨v9, rfl, hp, h⟩
      show WP E m_S_square (d + 1) 91 [(4, aP v1), (0, aP 1), (1, aI x1), (2, aI x2), (3, aI x3)] [aI v9] σ9 Q
      exact s_ireturn d_S_square_91 rfl h
    by_cases c3 : x3 = 3
    · have h := h.2.2.2.1 c3
      refine s_tableIn d_S_square_16 g2 (by rw [c3]; decide) (by rw [c3]; rfl) (tgt := 92) rfl ?_
      refine s_aload 0 d_S_square_92 rfl ?_
      obtain ⟨g12, h⟩ := h
      refine s_callV (as := []) (ci := 7) d_S_square_94 ok_Sq_signs lk_S_202 io_Sq_signs so_Sq_signs (by decide) rfl rfl rfl (Nat.le_of_ble_eq_true rfl) rfl g12 (WM.mono h ?_)
      rintro _ σ11 ⟨v11, rfl, hp, h⟩
      show WP E m_S_square (d + 1) 97 [(4, aP v1), (0, aP 1), (1, aI x1), (2, aI x2), (3, aI x3)] [aI v11] σ11 Q
      refine s_aload 0 d_S_square_97 rfl ?_
      obtain ⟨g14, h⟩ := h
      refine s_callV (as := []) (ci := 7) d_S_square_99 ok_Sq_outerSigns lk_S_272 io_Sq_outerSigns so_Sq_outerSigns (by decide) rfl rfl rfl (Nat.le_of_ble_eq_true rfl) rfl g14 (WM.mono h ?_)
      rintro _ σ13 ⟨v13, rfl, hp, h⟩
      show WP E m_S_square (d + 1) 102 [(4, aP v1), (0, aP 1), (1, aI x1), (2, aI x2), (3, aI x3)] [aI v13, aI v11] σ13 Q
      refine s_isub d_S_square_102 ?_
      exact s_ireturn d_S_square_103 rfl h
    by_cases c4 : x3 = 4
    · have h := h.2.2.2.2.1 c4
      refine s_tableIn d_S_square_16 g2 (by rw [c4]; decide) (by rw [c4]; rfl) (tgt := 104) rfl ?_
      refine s_aload 0 d_S_square_104 rfl ?_
      refine s_iconst d_S_square_106 ?_
      refine s_bipush d_S_square_107 (by decide) ?_
      obtain ⟨g16, h⟩ := h
      refine s_callV (as := [aI 0, aI 65]) (ci := 7) d_S_square_109 ok_Sq_links lk_S_184 io_Sq_links so_Sq_links (by decide) rfl rfl rfl (Nat.le_of_ble_eq_true rfl) rfl g16 (WM.mono h ?_)
      rintro _ σ15 ⟨v15, rfl, hp, h⟩
      show WP E m_S_square (d + 1) 112 [(4, aP v1), (0, aP 1), (1, aI x1), (2, aI x2), (3, aI x3)] [aI v15] σ15 Q
      exact s_ireturn d_S_square_112 rfl h
    by_cases c5 : x3 = 5
    · have h := h.2.2.2.2.2.1 c5
      refine s_tableIn d_S_square_16 g2 (by rw [c5]; decide) (by rw [c5]; rfl) (tgt := 113) rfl ?_
      refine s_aload 0 d_S_square_113 rfl ?_
      refine s_aload 0 d_S_square_115 rfl ?_
      refine s_iconst d_S_square_117 ?_
      obtain ⟨g18, h⟩ := h
      refine s_callV (as := [aI 0]) (ci := 7) d_S_square_118 ok_Sq_symbol lk_S_113 io_Sq_symbol so_Sq_symbol (by decide) rfl rfl rfl (Nat.le_of_ble_eq_true rfl) rfl g18 (WM.mono h ?_)
      rintro _ σ17 ⟨v17, rfl, hp, h⟩
      show WP E m_S_square (d + 1) 121 [(4, aP v1), (0, aP 1), (1, aI x1), (2, aI x2), (3, aI x3)] [aI v17, aP v1] σ17 Q
      refine s_bipush d_S_square_121 (by decide) ?_
      obtain ⟨g19, h⟩ := h
      refine s_icmp_ne d_S_square_123 rfl g19 (by decide) (fun c => ?_) (fun c => ?_)
      · have h := h.1 c
        refine s_iconst d_S_square_130 ?_
        refine wp_drop [] rfl ?_
        exact h
      · have h := h.2 c
        refine s_iconst d_S_square_126 ?_
        refine s_goto d_S_square_127 rfl ?_
        refine wp_drop [] rfl ?_
        exact h
    by_cases c6 : x3 = 6
    · have h := h.2.2.2.2.2.2.1 c6
      refine s_tableIn d_S_square_16 g2 (by rw [c6]; decide) (by rw [c6]; rfl) (tgt := 137) rfl ?_
      refine s_aload_n 1 d_S_square_137 rfl rfl ?_
      refine s_aload 0 d_S_square_138 rfl ?_
      refine s_iconst d_S_square_140 ?_
      refine s_callV (as := [aP v1, aI (-1)]) (ci := 9) d_S_square_141 ok_S_spelled lk_S_205 io_S_spelled so_S_spelled (by decide) rfl rfl rfl (Nat.le_of_ble_eq_true rfl) rfl (sf_1 hF1) (WM.mono h ?_)
      rintro _ σ20 ⟨v20, rfl, hp, h⟩
      show WP E m_S_square (d + 1) 144 [(4, aP v1), (0, aP 1), (1, aI x1), (2, aI x2), (3, aI x3)] [aP v20] σ20 Q
      obtain ⟨g21, h⟩ := h
      refine s_getF (v := σ20.1 v20 4) d_S_square_144 fl_S_275 rfl g21 rfl ?_
      exact s_ireturn d_S_square_147 rfl h
    by_cases c7 : x3 = 7
    · have h := h.2.2.2.2.2.2.2.1 c7
      refine s_tableIn d_S_square_16 g2 (by rw [c7]; decide) (by rw [c7]; rfl) (tgt := 148) rfl ?_
      refine s_aload_n 1 d_S_square_148 rfl rfl ?_
      refine s_aload 0 d_S_square_149 rfl ?_
      refine s_iconst d_S_square_151 ?_
      refine s_callV (as := [aP v1, aI (-1)]) (ci := 9) d_S_square_152 ok_S_spelled lk_S_205 io_S_spelled so_S_spelled (by decide) rfl rfl rfl (Nat.le_of_ble_eq_true rfl) rfl (sf_1 hF1) (WM.mono h ?_)
      rintro _ σ22 ⟨v22, rfl, hp, h⟩
      show WP E m_S_square (d + 1) 155 [(4, aP v1), (0, aP 1), (1, aI x1), (2, aI x2), (3, aI x3)] [aP v22] σ22 Q
      obtain ⟨g23, h⟩ := h
      refine s_getF (v := σ22.1 v22 6) d_S_square_155 fl_S_278 rfl g23 rfl ?_
      exact s_ireturn d_S_square_158 rfl h
    have c : ¬ (0 ≤ x3 ∧ x3 ≤ 7) := by omega
    have h := h.2.2.2.2.2.2.2.2 c
    refine s_tableOut d_S_square_16 g2 c (tgt := 159) rfl ?_
    refine s_iconst d_S_square_159 ?_
    exact s_ireturn d_S_square_160 rfl h
  · have h := h.2 c
    refine s_iconst d_S_square_13 ?_
    exact s_ireturn d_S_square_14 rfl h
theorem e_S_square {E : EV} {d : Nat} {Q : Option AV → St → Prop} {σ : St} (x1 x2 x3 : Int) (hF : Fix σ) (h : (WMr E m_S_squareAt d [aP 1, aI x1, aI x2] σ (fun v1 σ1 => Fix σ1 ∧ ((¬ v1 = 0 → (rI x3) ∧ ((x3 = 0 → (sh σ1 v1 = some (7, 1)) ∧ (WMi E m_Sq_signs d [aP v1] σ1 (fun v3 σ3 => Q (some (aI v3)) σ3))) ∧ (x3 = 1 → (WMr E m_S_measured d [aP 1, aP v1] σ1 (fun v5 σ5 => (sh σ5 v5 = some (2, 8)) ∧ (WMi E m_Layout_wideAt d [aP v5, aI 0] σ5 (fun v6 σ6 => Q (some (aI v6)) σ6))))) ∧ (x3 = 2 → (WMr E m_S_measured d [aP 1, aP v1] σ1 (fun v8 σ8 => (sh σ8 v8 = some (2, 8)) ∧ (WMi E m_Layout_highAt d [aP v8, aI 0] σ8 (fun v9 σ9 => Q (some (aI v9)) σ9))))) ∧ (x3 = 3 → (sh σ1 v1 = some (7, 1)) ∧ (WMi E m_Sq_signs d [aP v1] σ1 (fun v11 σ11 => (sh σ11 v1 = some (7, 1)) ∧ (WMi E m_Sq_outerSigns d [aP v1] σ11 (fun v13 σ13 => Q (some (aI (v11 - v13))) σ13))))) ∧ (x3 = 4 → (sh σ1 v1 = some (7, 1)) ∧ (WMi E m_Sq_links d [aP v1, aI 0, aI 65] σ1 (fun v15 σ15 => Q (some (aI v15)) σ15))) ∧ (x3 = 5 → (sh σ1 v1 = some (7, 1)) ∧ (WMi E m_Sq_symbol d [aP v1, aI 0] σ1 (fun v17 σ17 => (rI v17) ∧ ((¬ v17 = 65 → WP E m_S_square (d + 1) 131 [] [aI 0, aP v1] σ17 Q) ∧ (v17 = 65 → WP E m_S_square (d + 1) 131 [] [aI 1, aP v1] σ17 Q))))) ∧ (x3 = 6 → (WMr E m_S_spelled d [aP 1, aP v1, aI (-1)] σ1 (fun v20 σ20 => (sh σ20 v20 = some (6, 9)) ∧ Q (some (aI (σ20.1 v20 4))) σ20))) ∧ (x3 = 7 → (WMr E m_S_spelled d [aP 1, aP v1, aI (-1)] σ1 (fun v22 σ22 => (sh σ22 v22 = some (6, 9)) ∧ Q (some (aI (σ22.1 v22 6))) σ22))) ∧ (¬ (0 ≤ x3 ∧ x3 ≤ 7) → Q (some (aI (-1))) σ1))) ∧ (v1 = 0 → Q (some (aI (-1))) σ1))))) : WM E m_S_square (d + 1) [aP 1, aI x1, aI x2, aI x3] σ Q := s_meth (by decide) (Nat.le_of_ble_eq_true rfl) rfl (b_S_square_0 x1 x2 x3 hF h)
theorem b_S_square_131 {E : EV} {d : Nat} {Q : Option AV → St → Prop} {σ : St} (s0 s1 : Int) (h : (sh σ s0 = some (7, 1)) ∧ (WMi E m_Sq_links d [aP s0, aI s1, aI 64] σ (fun v1 σ1 => Q (some (aI v1)) σ1))) : WP E m_S_square (d + 1) 131 [] [aI s1, aP s0] σ Q := by
  refine s_bipush d_S_square_131 (by decide) ?_
  obtain ⟨g2, h⟩ := h
  refine s_callV (as := [aI s1, aI 64]) (ci := 7) d_S_square_133 ok_Sq_links lk_S_184 io_Sq_links so_Sq_links (by decide) rfl rfl rfl (Nat.le_of_ble_eq_true rfl) rfl g2 (WM.mono h ?_)
  rintro _ σ1 ⟨v1, rfl, hp, h⟩
  show WP E m_S_square (d + 1) 136 [] [aI v1] σ1 Q
  exact s_ireturn d_S_square_136 rfl h
theorem d_S_measured_0 : decode m_S_measured.2.1 0 = .ok (.aload_n 0, 1) := by decide +kernel
theorem d_S_measured_1 : decode m_S_measured.2.1 1 = .ok (.getfield 52, 3) := by decide +kernel
theorem d_S_measured_4 : decode m_S_measured.2.1 4 = .ok (.aload_n 1, 1) := by decide +kernel
theorem d_S_measured_5 : decode m_S_measured.2.1 5 = .ok (.aload_n 0, 1) := by decide +kernel
theorem d_S_measured_6 : decode m_S_measured.2.1 6 = .ok (.getfield 10, 3) := by decide +kernel
theorem d_S_measured_9 : decode m_S_measured.2.1 9 = .ok (.aload_n 0, 1) := by decide +kernel
theorem d_S_measured_10 : decode m_S_measured.2.1 10 = .ok (.getfield 23, 3) := by decide +kernel
theorem d_S_measured_13 : decode m_S_measured.2.1 13 = .ok (.getfield 239, 3) := by decide +kernel
theorem d_S_measured_16 : decode m_S_measured.2.1 16 = .ok (.invokevirtual 376, 3) := by decide +kernel
theorem d_S_measured_19 : decode m_S_measured.2.1 19 = .ok (.aload_n 0, 1) := by decide +kernel
theorem d_S_measured_20 : decode m_S_measured.2.1 20 = .ok (.getfield 52, 3) := by decide +kernel
theorem d_S_measured_23 : decode m_S_measured.2.1 23 = .ok (.areturn, 1) := by decide +kernel
theorem b_S_measured_0 {E : EV} {d : Nat} {Q : Option AV → St → Prop} {σ : St} (x1 : Int) (hF : Fix σ) (h : (sh σ (σ.1 1 1) = some (4, 3)) ∧ (WMv E m_Layout_measure d [aP 23, aP x1, aP (σ.1 1 0), aI (σ.1 (σ.1 1 1) 2)] σ (fun σ2 => Fix σ2 ∧ Q (some (aP 23)) σ2))) : WP E m_S_measured (d + 1) 0 [(0, aP 1), (1, aP x1)] [] σ Q := by
  refine s_aload_n 0 d_S_measured_0 rfl rfl ?_
  refine s_getF (v := 23) d_S_measured_1 fl_S_52 rfl (sf_1 hF) (ff_3 hF) ?_
  refine s_aload_n 1 d_S_measured_4 rfl rfl ?_
  refine s_aload_n 0 d_S_measured_5 rfl rfl ?_
  refine s_getF (v := σ.1 1 0) d_S_measured_6 fl_S_10 rfl (sf_1 hF) rfl ?_
  refine s_aload_n 0 d_S_measured_9 rfl rfl ?_
  refine s_getF (v := σ.1 1 1) d_S_measured_10 fl_S_23 rfl (sf_1 hF) rfl ?_
  obtain ⟨g1, h⟩ := h
  refine s_getF (v := σ.1 (σ.1 1 1) 2) d_S_measured_13 fl_S_239 rfl g1 rfl ?_
  refine s_callV (as := [aP x1, aP (σ.1 1 0), aI (σ.1 (σ.1 1 1) 2)]) (ci := 2) d_S_measured_16 ok_Layout_measure lk_S_376 io_Layout_measure so_Layout_measure (by decide) rfl rfl rfl (Nat.le_of_ble_eq_true rfl) rfl (sf_23 hF) (WM.mono h ?_)
  rintro _ σ2 ⟨rfl, hp, h⟩
  obtain ⟨hF2, h⟩ := h
  show WP E m_S_measured (d + 1) 19 [(0, aP 1), (1, aP x1)] [] σ2 Q
  refine s_aload_n 0 d_S_measured_19 rfl rfl ?_
  refine s_getF (v := 23) d_S_measured_20 fl_S_52 rfl (sf_1 hF2) (ff_3 hF2) ?_
  exact s_areturn d_S_measured_23 rfl (Or.inl ⟨_, rfl⟩) h
theorem e_S_measured {E : EV} {d : Nat} {Q : Option AV → St → Prop} {σ : St} (x1 : Int) (hF : Fix σ) (h : (sh σ (σ.1 1 1) = some (4, 3)) ∧ (WMv E m_Layout_measure d [aP 23, aP x1, aP (σ.1 1 0), aI (σ.1 (σ.1 1 1) 2)] σ (fun σ2 => Fix σ2 ∧ Q (some (aP 23)) σ2))) : WM E m_S_measured (d + 1) [aP 1, aP x1] σ Q := s_meth (by decide) (Nat.le_of_ble_eq_true rfl) rfl (b_S_measured_0 x1 hF h)
theorem d_S_scale_0 : decode m_S_scale.2.1 0 = .ok (.aload_n 0, 1) := by decide +kernel
theorem d_S_scale_1 : decode m_S_scale.2.1 1 = .ok (.iload_n 1, 1) := by decide +kernel
theorem d_S_scale_2 : decode m_S_scale.2.1 2 = .ok (.iload_n 2, 1) := by decide +kernel
theorem d_S_scale_3 : decode m_S_scale.2.1 3 = .ok (.invokevirtual 99, 3) := by decide +kernel
theorem d_S_scale_6 : decode m_S_scale.2.1 6 = .ok (.astore 4, 2) := by decide +kernel
theorem d_S_scale_8 : decode m_S_scale.2.1 8 = .ok (.aload 4, 2) := by decide +kernel
theorem d_S_scale_10 : decode m_S_scale.2.1 10 = .ok (.ifnonnull 7, 3) := by decide +kernel
theorem d_S_scale_13 : decode m_S_scale.2.1 13 = .ok (.iconst (-1), 1) := by decide +kernel
theorem d_S_scale_14 : decode m_S_scale.2.1 14 = .ok (.goto 10, 3) := by decide +kernel
theorem d_S_scale_17 : decode m_S_scale.2.1 17 = .ok (.aload_n 0, 1) := by decide +kernel
theorem d_S_scale_18 : decode m_S_scale.2.1 18 = .ok (.aload 4, 2) := by decide +kernel
theorem d_S_scale_20 : decode m_S_scale.2.1 20 = .ok (.iload_n 3, 1) := by decide +kernel
theorem d_S_scale_21 : decode m_S_scale.2.1 21 = .ok (.invokevirtual 281, 3) := by decide +kernel
theorem d_S_scale_24 : decode m_S_scale.2.1 24 = .ok (.ireturn, 1) := by decide +kernel
theorem b_S_scale_0 {E : EV} {d : Nat} {Q : Option AV → St → Prop} {σ : St} (x1 x2 x3 : Int) (hF : Fix σ) (h : (WMr E m_S_squareAt d [aP 1, aI x1, aI x2] σ (fun v1 σ1 => Fix σ1 ∧ ((¬ v1 = 0 → (WMi E m_S_scaleOf d [aP 1, aP v1, aI x3] σ1 (fun v2 σ2 => Q (some (aI v2)) σ2))) ∧ (v1 = 0 → Q (some (aI (-1))) σ1))))) : WP E m_S_scale (d + 1) 0 [(0, aP 1), (1, aI x1), (2, aI x2), (3, aI x3)] [] σ Q := by
  refine s_aload_n 0 d_S_scale_0 rfl rfl ?_
  refine s_iload_n 1 d_S_scale_1 rfl rfl ?_
  refine s_iload_n 2 d_S_scale_2 rfl rfl ?_
  refine s_callV (as := [aI x1, aI x2]) (ci := 9) d_S_scale_3 ok_S_squareAt lk_S_99 io_S_squareAt so_S_squareAt (by decide) rfl rfl rfl (Nat.le_of_ble_eq_true rfl) rfl (sf_1 hF) (WM.mono h ?_)
  rintro _ σ1 ⟨v1, rfl, hp, h⟩
  obtain ⟨hF1, h⟩ := h
  show WP E m_S_scale (d + 1) 6 [(0, aP 1), (1, aI x1), (2, aI x2), (3, aI x3)] [aP v1] σ1 Q
  refine s_astore d_S_scale_6 (by decide) rfl ?_
  refine s_aload 0 d_S_scale_8 rfl ?_
  refine s_ifnonnull d_S_scale_10 rfl (fun c => ?_) (fun c => ?_)
  · have h := h.1 c
    refine s_aload_n 1 d_S_scale_17 rfl rfl ?_
    refine s_aload 0 d_S_scale_18 rfl ?_
    refine s_iload_n 4 d_S_scale_20 rfl rfl ?_
    refine s_callV (as := [aP v1, aI x3]) (ci := 9) d_S_scale_21 ok_S_scaleOf lk_S_281 io_S_scaleOf so_S_scaleOf (by decide) rfl rfl rfl (Nat.le_of_ble_eq_true rfl) rfl (sf_1 hF1) (WM.mono h ?_)
    rintro _ σ2 ⟨v2, rfl, hp, h⟩
    show WP E m_S_scale (d + 1) 24 [(4, aP v1), (0, aP 1), (1, aI x1), (2, aI x2), (3, aI x3)] [aI v2] σ2 Q
    exact s_ireturn d_S_scale_24 rfl h
  · have h := h.2 c
    refine s_iconst d_S_scale_13 ?_
    refine s_goto d_S_scale_14 rfl ?_
    exact s_ireturn d_S_scale_24 rfl h
theorem e_S_scale {E : EV} {d : Nat} {Q : Option AV → St → Prop} {σ : St} (x1 x2 x3 : Int) (hF : Fix σ) (h : (WMr E m_S_squareAt d [aP 1, aI x1, aI x2] σ (fun v1 σ1 => Fix σ1 ∧ ((¬ v1 = 0 → (WMi E m_S_scaleOf d [aP 1, aP v1, aI x3] σ1 (fun v2 σ2 => Q (some (aI v2)) σ2))) ∧ (v1 = 0 → Q (some (aI (-1))) σ1))))) : WM E m_S_scale (d + 1) [aP 1, aI x1, aI x2, aI x3] σ Q := s_meth (by decide) (Nat.le_of_ble_eq_true rfl) rfl (b_S_scale_0 x1 x2 x3 hF h)
theorem d_S_scaleOf_0 : decode m_S_scaleOf.2.1 0 = .ok (.aload_n 0, 1) := by decide +kernel
theorem d_S_scaleOf_1 : decode m_S_scaleOf.2.1 1 = .ok (.getfield 23, 3) := by decide +kernel
theorem d_S_scaleOf_4 : decode m_S_scaleOf.2.1 4 = .ok (.getfield 236, 3) := by decide +kernel
theorem d_S_scaleOf_7 : decode m_S_scaleOf.2.1 7 = .ok (.i2l, 1) := by decide +kernel
theorem d_S_scaleOf_8 : decode m_S_scaleOf.2.1 8 = .ok (.aload_n 0, 1) := by decide +kernel
theorem d_S_scaleOf_9 : decode m_S_scaleOf.2.1 9 = .ok (.aload_n 1, 1) := by decide +kernel
theorem d_S_scaleOf_10 : decode m_S_scaleOf.2.1 10 = .ok (.invokevirtual 312, 3) := by decide +kernel
theorem d_S_scaleOf_13 : decode m_S_scaleOf.2.1 13 = .ok (.i2l, 1) := by decide +kernel
theorem d_S_scaleOf_14 : decode m_S_scaleOf.2.1 14 = .ok (.iload_n 2, 1) := by decide +kernel
theorem d_S_scaleOf_15 : decode m_S_scaleOf.2.1 15 = .ok (.invokestatic 301, 3) := by decide +kernel
theorem d_S_scaleOf_18 : decode m_S_scaleOf.2.1 18 = .ok (.l2i, 1) := by decide +kernel
theorem d_S_scaleOf_19 : decode m_S_scaleOf.2.1 19 = .ok (.ireturn, 1) := by decide +kernel
theorem b_S_scaleOf_0 {E : EV} {d : Nat} {Q : Option AV → St → Prop} {σ : St} (x1 x2 : Int) (hF : Fix σ) (h : (sh σ (σ.1 1 1) = some (4, 3)) ∧ (rI (σ.1 (σ.1 1 1) 1)) ∧ (WMi E m_S_spanOf d [aP 1, aP x1] σ (fun v3 σ3 => (rI v3) ∧ (WMl E m_S_fraction d [aL (σ.1 (σ.1 1 1) 1), aL v3, aI x2] σ3 (fun v5 σ5 => Q (some (aI v5)) σ5))))) : WP E m_S_scaleOf (d + 1) 0 [(0, aP 1), (1, aP x1), (2, aI x2)] [] σ Q := by
  refine s_aload_n 0 d_S_scaleOf_0 rfl rfl ?_
  refine s_getF (v := σ.1 1 1) d_S_scaleOf_1 fl_S_23 rfl (sf_1 hF) rfl ?_
  obtain ⟨g1, h⟩ := h
  refine s_getF (v := σ.1 (σ.1 1 1) 1) d_S_scaleOf_4 fl_S_236 rfl g1 rfl ?_
  obtain ⟨g2, h⟩ := h
  refine s_i2l d_S_scaleOf_7 g2 ?_
  refine s_aload_n 0 d_S_scaleOf_8 rfl rfl ?_
  refine s_aload_n 1 d_S_scaleOf_9 rfl rfl ?_
  refine s_callV (as := [aP x1]) (ci := 9) d_S_scaleOf_10 ok_S_spanOf lk_S_312 io_S_spanOf so_S_spanOf (by decide) rfl rfl rfl (Nat.le_of_ble_eq_true rfl) rfl (sf_1 hF) (WM.mono h ?_)
  rintro _ σ3 ⟨v3, rfl, hp, h⟩
  show WP E m_S_scaleOf (d + 1) 13 [(0, aP 1), (1, aP x1), (2, aI x2)] [aI v3, aL (σ.1 (σ.1 1 1) 1)] σ3 Q
  obtain ⟨g4, h⟩ := h
  refine s_i2l d_S_scaleOf_13 g4 ?_
  refine s_iload_n 2 d_S_scaleOf_14 rfl rfl ?_
  refine s_callS (as := [aL (σ.1 (σ.1 1 1) 1), aL v3, aI x2]) d_S_scaleOf_15 ok_S_fraction lk_S_301 to_S_fraction rfl (Nat.le_of_ble_eq_true rfl) rfl (WM.mono h ?_)
  rintro _ σ5 ⟨v5, rfl, hp, h⟩
  show WP E m_S_scaleOf (d + 1) 18 [(0, aP 1), (1, aP x1), (2, aI x2)] [aL v5] σ5 Q
  refine s_l2i d_S_scaleOf_18 ?_
  exact s_ireturn d_S_scaleOf_19 rfl h
theorem e_S_scaleOf {E : EV} {d : Nat} {Q : Option AV → St → Prop} {σ : St} (x1 x2 : Int) (hF : Fix σ) (h : (sh σ (σ.1 1 1) = some (4, 3)) ∧ (rI (σ.1 (σ.1 1 1) 1)) ∧ (WMi E m_S_spanOf d [aP 1, aP x1] σ (fun v3 σ3 => (rI v3) ∧ (WMl E m_S_fraction d [aL (σ.1 (σ.1 1 1) 1), aL v3, aI x2] σ3 (fun v5 σ5 => Q (some (aI v5)) σ5))))) : WM E m_S_scaleOf (d + 1) [aP 1, aP x1, aI x2] σ Q := s_meth (by decide) (Nat.le_of_ble_eq_true rfl) rfl (b_S_scaleOf_0 x1 x2 hF h)
theorem d_S_spanOf_0 : decode m_S_spanOf.2.1 0 = .ok (.aload_n 1, 1) := by decide +kernel
theorem d_S_spanOf_1 : decode m_S_spanOf.2.1 1 = .ok (.ifnonnull 7, 3) := by decide +kernel
theorem d_S_spanOf_4 : decode m_S_spanOf.2.1 4 = .ok (.iconst 0, 1) := by decide +kernel
theorem d_S_spanOf_5 : decode m_S_spanOf.2.1 5 = .ok (.goto 18, 3) := by decide +kernel
theorem d_S_spanOf_8 : decode m_S_spanOf.2.1 8 = .ok (.aload_n 0, 1) := by decide +kernel
theorem d_S_spanOf_9 : decode m_S_spanOf.2.1 9 = .ok (.aload_n 1, 1) := by decide +kernel
theorem d_S_spanOf_10 : decode m_S_spanOf.2.1 10 = .ok (.invokevirtual 262, 3) := by decide +kernel
theorem d_S_spanOf_13 : decode m_S_spanOf.2.1 13 = .ok (.aload_n 0, 1) := by decide +kernel
theorem d_S_spanOf_14 : decode m_S_spanOf.2.1 14 = .ok (.getfield 23, 3) := by decide +kernel
theorem d_S_spanOf_17 : decode m_S_spanOf.2.1 17 = .ok (.getfield 236, 3) := by decide +kernel
theorem d_S_spanOf_20 : decode m_S_spanOf.2.1 20 = .ok (.invokevirtual 386, 3) := by decide +kernel
theorem d_S_spanOf_23 : decode m_S_spanOf.2.1 23 = .ok (.ireturn, 1) := by decide +kernel
theorem b_S_spanOf_0 {E : EV} {d : Nat} {Q : Option AV → St → Prop} {σ : St} (x1 : Int) (hF : Fix σ) (h : ((¬ x1 = 0 → (WMr E m_S_measured d [aP 1, aP x1] σ (fun v1 σ1 => Fix σ1 ∧ (sh σ1 (σ1.1 1 1) = some (4, 3)) ∧ (sh σ1 v1 = some (2, 8)) ∧ (WMi E m_Layout_span d [aP v1, aI (σ1.1 (σ1.1 1 1) 1)] σ1 (fun v3 σ3 => Q (some (aI v3)) σ3))))) ∧ (x1 = 0 → Q (some (aI 0)) σ))) : WP E m_S_spanOf (d + 1) 0 [(0, aP 1), (1, aP x1)] [] σ Q := by
  refine s_aload_n 1 d_S_spanOf_0 rfl rfl ?_
  refine s_ifnonnull d_S_spanOf_1 rfl (fun c => ?_) (fun c => ?_)
  · have h := h.1 c
    refine s_aload_n 0 d_S_spanOf_8 rfl rfl ?_
    refine s_aload_n 1 d_S_spanOf_9 rfl rfl ?_
    refine s_callV (as := [aP x1]) (ci := 9) d_S_spanOf_10 ok_S_measured lk_S_262 io_S_measured so_S_measured (by decide) rfl rfl rfl (Nat.le_of_ble_eq_true rfl) rfl (sf_1 hF) (WM.mono h ?_)
    rintro _ σ1 ⟨v1, rfl, hp, h⟩
    obtain ⟨hF1, h⟩ := h
    show WP E m_S_spanOf (d + 1) 13 [(0, aP 1), (1, aP x1)] [aP v1] σ1 Q
    refine s_aload_n 0 d_S_spanOf_13 rfl rfl ?_
    refine s_getF (v := σ1.1 1 1) d_S_spanOf_14 fl_S_23 rfl (sf_1 hF1) rfl ?_
    obtain ⟨g2, h⟩ := h
    refine s_getF (v := σ1.1 (σ1.1 1 1) 1) d_S_spanOf_17 fl_S_236 rfl g2 rfl ?_
    obtain ⟨g4, h⟩ := h
    refine s_callV (as := [aI (σ1.1 (σ1.1 1 1) 1)]) (ci := 2) d_S_spanOf_20 ok_Layout_span lk_S_386 io_Layout_span so_Layout_span (by decide) rfl rfl rfl (Nat.le_of_ble_eq_true rfl) rfl g4 (WM.mono h ?_)
    rintro _ σ3 ⟨v3, rfl, hp, h⟩
    show WP E m_S_spanOf (d + 1) 23 [(0, aP 1), (1, aP x1)] [aI v3] σ3 Q
    exact s_ireturn d_S_spanOf_23 rfl h
  · have h := h.2 c
    refine s_iconst d_S_spanOf_4 ?_
    refine s_goto d_S_spanOf_5 rfl ?_
    exact s_ireturn d_S_spanOf_23 rfl h
theorem e_S_spanOf {E : EV} {d : Nat} {Q : Option AV → St → Prop} {σ : St} (x1 : Int) (hF : Fix σ) (h : ((¬ x1 = 0 → (WMr E m_S_measured d [aP 1, aP x1] σ (fun v1 σ1 => Fix σ1 ∧ (sh σ1 (σ1.1 1 1) = some (4, 3)) ∧ (sh σ1 v1 = some (2, 8)) ∧ (WMi E m_Layout_span d [aP v1, aI (σ1.1 (σ1.1 1 1) 1)] σ1 (fun v3 σ3 => Q (some (aI v3)) σ3))))) ∧ (x1 = 0 → Q (some (aI 0)) σ))) : WM E m_S_spanOf (d + 1) [aP 1, aP x1] σ Q := s_meth (by decide) (Nat.le_of_ble_eq_true rfl) rfl (b_S_spanOf_0 x1 hF h)
theorem d_S_fraction_0 : decode m_S_fraction.2.1 0 = .ok (.lload_n 0, 1) := by decide +kernel
theorem d_S_fraction_1 : decode m_S_fraction.2.1 1 = .ok (.lload_n 2, 1) := by decide +kernel
theorem d_S_fraction_2 : decode m_S_fraction.2.1 2 = .ok (.invokestatic 389, 3) := by decide +kernel
theorem d_S_fraction_5 : decode m_S_fraction.2.1 5 = .ok (.lstore 5, 2) := by decide +kernel
theorem d_S_fraction_7 : decode m_S_fraction.2.1 7 = .ok (.lload 5, 2) := by decide +kernel
theorem d_S_fraction_9 : decode m_S_fraction.2.1 9 = .ok (.lconst 0, 1) := by decide +kernel
theorem d_S_fraction_10 : decode m_S_fraction.2.1 10 = .ok (.lcmp, 1) := by decide +kernel
theorem d_S_fraction_11 : decode m_S_fraction.2.1 11 = .ok (.ifCond .le 14, 3) := by decide +kernel
theorem d_S_fraction_14 : decode m_S_fraction.2.1 14 = .ok (.iload 4, 2) := by decide +kernel
theorem d_S_fraction_16 : decode m_S_fraction.2.1 16 = .ok (.ifCond .lt 9, 3) := by decide +kernel
theorem d_S_fraction_19 : decode m_S_fraction.2.1 19 = .ok (.iload 4, 2) := by decide +kernel
theorem d_S_fraction_21 : decode m_S_fraction.2.1 21 = .ok (.iconst 1, 1) := by decide +kernel
theorem d_S_fraction_22 : decode m_S_fraction.2.1 22 = .ok (.if_icmp .le 7, 3) := by decide +kernel
theorem d_S_fraction_25 : decode m_S_fraction.2.1 25 = .ok (.ldc2_w 288, 3) := by decide +kernel
theorem d_S_fraction_28 : decode m_S_fraction.2.1 28 = .ok (.lreturn, 1) := by decide +kernel
theorem d_S_fraction_29 : decode m_S_fraction.2.1 29 = .ok (.iload 4, 2) := by decide +kernel
theorem d_S_fraction_31 : decode m_S_fraction.2.1 31 = .ok (.ifCond .ne 10, 3) := by decide +kernel
theorem d_S_fraction_34 : decode m_S_fraction.2.1 34 = .ok (.lload_n 0, 1) := by decide +kernel
theorem d_S_fraction_35 : decode m_S_fraction.2.1 35 = .ok (.lload 5, 2) := by decide +kernel
theorem d_S_fraction_37 : decode m_S_fraction.2.1 37 = .ok (.ldiv, 1) := by decide +kernel
theorem d_S_fraction_38 : decode m_S_fraction.2.1 38 = .ok (.goto 7, 3) := by decide +kernel
theorem d_S_fraction_41 : decode m_S_fraction.2.1 41 = .ok (.lload_n 2, 1) := by decide +kernel
theorem d_S_fraction_42 : decode m_S_fraction.2.1 42 = .ok (.lload 5, 2) := by decide +kernel
theorem d_S_fraction_44 : decode m_S_fraction.2.1 44 = .ok (.ldiv, 1) := by decide +kernel
theorem d_S_fraction_45 : decode m_S_fraction.2.1 45 = .ok (.lreturn, 1) := by decide +kernel
theorem b_S_fraction_0 {E : EV} {d : Nat} {Q : Option AV → St → Prop} {σ : St} (x0 x2 x4 : Int) (h : (WMl E m_S_greatestDivisor d [aL x0, aL x2] σ (fun v1 σ1 => (rL v1) ∧ ((v1 ≤ 0 → Q (some (aL (-1))) σ1) ∧ (¬ v1 ≤ 0 → (rI x4) ∧ ((x4 < 0 → Q (some (aL (-1))) σ1) ∧ (¬ x4 < 0 → (rI x4) ∧ ((x4 ≤ 1 → (rI x4) ∧ ((¬ x4 = 0 → (rL x2 ∧ 0 < v1 ∧ v1 ≤ 9223372036854775807) ∧ Q (some (aL (x2.tdiv v1))) σ1) ∧ (x4 = 0 → (rL x0 ∧ 0 < v1 ∧ v1 ≤ 9223372036854775807) ∧ Q (some (aL (x0.tdiv v1))) σ1))) ∧ (¬ x4 ≤ 1 → Q (some (aL (-1))) σ1))))))))) : WP E m_S_fraction (d + 1) 0 [(0, aL x0), (2, aL x2), (4, aI x4)] [] σ Q := by
  refine s_lload_n 0 d_S_fraction_0 rfl rfl ?_
  refine s_lload_n 1 d_S_fraction_1 rfl rfl ?_
  refine s_callS (as := [aL x0, aL x2]) d_S_fraction_2 ok_S_greatestDivisor lk_S_389 to_S_greatestDivisor rfl (Nat.le_of_ble_eq_true rfl) rfl (WM.mono h ?_)
  rintro _ σ1 ⟨v1, rfl, hp, h⟩
  show WP E m_S_fraction (d + 1) 5 [(0, aL x0), (2, aL x2), (4, aI x4)] [aL v1] σ1 Q
  refine s_lstore d_S_fraction_5 (by decide) rfl ?_
  refine s_lload 0 d_S_fraction_7 rfl ?_
  refine s_lconst (v := 0) d_S_fraction_9 rfl ?_
  obtain ⟨g2, h⟩ := h
  refine s_lcmp d_S_fraction_10 g2 (by decide) ?_
  refine s_if_le d_S_fraction_11 rfl (lcmp_r _ _) (fun c => ?_) (fun c => ?_)
  · have h := h.1 (lcmp_le.mp c)
    refine s_ldc2 (v := -1) d_S_fraction_25 ll_S_288 (by decide) ?_
    exact s_lreturn d_S_fraction_28 rfl h
  · have h := h.2 (nlcmp_le c)
    refine s_iload 3 d_S_fraction_14 rfl ?_
    obtain ⟨g3, h⟩ := h
    refine s_if_lt d_S_fraction_16 rfl g3 (fun c => ?_) (fun c => ?_)
    · have h := h.1 c
      refine s_ldc2 (v := -1) d_S_fraction_25 ll_S_288 (by decide) ?_
      exact s_lreturn d_S_fraction_28 rfl h
    · have h := h.2 c
      refine s_iload 3 d_S_fraction_19 rfl ?_
      refine s_iconst d_S_fraction_21 ?_
      obtain ⟨g4, h⟩ := h
      refine s_icmp_le d_S_fraction_22 rfl g4 (by decide) (fun c => ?_) (fun c => ?_)
      · have h := h.1 c
        refine s_iload 3 d_S_fraction_29 rfl ?_
        obtain ⟨g5, h⟩ := h
        refine s_if_ne d_S_fraction_31 rfl g5 (fun c => ?_) (fun c => ?_)
        · have h := h.1 c
          refine s_lload_n 2 d_S_fraction_41 rfl rfl ?_
          refine s_lload 0 d_S_fraction_42 rfl ?_
          obtain ⟨g6, h⟩ := h
          refine s_ldiv d_S_fraction_44 g6 ?_
          exact s_lreturn d_S_fraction_45 rfl h
        · have h := h.2 c
          refine s_lload_n 1 d_S_fraction_34 rfl rfl ?_
          refine s_lload 0 d_S_fraction_35 rfl ?_
          obtain ⟨g7, h⟩ := h
          refine s_ldiv d_S_fraction_37 g7 ?_
          refine s_goto d_S_fraction_38 rfl ?_
          exact s_lreturn d_S_fraction_45 rfl h
      · have h := h.2 c
        refine s_ldc2 (v := -1) d_S_fraction_25 ll_S_288 (by decide) ?_
        exact s_lreturn d_S_fraction_28 rfl h
theorem e_S_fraction {E : EV} {d : Nat} {Q : Option AV → St → Prop} {σ : St} (x0 x2 x4 : Int) (h : (WMl E m_S_greatestDivisor d [aL x0, aL x2] σ (fun v1 σ1 => (rL v1) ∧ ((v1 ≤ 0 → Q (some (aL (-1))) σ1) ∧ (¬ v1 ≤ 0 → (rI x4) ∧ ((x4 < 0 → Q (some (aL (-1))) σ1) ∧ (¬ x4 < 0 → (rI x4) ∧ ((x4 ≤ 1 → (rI x4) ∧ ((¬ x4 = 0 → (rL x2 ∧ 0 < v1 ∧ v1 ≤ 9223372036854775807) ∧ Q (some (aL (x2.tdiv v1))) σ1) ∧ (x4 = 0 → (rL x0 ∧ 0 < v1 ∧ v1 ≤ 9223372036854775807) ∧ Q (some (aL (x0.tdiv v1))) σ1))) ∧ (¬ x4 ≤ 1 → Q (some (aL (-1))) σ1))))))))) : WM E m_S_fraction (d + 1) [aL x0, aL x2, aI x4] σ Q := s_meth (by decide) (Nat.le_of_ble_eq_true rfl) rfl (b_S_fraction_0 x0 x2 x4 h)
theorem d_S_greatestDivisor_0 : decode m_S_greatestDivisor.2.1 0 = .ok (.lload_n 0, 1) := by decide +kernel
theorem d_S_greatestDivisor_1 : decode m_S_greatestDivisor.2.1 1 = .ok (.invokestatic 393, 3) := by decide +kernel
theorem d_S_greatestDivisor_4 : decode m_S_greatestDivisor.2.1 4 = .ok (.lstore 4, 2) := by decide +kernel
theorem d_S_greatestDivisor_6 : decode m_S_greatestDivisor.2.1 6 = .ok (.lload_n 2, 1) := by decide +kernel
theorem d_S_greatestDivisor_7 : decode m_S_greatestDivisor.2.1 7 = .ok (.invokestatic 393, 3) := by decide +kernel
theorem d_S_greatestDivisor_10 : decode m_S_greatestDivisor.2.1 10 = .ok (.lstore 6, 2) := by decide +kernel
theorem d_S_greatestDivisor_12 : decode m_S_greatestDivisor.2.1 12 = .ok (.iconst 0, 1) := by decide +kernel
theorem d_S_greatestDivisor_13 : decode m_S_greatestDivisor.2.1 13 = .ok (.istore 8, 2) := by decide +kernel
theorem d_S_greatestDivisor_15 : decode m_S_greatestDivisor.2.1 15 = .ok (.iload 8, 2) := by decide +kernel
theorem d_S_greatestDivisor_17 : decode m_S_greatestDivisor.2.1 17 = .ok (.bipush 100, 2) := by decide +kernel
theorem d_S_greatestDivisor_19 : decode m_S_greatestDivisor.2.1 19 = .ok (.if_icmp .ge 31, 3) := by decide +kernel
theorem d_S_greatestDivisor_22 : decode m_S_greatestDivisor.2.1 22 = .ok (.lload 6, 2) := by decide +kernel
theorem d_S_greatestDivisor_24 : decode m_S_greatestDivisor.2.1 24 = .ok (.lconst 0, 1) := by decide +kernel
theorem d_S_greatestDivisor_25 : decode m_S_greatestDivisor.2.1 25 = .ok (.lcmp, 1) := by decide +kernel
theorem d_S_greatestDivisor_26 : decode m_S_greatestDivisor.2.1 26 = .ok (.ifCond .le 24, 3) := by decide +kernel
theorem d_S_greatestDivisor_29 : decode m_S_greatestDivisor.2.1 29 = .ok (.lload 4, 2) := by decide +kernel
theorem d_S_greatestDivisor_31 : decode m_S_greatestDivisor.2.1 31 = .ok (.lload 6, 2) := by decide +kernel
theorem d_S_greatestDivisor_33 : decode m_S_greatestDivisor.2.1 33 = .ok (.lrem, 1) := by decide +kernel
theorem d_S_greatestDivisor_34 : decode m_S_greatestDivisor.2.1 34 = .ok (.lstore 9, 2) := by decide +kernel
theorem d_S_greatestDivisor_36 : decode m_S_greatestDivisor.2.1 36 = .ok (.lload 6, 2) := by decide +kernel
theorem d_S_greatestDivisor_38 : decode m_S_greatestDivisor.2.1 38 = .ok (.lstore 4, 2) := by decide +kernel
theorem d_S_greatestDivisor_40 : decode m_S_greatestDivisor.2.1 40 = .ok (.lload 9, 2) := by decide +kernel
theorem d_S_greatestDivisor_42 : decode m_S_greatestDivisor.2.1 42 = .ok (.lstore 6, 2) := by decide +kernel
theorem d_S_greatestDivisor_44 : decode m_S_greatestDivisor.2.1 44 = .ok (.iinc 8 1, 3) := by decide +kernel
theorem d_S_greatestDivisor_47 : decode m_S_greatestDivisor.2.1 47 = .ok (.goto (-32), 3) := by decide +kernel
theorem d_S_greatestDivisor_50 : decode m_S_greatestDivisor.2.1 50 = .ok (.lload 4, 2) := by decide +kernel
theorem d_S_greatestDivisor_52 : decode m_S_greatestDivisor.2.1 52 = .ok (.lreturn, 1) := by decide +kernel
theorem b_S_greatestDivisor_0 {E : EV} {d : Nat} {Q : Option AV → St → Prop} {σ : St} (x0 x2 : Int) (h : (rL x0) ∧ (rL x2) ∧ WP E m_S_greatestDivisor (d + 1) 15 [(4, aL (max x0 (-x0))), (6, aL (max x2 (-x2))), (8, aI 0)] [] σ Q) : WP E m_S_greatestDivisor (d + 1) 0 [(0, aL x0), (2, aL x2)] [] σ Q := by
  refine s_lload_n 0 d_S_greatestDivisor_0 rfl rfl ?_
  obtain ⟨g1, h⟩ := h
  refine s_mabs d_S_greatestDivisor_1 lm_S_393 lm_abs_s lm_i lm_abs_c (Nat.le_of_ble_eq_true rfl) g1 ?_
  refine s_lstore d_S_greatestDivisor_4 (by decide) rfl ?_
  refine s_lload_n 2 d_S_greatestDivisor_6 rfl rfl ?_
  obtain ⟨g2, h⟩ := h
  refine s_mabs d_S_greatestDivisor_7 lm_S_393 lm_abs_s lm_i lm_abs_c (Nat.le_of_ble_eq_true rfl) g2 ?_
  refine s_lstore d_S_greatestDivisor_10 (by decide) rfl ?_
  refine s_iconst d_S_greatestDivisor_12 ?_
  refine s_istore d_S_greatestDivisor_13 (by decide) rfl ?_
  refine wp_drop [2, 1, 0] rfl ?_
  exact h
theorem e_S_greatestDivisor {E : EV} {d : Nat} {Q : Option AV → St → Prop} {σ : St} (x0 x2 : Int) (h : (rL x0) ∧ (rL x2) ∧ WP E m_S_greatestDivisor (d + 1) 15 [(4, aL (max x0 (-x0))), (6, aL (max x2 (-x2))), (8, aI 0)] [] σ Q) : WM E m_S_greatestDivisor (d + 1) [aL x0, aL x2] σ Q := s_meth (by decide) (Nat.le_of_ble_eq_true rfl) rfl (b_S_greatestDivisor_0 x0 x2 h)
theorem b_S_greatestDivisor_15 {E : EV} {d : Nat} {Q : Option AV → St → Prop} {σ : St} (x4 x6 x8 : Int) (h : (rI x8) ∧ ((100 ≤ x8 → Q (some (aL x4)) σ) ∧ (¬ 100 ≤ x8 → (rL x6) ∧ ((x6 ≤ 0 → Q (some (aL x4)) σ) ∧ (¬ x6 ≤ 0 → ((0 ≤ x4 ∧ x4 ≤ 9223372036854775807) ∧ 0 < x6 ∧ x6 ≤ 9223372036854775807) ∧ WP E m_S_greatestDivisor (d + 1) 15 [(4, aL x6), (6, aL (x4 % x6)), (8, aI (x8 + 1))] [] σ Q))))) : WP E m_S_greatestDivisor (d + 1) 15 [(4, aL x4), (6, aL x6), (8, aI x8)] [] σ Q := by
  refine s_iload 2 d_S_greatestDivisor_15 rfl ?_
  refine s_bipush d_S_greatestDivisor_17 (by decide) ?_
  obtain ⟨g1, h⟩ := h
  refine s_icmp_ge d_S_greatestDivisor_19 rfl g1 (by decide) (fun c => ?_) (fun c => ?_)
  · have h := h.1 c
    refine s_lload 0 d_S_greatestDivisor_50 rfl ?_
    exact s_lreturn d_S_greatestDivisor_52 rfl h
  · have h := h.2 c
    refine s_lload 1 d_S_greatestDivisor_22 rfl ?_
    refine s_lconst (v := 0) d_S_greatestDivisor_24 rfl ?_
    obtain ⟨g2, h⟩ := h
    refine s_lcmp d_S_greatestDivisor_25 g2 (by decide) ?_
    refine s_if_le d_S_greatestDivisor_26 rfl (lcmp_r _ _) (fun c => ?_) (fun c => ?_)
    · have h := h.1 (lcmp_le.mp c)
      refine s_lload 0 d_S_greatestDivisor_50 rfl ?_
      exact s_lreturn d_S_greatestDivisor_52 rfl h
    · have h := h.2 (nlcmp_le c)
      refine s_lload 0 d_S_greatestDivisor_29 rfl ?_
      refine s_lload 1 d_S_greatestDivisor_31 rfl ?_
      obtain ⟨g3, h⟩ := h
      refine s_lrem d_S_greatestDivisor_33 g3 ?_
      refine s_lstore d_S_greatestDivisor_34 (by decide) rfl ?_
      refine s_lload 2 d_S_greatestDivisor_36 rfl ?_
      refine s_lstore d_S_greatestDivisor_38 (by decide) rfl ?_
      refine s_lload 1 d_S_greatestDivisor_40 rfl ?_
      refine s_lstore d_S_greatestDivisor_42 (by decide) rfl ?_
      refine s_iinc 3 d_S_greatestDivisor_44 rfl (by decide) rfl ?_
      refine s_goto d_S_greatestDivisor_47 rfl ?_
      refine wp_drop [2, 1, 0] rfl ?_
      exact h
theorem d_S_letter_0 : decode m_S_letter.2.1 0 = .ok (.aload_n 0, 1) := by decide +kernel
theorem d_S_letter_1 : decode m_S_letter.2.1 1 = .ok (.iload_n 1, 1) := by decide +kernel
theorem d_S_letter_2 : decode m_S_letter.2.1 2 = .ok (.iload_n 2, 1) := by decide +kernel
theorem d_S_letter_3 : decode m_S_letter.2.1 3 = .ok (.invokevirtual 99, 3) := by decide +kernel
theorem d_S_letter_6 : decode m_S_letter.2.1 6 = .ok (.astore 4, 2) := by decide +kernel
theorem d_S_letter_8 : decode m_S_letter.2.1 8 = .ok (.aload 4, 2) := by decide +kernel
theorem d_S_letter_10 : decode m_S_letter.2.1 10 = .ok (.ifnonnull 7, 3) := by decide +kernel
theorem d_S_letter_13 : decode m_S_letter.2.1 13 = .ok (.iconst (-1), 1) := by decide +kernel
theorem d_S_letter_14 : decode m_S_letter.2.1 14 = .ok (.goto 9, 3) := by decide +kernel
theorem d_S_letter_17 : decode m_S_letter.2.1 17 = .ok (.aload 4, 2) := by decide +kernel
theorem d_S_letter_19 : decode m_S_letter.2.1 19 = .ok (.iload_n 3, 1) := by decide +kernel
theorem d_S_letter_20 : decode m_S_letter.2.1 20 = .ok (.invokevirtual 107, 3) := by decide +kernel
theorem d_S_letter_23 : decode m_S_letter.2.1 23 = .ok (.istore 5, 2) := by decide +kernel
theorem d_S_letter_25 : decode m_S_letter.2.1 25 = .ok (.aload 4, 2) := by decide +kernel
theorem d_S_letter_27 : decode m_S_letter.2.1 27 = .ok (.ifnull 9, 3) := by decide +kernel
theorem d_S_letter_30 : decode m_S_letter.2.1 30 = .ok (.iload 5, 2) := by decide +kernel
theorem d_S_letter_32 : decode m_S_letter.2.1 32 = .ok (.iconst (-1), 1) := by decide +kernel
theorem d_S_letter_33 : decode m_S_letter.2.1 33 = .ok (.if_icmp .ne 7, 3) := by decide +kernel
theorem d_S_letter_36 : decode m_S_letter.2.1 36 = .ok (.iconst (-1), 1) := by decide +kernel
theorem d_S_letter_37 : decode m_S_letter.2.1 37 = .ok (.goto 13, 3) := by decide +kernel
theorem d_S_letter_40 : decode m_S_letter.2.1 40 = .ok (.aload 4, 2) := by decide +kernel
theorem d_S_letter_42 : decode m_S_letter.2.1 42 = .ok (.iload 5, 2) := by decide +kernel
theorem d_S_letter_44 : decode m_S_letter.2.1 44 = .ok (.invokevirtual 113, 3) := by decide +kernel
theorem d_S_letter_47 : decode m_S_letter.2.1 47 = .ok (.invokestatic 116, 3) := by decide +kernel
theorem d_S_letter_50 : decode m_S_letter.2.1 50 = .ok (.ireturn, 1) := by decide +kernel
theorem b_S_letter_0 {E : EV} {d : Nat} {Q : Option AV → St → Prop} {σ : St} (x1 x2 x3 : Int) (hF : Fix σ) (h : (WMr E m_S_squareAt d [aP 1, aI x1, aI x2] σ (fun v1 σ1 => ((¬ v1 = 0 → (sh σ1 v1 = some (7, 1)) ∧ (WMi E m_Sq_placeOf d [aP v1, aI x3] σ1 (fun v2 σ2 => WP E m_S_letter (d + 1) 23 [(4, aP v1)] [aI v2] σ2 Q))) ∧ (v1 = 0 → WP E m_S_letter (d + 1) 23 [(4, aP v1)] [aI (-1)] σ1 Q))))) : WP E m_S_letter (d + 1) 0 [(0, aP 1), (1, aI x1), (2, aI x2), (3, aI x3)] [] σ Q := by
  refine s_aload_n 0 d_S_letter_0 rfl rfl ?_
  refine s_iload_n 1 d_S_letter_1 rfl rfl ?_
  refine s_iload_n 2 d_S_letter_2 rfl rfl ?_
  refine s_callV (as := [aI x1, aI x2]) (ci := 9) d_S_letter_3 ok_S_squareAt lk_S_99 io_S_squareAt so_S_squareAt (by decide) rfl rfl rfl (Nat.le_of_ble_eq_true rfl) rfl (sf_1 hF) (WM.mono h ?_)
  rintro _ σ1 ⟨v1, rfl, hp, h⟩
  show WP E m_S_letter (d + 1) 6 [(0, aP 1), (1, aI x1), (2, aI x2), (3, aI x3)] [aP v1] σ1 Q
  refine s_astore d_S_letter_6 (by decide) rfl ?_
  refine s_aload 0 d_S_letter_8 rfl ?_
  refine s_ifnonnull d_S_letter_10 rfl (fun c => ?_) (fun c => ?_)
  · have h := h.1 c
    refine s_aload 0 d_S_letter_17 rfl ?_
    refine s_iload_n 4 d_S_letter_19 rfl rfl ?_
    obtain ⟨g3, h⟩ := h
    refine s_callV (as := [aI x3]) (ci := 7) d_S_letter_20 ok_Sq_placeOf lk_S_107 io_Sq_placeOf so_Sq_placeOf (by decide) rfl rfl rfl (Nat.le_of_ble_eq_true rfl) rfl g3 (WM.mono h ?_)
    rintro _ σ2 ⟨v2, rfl, hp, h⟩
    show WP E m_S_letter (d + 1) 23 [(4, aP v1), (0, aP 1), (1, aI x1), (2, aI x2), (3, aI x3)] [aI v2] σ2 Q
    refine wp_drop [0] rfl ?_
    exact h
  · have h := h.2 c
    refine s_iconst d_S_letter_13 ?_
    refine s_goto d_S_letter_14 rfl ?_
    refine wp_drop [0] rfl ?_
    exact h
theorem e_S_letter {E : EV} {d : Nat} {Q : Option AV → St → Prop} {σ : St} (x1 x2 x3 : Int) (hF : Fix σ) (h : (WMr E m_S_squareAt d [aP 1, aI x1, aI x2] σ (fun v1 σ1 => ((¬ v1 = 0 → (sh σ1 v1 = some (7, 1)) ∧ (WMi E m_Sq_placeOf d [aP v1, aI x3] σ1 (fun v2 σ2 => WP E m_S_letter (d + 1) 23 [(4, aP v1)] [aI v2] σ2 Q))) ∧ (v1 = 0 → WP E m_S_letter (d + 1) 23 [(4, aP v1)] [aI (-1)] σ1 Q))))) : WM E m_S_letter (d + 1) [aP 1, aI x1, aI x2, aI x3] σ Q := s_meth (by decide) (Nat.le_of_ble_eq_true rfl) rfl (b_S_letter_0 x1 x2 x3 hF h)
theorem b_S_letter_23 {E : EV} {d : Nat} {Q : Option AV → St → Prop} {σ : St} (x4 s0 : Int) (h : ((x4 = 0 → Q (some (aI (-1))) σ) ∧ (¬ x4 = 0 → (rI s0) ∧ ((¬ s0 = (-1) → (sh σ x4 = some (7, 1)) ∧ (WMi E m_Sq_symbol d [aP x4, aI s0] σ (fun v2 σ2 => (WMi E m_S_letterOf d [aI v2] σ2 (fun v4 σ4 => Q (some (aI v4)) σ4))))) ∧ (s0 = (-1) → Q (some (aI (-1))) σ))))) : WP E m_S_letter (d + 1) 23 [(4, aP x4)] [aI s0] σ Q := by
  refine s_istore d_S_letter_23 (by decide) rfl ?_
  refine s_aload 1 d_S_letter_25 rfl ?_
  refine s_ifnull d_S_letter_27 rfl (fun c => ?_) (fun c => ?_)
  · have h := h.1 c
    refine s_iconst d_S_letter_36 ?_
    refine s_goto d_S_letter_37 rfl ?_
    exact s_ireturn d_S_letter_50 rfl h
  · have h := h.2 c
    refine s_iload 0 d_S_letter_30 rfl ?_
    refine s_iconst d_S_letter_32 ?_
    obtain ⟨g1, h⟩ := h
    refine s_icmp_ne d_S_letter_33 rfl g1 (by decide) (fun c => ?_) (fun c => ?_)
    · have h := h.1 c
      refine s_aload 1 d_S_letter_40 rfl ?_
      refine s_iload 0 d_S_letter_42 rfl ?_
      obtain ⟨g3, h⟩ := h
      refine s_callV (as := [aI s0]) (ci := 7) d_S_letter_44 ok_Sq_symbol lk_S_113 io_Sq_symbol so_Sq_symbol (by decide) rfl rfl rfl (Nat.le_of_ble_eq_true rfl) rfl g3 (WM.mono h ?_)
      rintro _ σ2 ⟨v2, rfl, hp, h⟩
      show WP E m_S_letter (d + 1) 47 [(5, aI s0), (4, aP x4)] [aI v2] σ2 Q
      refine s_callS (as := [aI v2]) d_S_letter_47 ok_S_letterOf lk_S_116 to_S_letterOf rfl (Nat.le_of_ble_eq_true rfl) rfl (WM.mono h ?_)
      rintro _ σ4 ⟨v4, rfl, hp, h⟩
      show WP E m_S_letter (d + 1) 50 [(5, aI s0), (4, aP x4)] [aI v4] σ4 Q
      exact s_ireturn d_S_letter_50 rfl h
    · have h := h.2 c
      refine s_iconst d_S_letter_36 ?_
      refine s_goto d_S_letter_37 rfl ?_
      exact s_ireturn d_S_letter_50 rfl h
theorem d_S_inside_0 : decode m_S_inside.2.1 0 = .ok (.aload_n 0, 1) := by decide +kernel
theorem d_S_inside_1 : decode m_S_inside.2.1 1 = .ok (.iload_n 1, 1) := by decide +kernel
theorem d_S_inside_2 : decode m_S_inside.2.1 2 = .ok (.iload_n 2, 1) := by decide +kernel
theorem d_S_inside_3 : decode m_S_inside.2.1 3 = .ok (.invokevirtual 99, 3) := by decide +kernel
theorem d_S_inside_6 : decode m_S_inside.2.1 6 = .ok (.astore 4, 2) := by decide +kernel
theorem d_S_inside_8 : decode m_S_inside.2.1 8 = .ok (.aload 4, 2) := by decide +kernel
theorem d_S_inside_10 : decode m_S_inside.2.1 10 = .ok (.ifnonnull 7, 3) := by decide +kernel
theorem d_S_inside_13 : decode m_S_inside.2.1 13 = .ok (.iconst (-1), 1) := by decide +kernel
theorem d_S_inside_14 : decode m_S_inside.2.1 14 = .ok (.goto 9, 3) := by decide +kernel
theorem d_S_inside_17 : decode m_S_inside.2.1 17 = .ok (.aload 4, 2) := by decide +kernel
theorem d_S_inside_19 : decode m_S_inside.2.1 19 = .ok (.iload_n 3, 1) := by decide +kernel
theorem d_S_inside_20 : decode m_S_inside.2.1 20 = .ok (.invokevirtual 107, 3) := by decide +kernel
theorem d_S_inside_23 : decode m_S_inside.2.1 23 = .ok (.istore 5, 2) := by decide +kernel
theorem d_S_inside_25 : decode m_S_inside.2.1 25 = .ok (.aload 4, 2) := by decide +kernel
theorem d_S_inside_27 : decode m_S_inside.2.1 27 = .ok (.ifnull 9, 3) := by decide +kernel
theorem d_S_inside_30 : decode m_S_inside.2.1 30 = .ok (.iload 5, 2) := by decide +kernel
theorem d_S_inside_32 : decode m_S_inside.2.1 32 = .ok (.iconst (-1), 1) := by decide +kernel
theorem d_S_inside_33 : decode m_S_inside.2.1 33 = .ok (.if_icmp .ne 5, 3) := by decide +kernel
theorem d_S_inside_36 : decode m_S_inside.2.1 36 = .ok (.iconst (-1), 1) := by decide +kernel
theorem d_S_inside_37 : decode m_S_inside.2.1 37 = .ok (.ireturn, 1) := by decide +kernel
theorem d_S_inside_38 : decode m_S_inside.2.1 38 = .ok (.aload 4, 2) := by decide +kernel
theorem d_S_inside_40 : decode m_S_inside.2.1 40 = .ok (.iload 5, 2) := by decide +kernel
theorem d_S_inside_42 : decode m_S_inside.2.1 42 = .ok (.invokevirtual 148, 3) := by decide +kernel
theorem d_S_inside_45 : decode m_S_inside.2.1 45 = .ok (.istore 6, 2) := by decide +kernel
theorem d_S_inside_47 : decode m_S_inside.2.1 47 = .ok (.iload 6, 2) := by decide +kernel
theorem d_S_inside_49 : decode m_S_inside.2.1 49 = .ok (.iconst (-1), 1) := by decide +kernel
theorem d_S_inside_50 : decode m_S_inside.2.1 50 = .ok (.if_icmp .ne 8, 3) := by decide +kernel
theorem d_S_inside_53 : decode m_S_inside.2.1 53 = .ok (.bipush (-2), 2) := by decide +kernel
theorem d_S_inside_55 : decode m_S_inside.2.1 55 = .ok (.goto 10, 3) := by decide +kernel
theorem d_S_inside_58 : decode m_S_inside.2.1 58 = .ok (.aload 4, 2) := by decide +kernel
theorem d_S_inside_60 : decode m_S_inside.2.1 60 = .ok (.iload 6, 2) := by decide +kernel
theorem d_S_inside_62 : decode m_S_inside.2.1 62 = .ok (.invokevirtual 285, 3) := by decide +kernel
theorem d_S_inside_65 : decode m_S_inside.2.1 65 = .ok (.ireturn, 1) := by decide +kernel
theorem b_S_inside_0 {E : EV} {d : Nat} {Q : Option AV → St → Prop} {σ : St} (x1 x2 x3 : Int) (hF : Fix σ) (h : (WMr E m_S_squareAt d [aP 1, aI x1, aI x2] σ (fun v1 σ1 => ((¬ v1 = 0 → (sh σ1 v1 = some (7, 1)) ∧ (WMi E m_Sq_placeOf d [aP v1, aI x3] σ1 (fun v2 σ2 => WP E m_S_inside (d + 1) 23 [(4, aP v1)] [aI v2] σ2 Q))) ∧ (v1 = 0 → WP E m_S_inside (d + 1) 23 [(4, aP v1)] [aI (-1)] σ1 Q))))) : WP E m_S_inside (d + 1) 0 [(0, aP 1), (1, aI x1), (2, aI x2), (3, aI x3)] [] σ Q := by
  refine s_aload_n 0 d_S_inside_0 rfl rfl ?_
  refine s_iload_n 1 d_S_inside_1 rfl rfl ?_
  refine s_iload_n 2 d_S_inside_2 rfl rfl ?_
  refine s_callV (as := [aI x1, aI x2]) (ci := 9) d_S_inside_3 ok_S_squareAt lk_S_99 io_S_squareAt so_S_squareAt (by decide) rfl rfl rfl (Nat.le_of_ble_eq_true rfl) rfl (sf_1 hF) (WM.mono h ?_)
  rintro _ σ1 ⟨v1, rfl, hp, h⟩
  show WP E m_S_inside (d + 1) 6 [(0, aP 1), (1, aI x1), (2, aI x2), (3, aI x3)] [aP v1] σ1 Q
  refine s_astore d_S_inside_6 (by decide) rfl ?_
  refine s_aload 0 d_S_inside_8 rfl ?_
  refine s_ifnonnull d_S_inside_10 rfl (fun c => ?_) (fun c => ?_)
  · have h := h.1 c
    refine s_aload 0 d_S_inside_17 rfl ?_
    refine s_iload_n 4 d_S_inside_19 rfl rfl ?_
    obtain ⟨g3, h⟩ := h
    refine s_callV (as := [aI x3]) (ci := 7) d_S_inside_20 ok_Sq_placeOf lk_S_107 io_Sq_placeOf so_Sq_placeOf (by decide) rfl rfl rfl (Nat.le_of_ble_eq_true rfl) rfl g3 (WM.mono h ?_)
    rintro _ σ2 ⟨v2, rfl, hp, h⟩
    show WP E m_S_inside (d + 1) 23 [(4, aP v1), (0, aP 1), (1, aI x1), (2, aI x2), (3, aI x3)] [aI v2] σ2 Q
    refine wp_drop [0] rfl ?_
    exact h
  · have h := h.2 c
    refine s_iconst d_S_inside_13 ?_
    refine s_goto d_S_inside_14 rfl ?_
    refine wp_drop [0] rfl ?_
    exact h
theorem e_S_inside {E : EV} {d : Nat} {Q : Option AV → St → Prop} {σ : St} (x1 x2 x3 : Int) (hF : Fix σ) (h : (WMr E m_S_squareAt d [aP 1, aI x1, aI x2] σ (fun v1 σ1 => ((¬ v1 = 0 → (sh σ1 v1 = some (7, 1)) ∧ (WMi E m_Sq_placeOf d [aP v1, aI x3] σ1 (fun v2 σ2 => WP E m_S_inside (d + 1) 23 [(4, aP v1)] [aI v2] σ2 Q))) ∧ (v1 = 0 → WP E m_S_inside (d + 1) 23 [(4, aP v1)] [aI (-1)] σ1 Q))))) : WM E m_S_inside (d + 1) [aP 1, aI x1, aI x2, aI x3] σ Q := s_meth (by decide) (Nat.le_of_ble_eq_true rfl) rfl (b_S_inside_0 x1 x2 x3 hF h)
theorem b_S_inside_23 {E : EV} {d : Nat} {Q : Option AV → St → Prop} {σ : St} (x4 s0 : Int) (h : ((x4 = 0 → Q (some (aI (-1))) σ) ∧ (¬ x4 = 0 → (rI s0) ∧ ((¬ s0 = (-1) → (sh σ x4 = some (7, 1)) ∧ (WMi E m_Sq_holderOf d [aP x4, aI s0] σ (fun v2 σ2 => (rI v2) ∧ ((¬ v2 = (-1) → (sh σ2 x4 = some (7, 1)) ∧ (WMi E m_Sq_numberAt d [aP x4, aI v2] σ2 (fun v5 σ5 => Q (some (aI v5)) σ5))) ∧ (v2 = (-1) → Q (some (aI (-2))) σ2))))) ∧ (s0 = (-1) → Q (some (aI (-1))) σ))))) : WP E m_S_inside (d + 1) 23 [(4, aP x4)] [aI s0] σ Q := by
  refine s_istore d_S_inside_23 (by decide) rfl ?_
  refine s_aload 1 d_S_inside_25 rfl ?_
  refine s_ifnull d_S_inside_27 rfl (fun c => ?_) (fun c => ?_)
  · have h := h.1 c
    refine s_iconst d_S_inside_36 ?_
    exact s_ireturn d_S_inside_37 rfl h
  · have h := h.2 c
    refine s_iload 0 d_S_inside_30 rfl ?_
    refine s_iconst d_S_inside_32 ?_
    obtain ⟨g1, h⟩ := h
    refine s_icmp_ne d_S_inside_33 rfl g1 (by decide) (fun c => ?_) (fun c => ?_)
    · have h := h.1 c
      refine s_aload 1 d_S_inside_38 rfl ?_
      refine s_iload 0 d_S_inside_40 rfl ?_
      obtain ⟨g3, h⟩ := h
      refine s_callV (as := [aI s0]) (ci := 7) d_S_inside_42 ok_Sq_holderOf lk_S_148 io_Sq_holderOf so_Sq_holderOf (by decide) rfl rfl rfl (Nat.le_of_ble_eq_true rfl) rfl g3 (WM.mono h ?_)
      rintro _ σ2 ⟨v2, rfl, hp, h⟩
      show WP E m_S_inside (d + 1) 45 [(5, aI s0), (4, aP x4)] [aI v2] σ2 Q
      refine s_istore d_S_inside_45 (by decide) rfl ?_
      refine s_iload 0 d_S_inside_47 rfl ?_
      refine s_iconst d_S_inside_49 ?_
      obtain ⟨g4, h⟩ := h
      refine s_icmp_ne d_S_inside_50 rfl g4 (by decide) (fun c => ?_) (fun c => ?_)
      · have h := h.1 c
        refine s_aload 2 d_S_inside_58 rfl ?_
        refine s_iload 0 d_S_inside_60 rfl ?_
        obtain ⟨g6, h⟩ := h
        refine s_callV (as := [aI v2]) (ci := 7) d_S_inside_62 ok_Sq_numberAt lk_S_285 io_Sq_numberAt so_Sq_numberAt (by decide) rfl rfl rfl (Nat.le_of_ble_eq_true rfl) rfl g6 (WM.mono h ?_)
        rintro _ σ5 ⟨v5, rfl, hp, h⟩
        show WP E m_S_inside (d + 1) 65 [(6, aI v2), (5, aI s0), (4, aP x4)] [aI v5] σ5 Q
        exact s_ireturn d_S_inside_65 rfl h
      · have h := h.2 c
        refine s_bipush d_S_inside_53 (by decide) ?_
        refine s_goto d_S_inside_55 rfl ?_
        exact s_ireturn d_S_inside_65 rfl h
    · have h := h.2 c
      refine s_iconst d_S_inside_36 ?_
      exact s_ireturn d_S_inside_37 rfl h
theorem d_S_box_0 : decode m_S_box.2.1 0 = .ok (.aload_n 0, 1) := by decide +kernel
theorem d_S_box_1 : decode m_S_box.2.1 1 = .ok (.iload_n 1, 1) := by decide +kernel
theorem d_S_box_2 : decode m_S_box.2.1 2 = .ok (.iload_n 2, 1) := by decide +kernel
theorem d_S_box_3 : decode m_S_box.2.1 3 = .ok (.invokevirtual 99, 3) := by decide +kernel
theorem d_S_box_6 : decode m_S_box.2.1 6 = .ok (.astore 6, 2) := by decide +kernel
theorem d_S_box_8 : decode m_S_box.2.1 8 = .ok (.aload 6, 2) := by decide +kernel
theorem d_S_box_10 : decode m_S_box.2.1 10 = .ok (.ifnonnull 7, 3) := by decide +kernel
theorem d_S_box_13 : decode m_S_box.2.1 13 = .ok (.iconst (-1), 1) := by decide +kernel
theorem d_S_box_14 : decode m_S_box.2.1 14 = .ok (.goto 9, 3) := by decide +kernel
theorem d_S_box_17 : decode m_S_box.2.1 17 = .ok (.aload 6, 2) := by decide +kernel
theorem d_S_box_19 : decode m_S_box.2.1 19 = .ok (.iload_n 3, 1) := by decide +kernel
theorem d_S_box_20 : decode m_S_box.2.1 20 = .ok (.invokevirtual 107, 3) := by decide +kernel
theorem d_S_box_23 : decode m_S_box.2.1 23 = .ok (.istore 7, 2) := by decide +kernel
theorem d_S_box_25 : decode m_S_box.2.1 25 = .ok (.aload 6, 2) := by decide +kernel
theorem d_S_box_27 : decode m_S_box.2.1 27 = .ok (.ifnull 20, 3) := by decide +kernel
theorem d_S_box_30 : decode m_S_box.2.1 30 = .ok (.iload 7, 2) := by decide +kernel
theorem d_S_box_32 : decode m_S_box.2.1 32 = .ok (.iconst (-1), 1) := by decide +kernel
theorem d_S_box_33 : decode m_S_box.2.1 33 = .ok (.if_icmp .eq 14, 3) := by decide +kernel
theorem d_S_box_36 : decode m_S_box.2.1 36 = .ok (.iload 4, 2) := by decide +kernel
theorem d_S_box_38 : decode m_S_box.2.1 38 = .ok (.ifCond .lt 9, 3) := by decide +kernel
theorem d_S_box_41 : decode m_S_box.2.1 41 = .ok (.iload 4, 2) := by decide +kernel
theorem d_S_box_43 : decode m_S_box.2.1 43 = .ok (.iconst 4, 1) := by decide +kernel
theorem d_S_box_44 : decode m_S_box.2.1 44 = .ok (.if_icmp .le 7, 3) := by decide +kernel
theorem d_S_box_47 : decode m_S_box.2.1 47 = .ok (.ldc2_w 288, 3) := by decide +kernel
theorem d_S_box_50 : decode m_S_box.2.1 50 = .ok (.lreturn, 1) := by decide +kernel
theorem d_S_box_51 : decode m_S_box.2.1 51 = .ok (.aload_n 0, 1) := by decide +kernel
theorem d_S_box_52 : decode m_S_box.2.1 52 = .ok (.aload 6, 2) := by decide +kernel
theorem d_S_box_54 : decode m_S_box.2.1 54 = .ok (.iload_n 1, 1) := by decide +kernel
theorem d_S_box_55 : decode m_S_box.2.1 55 = .ok (.invokevirtual 290, 3) := by decide +kernel
theorem d_S_box_58 : decode m_S_box.2.1 58 = .ok (.astore 8, 2) := by decide +kernel
theorem d_S_box_60 : decode m_S_box.2.1 60 = .ok (.aload 8, 2) := by decide +kernel
theorem d_S_box_62 : decode m_S_box.2.1 62 = .ok (.iload 7, 2) := by decide +kernel
theorem d_S_box_64 : decode m_S_box.2.1 64 = .ok (.iload 4, 2) := by decide +kernel
theorem d_S_box_66 : decode m_S_box.2.1 66 = .ok (.invokevirtual 294, 3) := by decide +kernel
theorem d_S_box_69 : decode m_S_box.2.1 69 = .ok (.lstore 9, 2) := by decide +kernel
theorem d_S_box_71 : decode m_S_box.2.1 71 = .ok (.aload 8, 2) := by decide +kernel
theorem d_S_box_73 : decode m_S_box.2.1 73 = .ok (.iload 7, 2) := by decide +kernel
theorem d_S_box_75 : decode m_S_box.2.1 75 = .ok (.iload 4, 2) := by decide +kernel
theorem d_S_box_77 : decode m_S_box.2.1 77 = .ok (.invokevirtual 298, 3) := by decide +kernel
theorem d_S_box_80 : decode m_S_box.2.1 80 = .ok (.lstore 11, 2) := by decide +kernel
theorem d_S_box_82 : decode m_S_box.2.1 82 = .ok (.lload 9, 2) := by decide +kernel
theorem d_S_box_84 : decode m_S_box.2.1 84 = .ok (.lload 11, 2) := by decide +kernel
theorem d_S_box_86 : decode m_S_box.2.1 86 = .ok (.iload 5, 2) := by decide +kernel
theorem d_S_box_88 : decode m_S_box.2.1 88 = .ok (.invokestatic 301, 3) := by decide +kernel
theorem d_S_box_91 : decode m_S_box.2.1 91 = .ok (.lreturn, 1) := by decide +kernel
theorem b_S_box_0 {E : EV} {d : Nat} {Q : Option AV → St → Prop} {σ : St} (x1 x2 x3 x4 x5 : Int) (hF : Fix σ) (h : (WMr E m_S_squareAt d [aP 1, aI x1, aI x2] σ (fun v1 σ1 => ((¬ v1 = 0 → (sh σ1 v1 = some (7, 1)) ∧ (WMi E m_Sq_placeOf d [aP v1, aI x3] σ1 (fun v2 σ2 => WP E m_S_box (d + 1) 23 [(0, aP 1), (1, aI x1), (4, aI x4), (5, aI x5), (6, aP v1)] [aI v2] σ2 Q))) ∧ (v1 = 0 → WP E m_S_box (d + 1) 23 [(0, aP 1), (1, aI x1), (4, aI x4), (5, aI x5), (6, aP v1)] [aI (-1)] σ1 Q))))) : WP E m_S_box (d + 1) 0 [(0, aP 1), (1, aI x1), (2, aI x2), (3, aI x3), (4, aI x4), (5, aI x5)] [] σ Q := by
  refine s_aload_n 0 d_S_box_0 rfl rfl ?_
  refine s_iload_n 1 d_S_box_1 rfl rfl ?_
  refine s_iload_n 2 d_S_box_2 rfl rfl ?_
  refine s_callV (as := [aI x1, aI x2]) (ci := 9) d_S_box_3 ok_S_squareAt lk_S_99 io_S_squareAt so_S_squareAt (by decide) rfl rfl rfl (Nat.le_of_ble_eq_true rfl) rfl (sf_1 hF) (WM.mono h ?_)
  rintro _ σ1 ⟨v1, rfl, hp, h⟩
  show WP E m_S_box (d + 1) 6 [(0, aP 1), (1, aI x1), (2, aI x2), (3, aI x3), (4, aI x4), (5, aI x5)] [aP v1] σ1 Q
  refine s_astore d_S_box_6 (by decide) rfl ?_
  refine s_aload 0 d_S_box_8 rfl ?_
  refine s_ifnonnull d_S_box_10 rfl (fun c => ?_) (fun c => ?_)
  · have h := h.1 c
    refine s_aload 0 d_S_box_17 rfl ?_
    refine s_iload_n 4 d_S_box_19 rfl rfl ?_
    obtain ⟨g3, h⟩ := h
    refine s_callV (as := [aI x3]) (ci := 7) d_S_box_20 ok_Sq_placeOf lk_S_107 io_Sq_placeOf so_Sq_placeOf (by decide) rfl rfl rfl (Nat.le_of_ble_eq_true rfl) rfl g3 (WM.mono h ?_)
    rintro _ σ2 ⟨v2, rfl, hp, h⟩
    show WP E m_S_box (d + 1) 23 [(6, aP v1), (0, aP 1), (1, aI x1), (2, aI x2), (3, aI x3), (4, aI x4), (5, aI x5)] [aI v2] σ2 Q
    refine wp_drop [1, 2, 5, 6, 0] rfl ?_
    exact h
  · have h := h.2 c
    refine s_iconst d_S_box_13 ?_
    refine s_goto d_S_box_14 rfl ?_
    refine wp_drop [1, 2, 5, 6, 0] rfl ?_
    exact h
theorem e_S_box {E : EV} {d : Nat} {Q : Option AV → St → Prop} {σ : St} (x1 x2 x3 x4 x5 : Int) (hF : Fix σ) (h : (WMr E m_S_squareAt d [aP 1, aI x1, aI x2] σ (fun v1 σ1 => ((¬ v1 = 0 → (sh σ1 v1 = some (7, 1)) ∧ (WMi E m_Sq_placeOf d [aP v1, aI x3] σ1 (fun v2 σ2 => WP E m_S_box (d + 1) 23 [(0, aP 1), (1, aI x1), (4, aI x4), (5, aI x5), (6, aP v1)] [aI v2] σ2 Q))) ∧ (v1 = 0 → WP E m_S_box (d + 1) 23 [(0, aP 1), (1, aI x1), (4, aI x4), (5, aI x5), (6, aP v1)] [aI (-1)] σ1 Q))))) : WM E m_S_box (d + 1) [aP 1, aI x1, aI x2, aI x3, aI x4, aI x5] σ Q := s_meth (by decide) (Nat.le_of_ble_eq_true rfl) rfl (b_S_box_0 x1 x2 x3 x4 x5 hF h)
theorem b_S_box_23 {E : EV} {d : Nat} {Q : Option AV → St → Prop} {σ : St} (x1 x4 x5 x6 s0 : Int) (hF : Fix σ) (h : ((x6 = 0 → Q (some (aL (-1))) σ) ∧ (¬ x6 = 0 → (rI s0) ∧ ((s0 = (-1) → Q (some (aL (-1))) σ) ∧ (¬ s0 = (-1) → (rI x4) ∧ ((x4 < 0 → Q (some (aL (-1))) σ) ∧ (¬ x4 < 0 → (rI x4) ∧ ((x4 ≤ 4 → (WMr E m_S_laidOut d [aP 1, aP x6, aI x1] σ (fun v4 σ4 => (sh σ4 v4 = some (2, 8)) ∧ (WMl E m_Layout_boxAbove d [aP v4, aI s0, aI x4] σ4 (fun v5 σ5 => (sh σ5 v4 = some (2, 8)) ∧ (WMl E m_Layout_boxBelow d [aP v4, aI s0, aI x4] σ5 (fun v7 σ7 => (WMl E m_S_fraction d [aL v5, aL v7, aI x5] σ7 (fun v9 σ9 => Q (some (aL v9)) σ9))))))))) ∧ (¬ x4 ≤ 4 → Q (some (aL (-1))) σ))))))))) : WP E m_S_box (d + 1) 23 [(0, aP 1), (1, aI x1), (4, aI x4), (5, aI x5), (6, aP x6)] [aI s0] σ Q := by
  refine s_istore d_S_box_23 (by decide) rfl ?_
  refine s_aload 5 d_S_box_25 rfl ?_
  refine s_ifnull d_S_box_27 rfl (fun c => ?_) (fun c => ?_)
  · have h := h.1 c
    refine s_ldc2 (v := -1) d_S_box_47 ll_S_288 (by decide) ?_
    exact s_lreturn d_S_box_50 rfl h
  · have h := h.2 c
    refine s_iload 0 d_S_box_30 rfl ?_
    refine s_iconst d_S_box_32 ?_
    obtain ⟨g1, h⟩ := h
    refine s_icmp_eq d_S_box_33 rfl g1 (by decide) (fun c => ?_) (fun c => ?_)
    · have h := h.1 c
      refine s_ldc2 (v := -1) d_S_box_47 ll_S_288 (by decide) ?_
      exact s_lreturn d_S_box_50 rfl h
    · have h := h.2 c
      refine s_iload 3 d_S_box_36 rfl ?_
      obtain ⟨g2, h⟩ := h
      refine s_if_lt d_S_box_38 rfl g2 (fun c => ?_) (fun c => ?_)
      · have h := h.1 c
        refine s_ldc2 (v := -1) d_S_box_47 ll_S_288 (by decide) ?_
        exact s_lreturn d_S_box_50 rfl h
      · have h := h.2 c
        refine s_iload 3 d_S_box_41 rfl ?_
        refine s_iconst d_S_box_43 ?_
        obtain ⟨g3, h⟩ := h
        refine s_icmp_le d_S_box_44 rfl g3 (by decide) (fun c => ?_) (fun c => ?_)
        · have h := h.1 c
          refine s_aload_n 1 d_S_box_51 rfl rfl ?_
          refine s_aload 5 d_S_box_52 rfl ?_
          refine s_iload_n 2 d_S_box_54 rfl rfl ?_
          refine s_callV (as := [aP x6, aI x1]) (ci := 9) d_S_box_55 ok_S_laidOut lk_S_290 io_S_laidOut so_S_laidOut (by decide) rfl rfl rfl (Nat.le_of_ble_eq_true rfl) rfl (sf_1 hF) (WM.mono h ?_)
          rintro _ σ4 ⟨v4, rfl, hp, h⟩
          show WP E m_S_box (d + 1) 58 [(7, aI s0), (0, aP 1), (1, aI x1), (4, aI x4), (5, aI x5), (6, aP x6)] [aP v4] σ4 Q
          refine s_astore d_S_box_58 (by decide) rfl ?_
          refine s_aload 0 d_S_box_60 rfl ?_
          refine s_iload 1 d_S_box_62 rfl ?_
          refine s_iload 4 d_S_box_64 rfl ?_
          obtain ⟨g6, h⟩ := h
          refine s_callV (as := [aI s0, aI x4]) (ci := 2) d_S_box_66 ok_Layout_boxAbove lk_S_294 io_Layout_boxAbove so_Layout_boxAbove (by decide) rfl rfl rfl (Nat.le_of_ble_eq_true rfl) rfl g6 (WM.mono h ?_)
          rintro _ σ5 ⟨v5, rfl, hp, h⟩
          show WP E m_S_box (d + 1) 69 [(8, aP v4), (7, aI s0), (0, aP 1), (1, aI x1), (4, aI x4), (5, aI x5), (6, aP x6)] [aL v5] σ5 Q
          refine s_lstore d_S_box_69 (by decide) rfl ?_
          refine s_aload 1 d_S_box_71 rfl ?_
          refine s_iload 2 d_S_box_73 rfl ?_
          refine s_iload 5 d_S_box_75 rfl ?_
          obtain ⟨g8, h⟩ := h
          refine s_callV (as := [aI s0, aI x4]) (ci := 2) d_S_box_77 ok_Layout_boxBelow lk_S_298 io_Layout_boxBelow so_Layout_boxBelow (by decide) rfl rfl rfl (Nat.le_of_ble_eq_true rfl) rfl g8 (WM.mono h ?_)
          rintro _ σ7 ⟨v7, rfl, hp, h⟩
          show WP E m_S_box (d + 1) 80 [(9, aL v5), (8, aP v4), (7, aI s0), (0, aP 1), (1, aI x1), (4, aI x4), (5, aI x5), (6, aP x6)] [aL v7] σ7 Q
          refine s_lstore d_S_box_80 (by decide) rfl ?_
          refine s_lload 1 d_S_box_82 rfl ?_
          refine s_lload 0 d_S_box_84 rfl ?_
          refine s_iload 7 d_S_box_86 rfl ?_
          refine s_callS (as := [aL v5, aL v7, aI x5]) d_S_box_88 ok_S_fraction lk_S_301 to_S_fraction rfl (Nat.le_of_ble_eq_true rfl) rfl (WM.mono h ?_)
          rintro _ σ9 ⟨v9, rfl, hp, h⟩
          show WP E m_S_box (d + 1) 91 [(11, aL v7), (9, aL v5), (8, aP v4), (7, aI s0), (0, aP 1), (1, aI x1), (4, aI x4), (5, aI x5), (6, aP x6)] [aL v9] σ9 Q
          exact s_lreturn d_S_box_91 rfl h
        · have h := h.2 c
          refine s_ldc2 (v := -1) d_S_box_47 ll_S_288 (by decide) ?_
          exact s_lreturn d_S_box_50 rfl h
theorem d_S_laidOut_0 : decode m_S_laidOut.2.1 0 = .ok (.aload_n 0, 1) := by decide +kernel
theorem d_S_laidOut_1 : decode m_S_laidOut.2.1 1 = .ok (.iload_n 2, 1) := by decide +kernel
theorem d_S_laidOut_2 : decode m_S_laidOut.2.1 2 = .ok (.invokevirtual 158, 3) := by decide +kernel
theorem d_S_laidOut_5 : decode m_S_laidOut.2.1 5 = .ok (.astore_n 3, 1) := by decide +kernel
theorem d_S_laidOut_6 : decode m_S_laidOut.2.1 6 = .ok (.aload_n 0, 1) := by decide +kernel
theorem d_S_laidOut_7 : decode m_S_laidOut.2.1 7 = .ok (.getfield 52, 3) := by decide +kernel
theorem d_S_laidOut_10 : decode m_S_laidOut.2.1 10 = .ok (.aload_n 1, 1) := by decide +kernel
theorem d_S_laidOut_11 : decode m_S_laidOut.2.1 11 = .ok (.aload_n 0, 1) := by decide +kernel
theorem d_S_laidOut_12 : decode m_S_laidOut.2.1 12 = .ok (.getfield 10, 3) := by decide +kernel
theorem d_S_laidOut_15 : decode m_S_laidOut.2.1 15 = .ok (.aload_n 0, 1) := by decide +kernel
theorem d_S_laidOut_16 : decode m_S_laidOut.2.1 16 = .ok (.getfield 23, 3) := by decide +kernel
theorem d_S_laidOut_19 : decode m_S_laidOut.2.1 19 = .ok (.getfield 239, 3) := by decide +kernel
theorem d_S_laidOut_22 : decode m_S_laidOut.2.1 22 = .ok (.invokevirtual 376, 3) := by decide +kernel
theorem d_S_laidOut_25 : decode m_S_laidOut.2.1 25 = .ok (.aload_n 0, 1) := by decide +kernel
theorem d_S_laidOut_26 : decode m_S_laidOut.2.1 26 = .ok (.getfield 52, 3) := by decide +kernel
theorem d_S_laidOut_29 : decode m_S_laidOut.2.1 29 = .ok (.aload_n 1, 1) := by decide +kernel
theorem d_S_laidOut_30 : decode m_S_laidOut.2.1 30 = .ok (.aload_n 0, 1) := by decide +kernel
theorem d_S_laidOut_31 : decode m_S_laidOut.2.1 31 = .ok (.getfield 10, 3) := by decide +kernel
theorem d_S_laidOut_34 : decode m_S_laidOut.2.1 34 = .ok (.aload_n 0, 1) := by decide +kernel
theorem d_S_laidOut_35 : decode m_S_laidOut.2.1 35 = .ok (.getfield 23, 3) := by decide +kernel
theorem d_S_laidOut_38 : decode m_S_laidOut.2.1 38 = .ok (.getfield 236, 3) := by decide +kernel
theorem d_S_laidOut_41 : decode m_S_laidOut.2.1 41 = .ok (.invokevirtual 380, 3) := by decide +kernel
theorem d_S_laidOut_44 : decode m_S_laidOut.2.1 44 = .ok (.aload_n 3, 1) := by decide +kernel
theorem d_S_laidOut_45 : decode m_S_laidOut.2.1 45 = .ok (.ifnull 24, 3) := by decide +kernel
theorem d_S_laidOut_48 : decode m_S_laidOut.2.1 48 = .ok (.aload_n 3, 1) := by decide +kernel
theorem d_S_laidOut_49 : decode m_S_laidOut.2.1 49 = .ok (.getfield 221, 3) := by decide +kernel
theorem d_S_laidOut_52 : decode m_S_laidOut.2.1 52 = .ok (.ifCond .eq 17, 3) := by decide +kernel
theorem d_S_laidOut_55 : decode m_S_laidOut.2.1 55 = .ok (.aload_n 0, 1) := by decide +kernel
theorem d_S_laidOut_56 : decode m_S_laidOut.2.1 56 = .ok (.getfield 52, 3) := by decide +kernel
theorem d_S_laidOut_59 : decode m_S_laidOut.2.1 59 = .ok (.aload_n 0, 1) := by decide +kernel
theorem d_S_laidOut_60 : decode m_S_laidOut.2.1 60 = .ok (.getfield 23, 3) := by decide +kernel
theorem d_S_laidOut_63 : decode m_S_laidOut.2.1 63 = .ok (.getfield 236, 3) := by decide +kernel
theorem d_S_laidOut_66 : decode m_S_laidOut.2.1 66 = .ok (.invokevirtual 383, 3) := by decide +kernel
theorem d_S_laidOut_69 : decode m_S_laidOut.2.1 69 = .ok (.aload_n 0, 1) := by decide +kernel
theorem d_S_laidOut_70 : decode m_S_laidOut.2.1 70 = .ok (.getfield 52, 3) := by decide +kernel
theorem d_S_laidOut_73 : decode m_S_laidOut.2.1 73 = .ok (.areturn, 1) := by decide +kernel
theorem b_S_laidOut_0 {E : EV} {d : Nat} {Q : Option AV → St → Prop} {σ : St} (x1 x2 : Int) (hF : Fix σ) (h : (WMr E m_S_lineAt d [aP 1, aI x2] σ (fun v1 σ1 => Fix σ1 ∧ (sh σ1 (σ1.1 1 1) = some (4, 3)) ∧ (WMv E m_Layout_measure d [aP 23, aP x1, aP (σ1.1 1 0), aI (σ1.1 (σ1.1 1 1) 2)] σ1 (fun σ3 => Fix σ3 ∧ (sh σ3 (σ3.1 1 1) = some (4, 3)) ∧ (WMv E m_Layout_place d [aP 23, aP x1, aP (σ3.1 1 0), aI (σ3.1 (σ3.1 1 1) 1)] σ3 (fun σ5 => Fix σ5 ∧ ((v1 = 0 → Q (some (aP 23)) σ5) ∧ (¬ v1 = 0 → (sh σ5 v1 = some (3, 2)) ∧ (rI (σ5.1 v1 1)) ∧ (((σ5.1 v1 1) = 0 → Q (some (aP 23)) σ5) ∧ (¬ (σ5.1 v1 1) = 0 → (sh σ5 (σ5.1 1 1) = some (4, 3)) ∧ (WMv E m_Layout_mirrorAll d [aP 23, aI (σ5.1 (σ5.1 1 1) 1)] σ5 (fun σ9 => Fix σ9 ∧ Q (some (aP 23)) σ9))))))))))))) : WP E m_S_laidOut (d + 1) 0 [(0, aP 1), (1, aP x1), (2, aI x2)] [] σ Q := by
  refine s_aload_n 0 d_S_laidOut_0 rfl rfl ?_
  refine s_iload_n 2 d_S_laidOut_1 rfl rfl ?_
  refine s_callV (as := [aI x2]) (ci := 9) d_S_laidOut_2 ok_S_lineAt lk_S_158 io_S_lineAt so_S_lineAt (by decide) rfl rfl rfl (Nat.le_of_ble_eq_true rfl) rfl (sf_1 hF) (WM.mono h ?_)
  rintro _ σ1 ⟨v1, rfl, hp, h⟩
  obtain ⟨hF1, h⟩ := h
  show WP E m_S_laidOut (d + 1) 5 [(0, aP 1), (1, aP x1), (2, aI x2)] [aP v1] σ1 Q
  refine s_astore_n d_S_laidOut_5 rfl (by decide) rfl ?_
  refine s_aload_n 1 d_S_laidOut_6 rfl rfl ?_
  refine s_getF (v := 23) d_S_laidOut_7 fl_S_52 rfl (sf_1 hF1) (ff_3 hF1) ?_
  refine s_aload_n 2 d_S_laidOut_10 rfl rfl ?_
  refine s_aload_n 1 d_S_laidOut_11 rfl rfl ?_
  refine s_getF (v := σ1.1 1 0) d_S_laidOut_12 fl_S_10 rfl (sf_1 hF1) rfl ?_
  refine s_aload_n 1 d_S_laidOut_15 rfl rfl ?_
  refine s_getF (v := σ1.1 1 1) d_S_laidOut_16 fl_S_23 rfl (sf_1 hF1) rfl ?_
  obtain ⟨g2, h⟩ := h
  refine s_getF (v := σ1.1 (σ1.1 1 1) 2) d_S_laidOut_19 fl_S_239 rfl g2 rfl ?_
  refine s_callV (as := [aP x1, aP (σ1.1 1 0), aI (σ1.1 (σ1.1 1 1) 2)]) (ci := 2) d_S_laidOut_22 ok_Layout_measure lk_S_376 io_Layout_measure so_Layout_measure (by decide) rfl rfl rfl (Nat.le_of_ble_eq_true rfl) rfl (sf_23 hF1) (WM.mono h ?_)
  rintro _ σ3 ⟨rfl, hp, h⟩
  obtain ⟨hF3, h⟩ := h
  show WP E m_S_laidOut (d + 1) 25 [(3, aP v1), (0, aP 1), (1, aP x1), (2, aI x2)] [] σ3 Q
  refine s_aload_n 1 d_S_laidOut_25 rfl rfl ?_
  refine s_getF (v := 23) d_S_laidOut_26 fl_S_52 rfl (sf_1 hF3) (ff_3 hF3) ?_
  refine s_aload_n 2 d_S_laidOut_29 rfl rfl ?_
  refine s_aload_n 1 d_S_laidOut_30 rfl rfl ?_
  refine s_getF (v := σ3.1 1 0) d_S_laidOut_31 fl_S_10 rfl (sf_1 hF3) rfl ?_
  refine s_aload_n 1 d_S_laidOut_34 rfl rfl ?_
  refine s_getF (v := σ3.1 1 1) d_S_laidOut_35 fl_S_23 rfl (sf_1 hF3) rfl ?_
  obtain ⟨g4, h⟩ := h
  refine s_getF (v := σ3.1 (σ3.1 1 1) 1) d_S_laidOut_38 fl_S_236 rfl g4 rfl ?_
  refine s_callV (as := [aP x1, aP (σ3.1 1 0), aI (σ3.1 (σ3.1 1 1) 1)]) (ci := 2) d_S_laidOut_41 ok_Layout_place lk_S_380 io_Layout_place so_Layout_place (by decide) rfl rfl rfl (Nat.le_of_ble_eq_true rfl) rfl (sf_23 hF3) (WM.mono h ?_)
  rintro _ σ5 ⟨rfl, hp, h⟩
  obtain ⟨hF5, h⟩ := h
  show WP E m_S_laidOut (d + 1) 44 [(3, aP v1), (0, aP 1), (1, aP x1), (2, aI x2)] [] σ5 Q
  refine s_aload_n 0 d_S_laidOut_44 rfl rfl ?_
  refine s_ifnull d_S_laidOut_45 rfl (fun c => ?_) (fun c => ?_)
  · have h := h.1 c
    refine s_aload_n 1 d_S_laidOut_69 rfl rfl ?_
    refine s_getF (v := 23) d_S_laidOut_70 fl_S_52 rfl (sf_1 hF5) (ff_3 hF5) ?_
    exact s_areturn d_S_laidOut_73 rfl (Or.inl ⟨_, rfl⟩) h
  · have h := h.2 c
    refine s_aload_n 0 d_S_laidOut_48 rfl rfl ?_
    obtain ⟨g6, h⟩ := h
    refine s_getF (v := σ5.1 v1 1) d_S_laidOut_49 fl_S_221 rfl g6 rfl ?_
    obtain ⟨g7, h⟩ := h
    refine s_if_eq d_S_laidOut_52 rfl g7 (fun c => ?_) (fun c => ?_)
    · have h := h.1 c
      refine s_aload_n 1 d_S_laidOut_69 rfl rfl ?_
      refine s_getF (v := 23) d_S_laidOut_70 fl_S_52 rfl (sf_1 hF5) (ff_3 hF5) ?_
      exact s_areturn d_S_laidOut_73 rfl (Or.inl ⟨_, rfl⟩) h
    · have h := h.2 c
      refine s_aload_n 1 d_S_laidOut_55 rfl rfl ?_
      refine s_getF (v := 23) d_S_laidOut_56 fl_S_52 rfl (sf_1 hF5) (ff_3 hF5) ?_
      refine s_aload_n 1 d_S_laidOut_59 rfl rfl ?_
      refine s_getF (v := σ5.1 1 1) d_S_laidOut_60 fl_S_23 rfl (sf_1 hF5) rfl ?_
      obtain ⟨g8, h⟩ := h
      refine s_getF (v := σ5.1 (σ5.1 1 1) 1) d_S_laidOut_63 fl_S_236 rfl g8 rfl ?_
      refine s_callV (as := [aI (σ5.1 (σ5.1 1 1) 1)]) (ci := 2) d_S_laidOut_66 ok_Layout_mirrorAll lk_S_383 io_Layout_mirrorAll so_Layout_mirrorAll (by decide) rfl rfl rfl (Nat.le_of_ble_eq_true rfl) rfl (sf_23 hF5) (WM.mono h ?_)
      rintro _ σ9 ⟨rfl, hp, h⟩
      obtain ⟨hF9, h⟩ := h
      show WP E m_S_laidOut (d + 1) 69 [(3, aP v1), (0, aP 1), (1, aP x1), (2, aI x2)] [] σ9 Q
      refine s_aload_n 1 d_S_laidOut_69 rfl rfl ?_
      refine s_getF (v := 23) d_S_laidOut_70 fl_S_52 rfl (sf_1 hF9) (ff_3 hF9) ?_
      exact s_areturn d_S_laidOut_73 rfl (Or.inl ⟨_, rfl⟩) h
theorem e_S_laidOut {E : EV} {d : Nat} {Q : Option AV → St → Prop} {σ : St} (x1 x2 : Int) (hF : Fix σ) (h : (WMr E m_S_lineAt d [aP 1, aI x2] σ (fun v1 σ1 => Fix σ1 ∧ (sh σ1 (σ1.1 1 1) = some (4, 3)) ∧ (WMv E m_Layout_measure d [aP 23, aP x1, aP (σ1.1 1 0), aI (σ1.1 (σ1.1 1 1) 2)] σ1 (fun σ3 => Fix σ3 ∧ (sh σ3 (σ3.1 1 1) = some (4, 3)) ∧ (WMv E m_Layout_place d [aP 23, aP x1, aP (σ3.1 1 0), aI (σ3.1 (σ3.1 1 1) 1)] σ3 (fun σ5 => Fix σ5 ∧ ((v1 = 0 → Q (some (aP 23)) σ5) ∧ (¬ v1 = 0 → (sh σ5 v1 = some (3, 2)) ∧ (rI (σ5.1 v1 1)) ∧ (((σ5.1 v1 1) = 0 → Q (some (aP 23)) σ5) ∧ (¬ (σ5.1 v1 1) = 0 → (sh σ5 (σ5.1 1 1) = some (4, 3)) ∧ (WMv E m_Layout_mirrorAll d [aP 23, aI (σ5.1 (σ5.1 1 1) 1)] σ5 (fun σ9 => Fix σ9 ∧ Q (some (aP 23)) σ9))))))))))))) : WM E m_S_laidOut (d + 1) [aP 1, aP x1, aI x2] σ Q := s_meth (by decide) (Nat.le_of_ble_eq_true rfl) rfl (b_S_laidOut_0 x1 x2 hF h)
theorem d_S_at_0 : decode m_S_at.2.1 0 = .ok (.aload_n 0, 1) := by decide +kernel
theorem d_S_at_1 : decode m_S_at.2.1 1 = .ok (.iload_n 1, 1) := by decide +kernel
theorem d_S_at_2 : decode m_S_at.2.1 2 = .ok (.iload_n 2, 1) := by decide +kernel
theorem d_S_at_3 : decode m_S_at.2.1 3 = .ok (.invokevirtual 99, 3) := by decide +kernel
theorem d_S_at_6 : decode m_S_at.2.1 6 = .ok (.astore 6, 2) := by decide +kernel
theorem d_S_at_8 : decode m_S_at.2.1 8 = .ok (.aload 6, 2) := by decide +kernel
theorem d_S_at_10 : decode m_S_at.2.1 10 = .ok (.ifnull 31, 3) := by decide +kernel
theorem d_S_at_13 : decode m_S_at.2.1 13 = .ok (.iload 5, 2) := by decide +kernel
theorem d_S_at_15 : decode m_S_at.2.1 15 = .ok (.iconst 1, 1) := by decide +kernel
theorem d_S_at_16 : decode m_S_at.2.1 16 = .ok (.if_icmp .lt 25, 3) := by decide +kernel
theorem d_S_at_19 : decode m_S_at.2.1 19 = .ok (.iload 5, 2) := by decide +kernel
theorem d_S_at_21 : decode m_S_at.2.1 21 = .ok (.bipush 100, 2) := by decide +kernel
theorem d_S_at_23 : decode m_S_at.2.1 23 = .ok (.if_icmp .gt 18, 3) := by decide +kernel
theorem d_S_at_26 : decode m_S_at.2.1 26 = .ok (.iload_n 3, 1) := by decide +kernel
theorem d_S_at_27 : decode m_S_at.2.1 27 = .ok (.invokestatic 305, 3) := by decide +kernel
theorem d_S_at_30 : decode m_S_at.2.1 30 = .ok (.ifCond .eq 11, 3) := by decide +kernel
theorem d_S_at_33 : decode m_S_at.2.1 33 = .ok (.iload 4, 2) := by decide +kernel
theorem d_S_at_35 : decode m_S_at.2.1 35 = .ok (.invokestatic 305, 3) := by decide +kernel
theorem d_S_at_38 : decode m_S_at.2.1 38 = .ok (.ifCond .ne 5, 3) := by decide +kernel
theorem d_S_at_41 : decode m_S_at.2.1 41 = .ok (.iconst (-1), 1) := by decide +kernel
theorem d_S_at_42 : decode m_S_at.2.1 42 = .ok (.ireturn, 1) := by decide +kernel
theorem d_S_at_43 : decode m_S_at.2.1 43 = .ok (.aload_n 0, 1) := by decide +kernel
theorem d_S_at_44 : decode m_S_at.2.1 44 = .ok (.aload 6, 2) := by decide +kernel
theorem d_S_at_46 : decode m_S_at.2.1 46 = .ok (.iload_n 1, 1) := by decide +kernel
theorem d_S_at_47 : decode m_S_at.2.1 47 = .ok (.invokevirtual 290, 3) := by decide +kernel
theorem d_S_at_50 : decode m_S_at.2.1 50 = .ok (.astore 7, 2) := by decide +kernel
theorem d_S_at_52 : decode m_S_at.2.1 52 = .ok (.aload 6, 2) := by decide +kernel
theorem d_S_at_54 : decode m_S_at.2.1 54 = .ok (.invokevirtual 144, 3) := by decide +kernel
theorem d_S_at_57 : decode m_S_at.2.1 57 = .ok (.iconst 1, 1) := by decide +kernel
theorem d_S_at_58 : decode m_S_at.2.1 58 = .ok (.isub, 1) := by decide +kernel
theorem d_S_at_59 : decode m_S_at.2.1 59 = .ok (.istore 8, 2) := by decide +kernel
theorem d_S_at_61 : decode m_S_at.2.1 61 = .ok (.iload 8, 2) := by decide +kernel
theorem d_S_at_63 : decode m_S_at.2.1 63 = .ok (.ifCond .lt 45, 3) := by decide +kernel
theorem d_S_at_66 : decode m_S_at.2.1 66 = .ok (.aload 6, 2) := by decide +kernel
theorem d_S_at_68 : decode m_S_at.2.1 68 = .ok (.iload 8, 2) := by decide +kernel
theorem d_S_at_70 : decode m_S_at.2.1 70 = .ok (.invokevirtual 113, 3) := by decide +kernel
theorem d_S_at_73 : decode m_S_at.2.1 73 = .ok (.invokestatic 141, 3) := by decide +kernel
theorem d_S_at_76 : decode m_S_at.2.1 76 = .ok (.ifCond .ne 26, 3) := by decide +kernel
theorem d_S_at_79 : decode m_S_at.2.1 79 = .ok (.aload 7, 2) := by decide +kernel
theorem d_S_at_81 : decode m_S_at.2.1 81 = .ok (.iload 8, 2) := by decide +kernel
theorem d_S_at_83 : decode m_S_at.2.1 83 = .ok (.iload_n 3, 1) := by decide +kernel
theorem d_S_at_84 : decode m_S_at.2.1 84 = .ok (.iload 4, 2) := by decide +kernel
theorem d_S_at_86 : decode m_S_at.2.1 86 = .ok (.iload 5, 2) := by decide +kernel
theorem d_S_at_88 : decode m_S_at.2.1 88 = .ok (.invokevirtual 308, 3) := by decide +kernel
theorem d_S_at_91 : decode m_S_at.2.1 91 = .ok (.ifCond .eq 11, 3) := by decide +kernel
theorem d_S_at_94 : decode m_S_at.2.1 94 = .ok (.aload 6, 2) := by decide +kernel
theorem d_S_at_96 : decode m_S_at.2.1 96 = .ok (.iload 8, 2) := by decide +kernel
theorem d_S_at_98 : decode m_S_at.2.1 98 = .ok (.invokevirtual 285, 3) := by decide +kernel
theorem d_S_at_101 : decode m_S_at.2.1 101 = .ok (.ireturn, 1) := by decide +kernel
theorem d_S_at_102 : decode m_S_at.2.1 102 = .ok (.iinc 8 (-1), 3) := by decide +kernel
theorem d_S_at_105 : decode m_S_at.2.1 105 = .ok (.goto (-44), 3) := by decide +kernel
theorem d_S_at_108 : decode m_S_at.2.1 108 = .ok (.bipush (-2), 2) := by decide +kernel
theorem d_S_at_110 : decode m_S_at.2.1 110 = .ok (.ireturn, 1) := by decide +kernel
theorem b_S_at_0 {E : EV} {d : Nat} {Q : Option AV → St → Prop} {σ : St} (x1 x2 x3 x4 x5 : Int) (hF : Fix σ) (h : (WMr E m_S_squareAt d [aP 1, aI x1, aI x2] σ (fun v1 σ1 => Fix σ1 ∧ ((v1 = 0 → Q (some (aI (-1))) σ1) ∧ (¬ v1 = 0 → (rI x5) ∧ ((x5 < 1 → Q (some (aI (-1))) σ1) ∧ (¬ x5 < 1 → (rI x5) ∧ ((100 < x5 → Q (some (aI (-1))) σ1) ∧ (¬ 100 < x5 → (WMi E m_S_isPoint d [aI x3] σ1 (fun v4 σ4 => Fix σ4 ∧ (rI v4) ∧ ((v4 = 0 → Q (some (aI (-1))) σ4) ∧ (¬ v4 = 0 → (WMi E m_S_isPoint d [aI x4] σ4 (fun v6 σ6 => Fix σ6 ∧ (rI v6) ∧ ((¬ v6 = 0 → (WMr E m_S_laidOut d [aP 1, aP v1, aI x1] σ6 (fun v8 σ8 => (sh σ8 v1 = some (7, 1)) ∧ (WMi E m_Sq_length d [aP v1] σ8 (fun v9 σ9 => WP E m_S_at (d + 1) 61 [(3, aI x3), (4, aI x4), (5, aI x5), (6, aP v1), (7, aP v8), (8, aI (v9 - 1))] [] σ9 Q))))) ∧ (v6 = 0 → Q (some (aI (-1))) σ6))))))))))))))))) : WP E m_S_at (d + 1) 0 [(0, aP 1), (1, aI x1), (2, aI x2), (3, aI x3), (4, aI x4), (5, aI x5)] [] σ Q := by
  refine s_aload_n 0 d_S_at_0 rfl rfl ?_
  refine s_iload_n 1 d_S_at_1 rfl rfl ?_
  refine s_iload_n 2 d_S_at_2 rfl rfl ?_
  refine s_callV (as := [aI x1, aI x2]) (ci := 9) d_S_at_3 ok_S_squareAt lk_S_99 io_S_squareAt so_S_squareAt (by decide) rfl rfl rfl (Nat.le_of_ble_eq_true rfl) rfl (sf_1 hF) (WM.mono h ?_)
  rintro _ σ1 ⟨v1, rfl, hp, h⟩
  obtain ⟨hF1, h⟩ := h
  show WP E m_S_at (d + 1) 6 [(0, aP 1), (1, aI x1), (2, aI x2), (3, aI x3), (4, aI x4), (5, aI x5)] [aP v1] σ1 Q
  refine s_astore d_S_at_6 (by decide) rfl ?_
  refine s_aload 0 d_S_at_8 rfl ?_
  refine s_ifnull d_S_at_10 rfl (fun c => ?_) (fun c => ?_)
  · have h := h.1 c
    refine s_iconst d_S_at_41 ?_
    exact s_ireturn d_S_at_42 rfl h
  · have h := h.2 c
    refine s_iload 6 d_S_at_13 rfl ?_
    refine s_iconst d_S_at_15 ?_
    obtain ⟨g2, h⟩ := h
    refine s_icmp_lt d_S_at_16 rfl g2 (by decide) (fun c => ?_) (fun c => ?_)
    · have h := h.1 c
      refine s_iconst d_S_at_41 ?_
      exact s_ireturn d_S_at_42 rfl h
    · have h := h.2 c
      refine s_iload 6 d_S_at_19 rfl ?_
      refine s_bipush d_S_at_21 (by decide) ?_
      obtain ⟨g3, h⟩ := h
      refine s_icmp_gt d_S_at_23 rfl g3 (by decide) (fun c => ?_) (fun c => ?_)
      · have h := h.1 c
        refine s_iconst d_S_at_41 ?_
        exact s_ireturn d_S_at_42 rfl h
      · have h := h.2 c
        refine s_iload_n 4 d_S_at_26 rfl rfl ?_
        refine s_callS (as := [aI x3]) d_S_at_27 ok_S_isPoint lk_S_305 to_S_isPoint rfl (Nat.le_of_ble_eq_true rfl) rfl (WM.mono h ?_)
        rintro _ σ4 ⟨v4, rfl, hp, h⟩
        obtain ⟨hF4, h⟩ := h
        show WP E m_S_at (d + 1) 30 [(6, aP v1), (0, aP 1), (1, aI x1), (2, aI x2), (3, aI x3), (4, aI x4), (5, aI x5)] [aI v4] σ4 Q
        obtain ⟨g5, h⟩ := h
        refine s_if_eq d_S_at_30 rfl g5 (fun c => ?_) (fun c => ?_)
        · have h := h.1 c
          refine s_iconst d_S_at_41 ?_
          exact s_ireturn d_S_at_42 rfl h
        · have h := h.2 c
          refine s_iload 5 d_S_at_33 rfl ?_
          refine s_callS (as := [aI x4]) d_S_at_35 ok_S_isPoint lk_S_305 to_S_isPoint rfl (Nat.le_of_ble_eq_true rfl) rfl (WM.mono h ?_)
          rintro _ σ6 ⟨v6, rfl, hp, h⟩
          obtain ⟨hF6, h⟩ := h
          show WP E m_S_at (d + 1) 38 [(6, aP v1), (0, aP 1), (1, aI x1), (2, aI x2), (3, aI x3), (4, aI x4), (5, aI x5)] [aI v6] σ6 Q
          obtain ⟨g7, h⟩ := h
          refine s_if_ne d_S_at_38 rfl g7 (fun c => ?_) (fun c => ?_)
          · have h := h.1 c
            refine s_aload_n 1 d_S_at_43 rfl rfl ?_
            refine s_aload 0 d_S_at_44 rfl ?_
            refine s_iload_n 2 d_S_at_46 rfl rfl ?_
            refine s_callV (as := [aP v1, aI x1]) (ci := 9) d_S_at_47 ok_S_laidOut lk_S_290 io_S_laidOut so_S_laidOut (by decide) rfl rfl rfl (Nat.le_of_ble_eq_true rfl) rfl (sf_1 hF6) (WM.mono h ?_)
            rintro _ σ8 ⟨v8, rfl, hp, h⟩
            show WP E m_S_at (d + 1) 50 [(6, aP v1), (0, aP 1), (1, aI x1), (2, aI x2), (3, aI x3), (4, aI x4), (5, aI x5)] [aP v8] σ8 Q
            refine s_astore d_S_at_50 (by decide) rfl ?_
            refine s_aload 1 d_S_at_52 rfl ?_
            obtain ⟨g10, h⟩ := h
            refine s_callV (as := []) (ci := 7) d_S_at_54 ok_Sq_length lk_S_144 io_Sq_length so_Sq_length (by decide) rfl rfl rfl (Nat.le_of_ble_eq_true rfl) rfl g10 (WM.mono h ?_)
            rintro _ σ9 ⟨v9, rfl, hp, h⟩
            show WP E m_S_at (d + 1) 57 [(7, aP v8), (6, aP v1), (0, aP 1), (1, aI x1), (2, aI x2), (3, aI x3), (4, aI x4), (5, aI x5)] [aI v9] σ9 Q
            refine s_iconst d_S_at_57 ?_
            refine s_isub d_S_at_58 ?_
            refine s_istore d_S_at_59 (by decide) rfl ?_
            refine wp_drop [6, 7, 8, 2, 1, 0] rfl ?_
            exact h
          · have h := h.2 c
            refine s_iconst d_S_at_41 ?_
            exact s_ireturn d_S_at_42 rfl h
theorem e_S_at {E : EV} {d : Nat} {Q : Option AV → St → Prop} {σ : St} (x1 x2 x3 x4 x5 : Int) (hF : Fix σ) (h : (WMr E m_S_squareAt d [aP 1, aI x1, aI x2] σ (fun v1 σ1 => Fix σ1 ∧ ((v1 = 0 → Q (some (aI (-1))) σ1) ∧ (¬ v1 = 0 → (rI x5) ∧ ((x5 < 1 → Q (some (aI (-1))) σ1) ∧ (¬ x5 < 1 → (rI x5) ∧ ((100 < x5 → Q (some (aI (-1))) σ1) ∧ (¬ 100 < x5 → (WMi E m_S_isPoint d [aI x3] σ1 (fun v4 σ4 => Fix σ4 ∧ (rI v4) ∧ ((v4 = 0 → Q (some (aI (-1))) σ4) ∧ (¬ v4 = 0 → (WMi E m_S_isPoint d [aI x4] σ4 (fun v6 σ6 => Fix σ6 ∧ (rI v6) ∧ ((¬ v6 = 0 → (WMr E m_S_laidOut d [aP 1, aP v1, aI x1] σ6 (fun v8 σ8 => (sh σ8 v1 = some (7, 1)) ∧ (WMi E m_Sq_length d [aP v1] σ8 (fun v9 σ9 => WP E m_S_at (d + 1) 61 [(3, aI x3), (4, aI x4), (5, aI x5), (6, aP v1), (7, aP v8), (8, aI (v9 - 1))] [] σ9 Q))))) ∧ (v6 = 0 → Q (some (aI (-1))) σ6))))))))))))))))) : WM E m_S_at (d + 1) [aP 1, aI x1, aI x2, aI x3, aI x4, aI x5] σ Q := s_meth (by decide) (Nat.le_of_ble_eq_true rfl) rfl (b_S_at_0 x1 x2 x3 x4 x5 hF h)
theorem b_S_at_61 {E : EV} {d : Nat} {Q : Option AV → St → Prop} {σ : St} (x3 x4 x5 x6 x7 x8 : Int) (h : (rI x8) ∧ ((x8 < 0 → Q (some (aI (-2))) σ) ∧ (¬ x8 < 0 → (sh σ x6 = some (7, 1)) ∧ (WMi E m_Sq_symbol d [aP x6, aI x8] σ (fun v2 σ2 => (WMi E m_S_isJoint d [aI v2] σ2 (fun v4 σ4 => (rI v4) ∧ ((¬ v4 = 0 → WP E m_S_at (d + 1) 102 [(3, aI x3), (4, aI x4), (5, aI x5), (6, aP x6), (7, aP x7), (8, aI x8)] [] σ4 Q) ∧ (v4 = 0 → (sh σ4 x7 = some (2, 8)) ∧ (WMi E m_Layout_reaches d [aP x7, aI x8, aI x3, aI x4, aI x5] σ4 (fun v6 σ6 => (rI v6) ∧ ((v6 = 0 → WP E m_S_at (d + 1) 102 [(3, aI x3), (4, aI x4), (5, aI x5), (6, aP x6), (7, aP x7), (8, aI x8)] [] σ6 Q) ∧ (¬ v6 = 0 → (sh σ6 x6 = some (7, 1)) ∧ (WMi E m_Sq_numberAt d [aP x6, aI x8] σ6 (fun v9 σ9 => Q (some (aI v9)) σ9))))))))))))))) : WP E m_S_at (d + 1) 61 [(3, aI x3), (4, aI x4), (5, aI x5), (6, aP x6), (7, aP x7), (8, aI x8)] [] σ Q := by
  refine s_iload 5 d_S_at_61 rfl ?_
  obtain ⟨g1, h⟩ := h
  refine s_if_lt d_S_at_63 rfl g1 (fun c => ?_) (fun c => ?_)
  · have h := h.1 c
    refine s_bipush d_S_at_108 (by decide) ?_
    exact s_ireturn d_S_at_110 rfl h
  · have h := h.2 c
    refine s_aload 3 d_S_at_66 rfl ?_
    refine s_iload 5 d_S_at_68 rfl ?_
    obtain ⟨g3, h⟩ := h
    refine s_callV (as := [aI x8]) (ci := 7) d_S_at_70 ok_Sq_symbol lk_S_113 io_Sq_symbol so_Sq_symbol (by decide) rfl rfl rfl (Nat.le_of_ble_eq_true rfl) rfl g3 (WM.mono h ?_)
    rintro _ σ2 ⟨v2, rfl, hp, h⟩
    show WP E m_S_at (d + 1) 73 [(3, aI x3), (4, aI x4), (5, aI x5), (6, aP x6), (7, aP x7), (8, aI x8)] [aI v2] σ2 Q
    refine s_callS (as := [aI v2]) d_S_at_73 ok_S_isJoint lk_S_141 to_S_isJoint rfl (Nat.le_of_ble_eq_true rfl) rfl (WM.mono h ?_)
    rintro _ σ4 ⟨v4, rfl, hp, h⟩
    show WP E m_S_at (d + 1) 76 [(3, aI x3), (4, aI x4), (5, aI x5), (6, aP x6), (7, aP x7), (8, aI x8)] [aI v4] σ4 Q
    obtain ⟨g5, h⟩ := h
    refine s_if_ne d_S_at_76 rfl g5 (fun c => ?_) (fun c => ?_)
    · have h := h.1 c
      exact h
    · have h := h.2 c
      refine s_aload 4 d_S_at_79 rfl ?_
      refine s_iload 5 d_S_at_81 rfl ?_
      refine s_iload_n 0 d_S_at_83 rfl rfl ?_
      refine s_iload 1 d_S_at_84 rfl ?_
      refine s_iload 2 d_S_at_86 rfl ?_
      obtain ⟨g7, h⟩ := h
      refine s_callV (as := [aI x8, aI x3, aI x4, aI x5]) (ci := 2) d_S_at_88 ok_Layout_reaches lk_S_308 io_Layout_reaches so_Layout_reaches (by decide) rfl rfl rfl (Nat.le_of_ble_eq_true rfl) rfl g7 (WM.mono h ?_)
      rintro _ σ6 ⟨v6, rfl, hp, h⟩
      show WP E m_S_at (d + 1) 91 [(3, aI x3), (4, aI x4), (5, aI x5), (6, aP x6), (7, aP x7), (8, aI x8)] [aI v6] σ6 Q
      obtain ⟨g8, h⟩ := h
      refine s_if_eq d_S_at_91 rfl g8 (fun c => ?_) (fun c => ?_)
      · have h := h.1 c
        exact h
      · have h := h.2 c
        refine s_aload 3 d_S_at_94 rfl ?_
        refine s_iload 5 d_S_at_96 rfl ?_
        obtain ⟨g10, h⟩ := h
        refine s_callV (as := [aI x8]) (ci := 7) d_S_at_98 ok_Sq_numberAt lk_S_285 io_Sq_numberAt so_Sq_numberAt (by decide) rfl rfl rfl (Nat.le_of_ble_eq_true rfl) rfl g10 (WM.mono h ?_)
        rintro _ σ9 ⟨v9, rfl, hp, h⟩
        show WP E m_S_at (d + 1) 101 [(3, aI x3), (4, aI x4), (5, aI x5), (6, aP x6), (7, aP x7), (8, aI x8)] [aI v9] σ9 Q
        exact s_ireturn d_S_at_101 rfl h
theorem b_S_at_102 {E : EV} {d : Nat} {Q : Option AV → St → Prop} {σ : St} (x3 x4 x5 x6 x7 x8 : Int) (h : WP E m_S_at (d + 1) 61 [(3, aI x3), (4, aI x4), (5, aI x5), (6, aP x6), (7, aP x7), (8, aI (x8 + (-1)))] [] σ Q) : WP E m_S_at (d + 1) 102 [(3, aI x3), (4, aI x4), (5, aI x5), (6, aP x6), (7, aP x7), (8, aI x8)] [] σ Q := by
  refine s_iinc 5 d_S_at_102 rfl (by decide) rfl ?_
  refine s_goto d_S_at_105 rfl ?_
  refine wp_drop [1, 2, 3, 4, 5, 0] rfl ?_
  exact h
theorem d_S_isPoint_0 : decode m_S_isPoint.2.1 0 = .ok (.iload_n 0, 1) := by decide +kernel
theorem d_S_isPoint_1 : decode m_S_isPoint.2.1 1 = .ok (.sipush (-10000), 3) := by decide +kernel
theorem d_S_isPoint_4 : decode m_S_isPoint.2.1 4 = .ok (.if_icmp .lt 14, 3) := by decide +kernel
theorem d_S_isPoint_7 : decode m_S_isPoint.2.1 7 = .ok (.iload_n 0, 1) := by decide +kernel
theorem d_S_isPoint_8 : decode m_S_isPoint.2.1 8 = .ok (.sipush 10000, 3) := by decide +kernel
theorem d_S_isPoint_11 : decode m_S_isPoint.2.1 11 = .ok (.if_icmp .gt 7, 3) := by decide +kernel
theorem d_S_isPoint_14 : decode m_S_isPoint.2.1 14 = .ok (.iconst 1, 1) := by decide +kernel
theorem d_S_isPoint_15 : decode m_S_isPoint.2.1 15 = .ok (.goto 4, 3) := by decide +kernel
theorem d_S_isPoint_18 : decode m_S_isPoint.2.1 18 = .ok (.iconst 0, 1) := by decide +kernel
theorem d_S_isPoint_19 : decode m_S_isPoint.2.1 19 = .ok (.ireturn, 1) := by decide +kernel
theorem b_S_isPoint_0 {E : EV} {d : Nat} {Q : Option AV → St → Prop} {σ : St} (x0 : Int) (h : (rI x0) ∧ ((x0 < (-10000) → Q (some (aI 0)) σ) ∧ (¬ x0 < (-10000) → (rI x0) ∧ ((10000 < x0 → Q (some (aI 0)) σ) ∧ (¬ 10000 < x0 → Q (some (aI 1)) σ))))) : WP E m_S_isPoint d 0 [(0, aI x0)] [] σ Q := by
  refine s_iload_n 0 d_S_isPoint_0 rfl rfl ?_
  refine s_sipush d_S_isPoint_1 (by decide) ?_
  obtain ⟨g1, h⟩ := h
  refine s_icmp_lt d_S_isPoint_4 rfl g1 (by decide) (fun c => ?_) (fun c => ?_)
  · have h := h.1 c
    refine s_iconst d_S_isPoint_18 ?_
    exact s_zreturn d_S_isPoint_19 rfl (by decide) h
  · have h := h.2 c
    refine s_iload_n 0 d_S_isPoint_7 rfl rfl ?_
    refine s_sipush d_S_isPoint_8 (by decide) ?_
    obtain ⟨g2, h⟩ := h
    refine s_icmp_gt d_S_isPoint_11 rfl g2 (by decide) (fun c => ?_) (fun c => ?_)
    · have h := h.1 c
      refine s_iconst d_S_isPoint_18 ?_
      exact s_zreturn d_S_isPoint_19 rfl (by decide) h
    · have h := h.2 c
      refine s_iconst d_S_isPoint_14 ?_
      refine s_goto d_S_isPoint_15 rfl ?_
      exact s_zreturn d_S_isPoint_19 rfl (by decide) h
theorem e_S_isPoint {E : EV} {d : Nat} {Q : Option AV → St → Prop} {σ : St} (x0 : Int) (h : (rI x0) ∧ ((x0 < (-10000) → Q (some (aI 0)) σ) ∧ (¬ x0 < (-10000) → (rI x0) ∧ ((10000 < x0 → Q (some (aI 0)) σ) ∧ (¬ 10000 < x0 → Q (some (aI 1)) σ))))) : WM E m_S_isPoint d [aI x0] σ Q := s_meth (by decide) (Nat.le_of_ble_eq_true rfl) rfl (b_S_isPoint_0 x0 h)
theorem d_S_column_0 : decode m_S_column.2.1 0 = .ok (.aload_n 0, 1) := by decide +kernel
theorem d_S_column_1 : decode m_S_column.2.1 1 = .ok (.iload_n 1, 1) := by decide +kernel
theorem d_S_column_2 : decode m_S_column.2.1 2 = .ok (.invokevirtual 158, 3) := by decide +kernel
theorem d_S_column_5 : decode m_S_column.2.1 5 = .ok (.astore_n 3, 1) := by decide +kernel
theorem d_S_column_6 : decode m_S_column.2.1 6 = .ok (.aload_n 3, 1) := by decide +kernel
theorem d_S_column_7 : decode m_S_column.2.1 7 = .ok (.ifnull 11, 3) := by decide +kernel
theorem d_S_column_10 : decode m_S_column.2.1 10 = .ok (.aload_n 3, 1) := by decide +kernel
theorem d_S_column_11 : decode m_S_column.2.1 11 = .ok (.iload_n 2, 1) := by decide +kernel
theorem d_S_column_12 : decode m_S_column.2.1 12 = .ok (.invokevirtual 212, 3) := by decide +kernel
theorem d_S_column_15 : decode m_S_column.2.1 15 = .ok (.ifCond .ne 5, 3) := by decide +kernel
theorem d_S_column_18 : decode m_S_column.2.1 18 = .ok (.iconst (-1), 1) := by decide +kernel
theorem d_S_column_19 : decode m_S_column.2.1 19 = .ok (.ireturn, 1) := by decide +kernel
theorem d_S_column_20 : decode m_S_column.2.1 20 = .ok (.aload_n 3, 1) := by decide +kernel
theorem d_S_column_21 : decode m_S_column.2.1 21 = .ok (.getfield 221, 3) := by decide +kernel
theorem d_S_column_24 : decode m_S_column.2.1 24 = .ok (.ifCond .eq 14, 3) := by decide +kernel
theorem d_S_column_27 : decode m_S_column.2.1 27 = .ok (.aload_n 3, 1) := by decide +kernel
theorem d_S_column_28 : decode m_S_column.2.1 28 = .ok (.invokevirtual 170, 3) := by decide +kernel
theorem d_S_column_31 : decode m_S_column.2.1 31 = .ok (.iconst 1, 1) := by decide +kernel
theorem d_S_column_32 : decode m_S_column.2.1 32 = .ok (.isub, 1) := by decide +kernel
theorem d_S_column_33 : decode m_S_column.2.1 33 = .ok (.iload_n 2, 1) := by decide +kernel
theorem d_S_column_34 : decode m_S_column.2.1 34 = .ok (.isub, 1) := by decide +kernel
theorem d_S_column_35 : decode m_S_column.2.1 35 = .ok (.goto 4, 3) := by decide +kernel
theorem d_S_column_38 : decode m_S_column.2.1 38 = .ok (.iload_n 2, 1) := by decide +kernel
theorem d_S_column_39 : decode m_S_column.2.1 39 = .ok (.ireturn, 1) := by decide +kernel
theorem b_S_column_0 {E : EV} {d : Nat} {Q : Option AV → St → Prop} {σ : St} (x1 x2 : Int) (hF : Fix σ) (h : (WMr E m_S_lineAt d [aP 1, aI x1] σ (fun v1 σ1 => ((v1 = 0 → Q (some (aI (-1))) σ1) ∧ (¬ v1 = 0 → (sh σ1 v1 = some (3, 2)) ∧ (WMi E m_Line_has d [aP v1, aI x2] σ1 (fun v2 σ2 => (rI v2) ∧ ((¬ v2 = 0 → (sh σ2 v1 = some (3, 2)) ∧ (rI (σ2.1 v1 1)) ∧ (((σ2.1 v1 1) = 0 → Q (some (aI x2)) σ2) ∧ (¬ (σ2.1 v1 1) = 0 → (sh σ2 v1 = some (3, 2)) ∧ (WMi E m_Line_size d [aP v1] σ2 (fun v7 σ7 => Q (some (aI ((v7 - 1) - x2))) σ7))))) ∧ (v2 = 0 → Q (some (aI (-1))) σ2))))))))) : WP E m_S_column (d + 1) 0 [(0, aP 1), (1, aI x1), (2, aI x2)] [] σ Q := by
  refine s_aload_n 0 d_S_column_0 rfl rfl ?_
  refine s_iload_n 1 d_S_column_1 rfl rfl ?_
  refine s_callV (as := [aI x1]) (ci := 9) d_S_column_2 ok_S_lineAt lk_S_158 io_S_lineAt so_S_lineAt (by decide) rfl rfl rfl (Nat.le_of_ble_eq_true rfl) rfl (sf_1 hF) (WM.mono h ?_)
  rintro _ σ1 ⟨v1, rfl, hp, h⟩
  show WP E m_S_column (d + 1) 5 [(0, aP 1), (1, aI x1), (2, aI x2)] [aP v1] σ1 Q
  refine s_astore_n d_S_column_5 rfl (by decide) rfl ?_
  refine s_aload_n 0 d_S_column_6 rfl rfl ?_
  refine s_ifnull d_S_column_7 rfl (fun c => ?_) (fun c => ?_)
  · have h := h.1 c
    refine s_iconst d_S_column_18 ?_
    exact s_ireturn d_S_column_19 rfl h
  · have h := h.2 c
    refine s_aload_n 0 d_S_column_10 rfl rfl ?_
    refine s_iload_n 3 d_S_column_11 rfl rfl ?_
    obtain ⟨g3, h⟩ := h
    refine s_callV (as := [aI x2]) (ci := 3) d_S_column_12 ok_Line_has lk_S_212 io_Line_has so_Line_has (by decide) rfl rfl rfl (Nat.le_of_ble_eq_true rfl) rfl g3 (WM.mono h ?_)
    rintro _ σ2 ⟨v2, rfl, hp, h⟩
    show WP E m_S_column (d + 1) 15 [(3, aP v1), (0, aP 1), (1, aI x1), (2, aI x2)] [aI v2] σ2 Q
    obtain ⟨g4, h⟩ := h
    refine s_if_ne d_S_column_15 rfl g4 (fun c => ?_) (fun c => ?_)
    · have h := h.1 c
      refine s_aload_n 0 d_S_column_20 rfl rfl ?_
      obtain ⟨g5, h⟩ := h
      refine s_getF (v := σ2.1 v1 1) d_S_column_21 fl_S_221 rfl g5 rfl ?_
      obtain ⟨g6, h⟩ := h
      refine s_if_eq d_S_column_24 rfl g6 (fun c => ?_) (fun c => ?_)
      · have h := h.1 c
        refine s_iload_n 3 d_S_column_38 rfl rfl ?_
        exact s_ireturn d_S_column_39 rfl h
      · have h := h.2 c
        refine s_aload_n 0 d_S_column_27 rfl rfl ?_
        obtain ⟨g8, h⟩ := h
        refine s_callV (as := []) (ci := 3) d_S_column_28 ok_Line_size lk_S_170 io_Line_size so_Line_size (by decide) rfl rfl rfl (Nat.le_of_ble_eq_true rfl) rfl g8 (WM.mono h ?_)
        rintro _ σ7 ⟨v7, rfl, hp, h⟩
        show WP E m_S_column (d + 1) 31 [(3, aP v1), (0, aP 1), (1, aI x1), (2, aI x2)] [aI v7] σ7 Q
        refine s_iconst d_S_column_31 ?_
        refine s_isub d_S_column_32 ?_
        refine s_iload_n 3 d_S_column_33 rfl rfl ?_
        refine s_isub d_S_column_34 ?_
        refine s_goto d_S_column_35 rfl ?_
        exact s_ireturn d_S_column_39 rfl h
    · have h := h.2 c
      refine s_iconst d_S_column_18 ?_
      exact s_ireturn d_S_column_19 rfl h
theorem e_S_column {E : EV} {d : Nat} {Q : Option AV → St → Prop} {σ : St} (x1 x2 : Int) (hF : Fix σ) (h : (WMr E m_S_lineAt d [aP 1, aI x1] σ (fun v1 σ1 => ((v1 = 0 → Q (some (aI (-1))) σ1) ∧ (¬ v1 = 0 → (sh σ1 v1 = some (3, 2)) ∧ (WMi E m_Line_has d [aP v1, aI x2] σ1 (fun v2 σ2 => (rI v2) ∧ ((¬ v2 = 0 → (sh σ2 v1 = some (3, 2)) ∧ (rI (σ2.1 v1 1)) ∧ (((σ2.1 v1 1) = 0 → Q (some (aI x2)) σ2) ∧ (¬ (σ2.1 v1 1) = 0 → (sh σ2 v1 = some (3, 2)) ∧ (WMi E m_Line_size d [aP v1] σ2 (fun v7 σ7 => Q (some (aI ((v7 - 1) - x2))) σ7))))) ∧ (v2 = 0 → Q (some (aI (-1))) σ2))))))))) : WM E m_S_column (d + 1) [aP 1, aI x1, aI x2] σ Q := s_meth (by decide) (Nat.le_of_ble_eq_true rfl) rfl (b_S_column_0 x1 x2 hF h)
theorem d_S_covered_0 : decode m_S_covered.2.1 0 = .ok (.aload_n 0, 1) := by decide +kernel
theorem d_S_covered_1 : decode m_S_covered.2.1 1 = .ok (.iload_n 1, 1) := by decide +kernel
theorem d_S_covered_2 : decode m_S_covered.2.1 2 = .ok (.iload_n 2, 1) := by decide +kernel
theorem d_S_covered_3 : decode m_S_covered.2.1 3 = .ok (.invokevirtual 99, 3) := by decide +kernel
theorem d_S_covered_6 : decode m_S_covered.2.1 6 = .ok (.astore 4, 2) := by decide +kernel
theorem d_S_covered_8 : decode m_S_covered.2.1 8 = .ok (.aload 4, 2) := by decide +kernel
theorem d_S_covered_10 : decode m_S_covered.2.1 10 = .ok (.ifnonnull 7, 3) := by decide +kernel
theorem d_S_covered_13 : decode m_S_covered.2.1 13 = .ok (.ldc2_w 288, 3) := by decide +kernel
theorem d_S_covered_16 : decode m_S_covered.2.1 16 = .ok (.lreturn, 1) := by decide +kernel
theorem d_S_covered_17 : decode m_S_covered.2.1 17 = .ok (.lconst 0, 1) := by decide +kernel
theorem d_S_covered_18 : decode m_S_covered.2.1 18 = .ok (.lstore 5, 2) := by decide +kernel
theorem d_S_covered_20 : decode m_S_covered.2.1 20 = .ok (.iconst 0, 1) := by decide +kernel
theorem d_S_covered_21 : decode m_S_covered.2.1 21 = .ok (.istore 7, 2) := by decide +kernel
theorem d_S_covered_23 : decode m_S_covered.2.1 23 = .ok (.iload 7, 2) := by decide +kernel
theorem d_S_covered_25 : decode m_S_covered.2.1 25 = .ok (.aload 4, 2) := by decide +kernel
theorem d_S_covered_27 : decode m_S_covered.2.1 27 = .ok (.invokevirtual 144, 3) := by decide +kernel
theorem d_S_covered_30 : decode m_S_covered.2.1 30 = .ok (.if_icmp .ge 69, 3) := by decide +kernel
theorem d_S_covered_33 : decode m_S_covered.2.1 33 = .ok (.aload 4, 2) := by decide +kernel
theorem d_S_covered_35 : decode m_S_covered.2.1 35 = .ok (.iload 7, 2) := by decide +kernel
theorem d_S_covered_37 : decode m_S_covered.2.1 37 = .ok (.invokevirtual 113, 3) := by decide +kernel
theorem d_S_covered_40 : decode m_S_covered.2.1 40 = .ok (.istore 8, 2) := by decide +kernel
theorem d_S_covered_42 : decode m_S_covered.2.1 42 = .ok (.iload 8, 2) := by decide +kernel
theorem d_S_covered_44 : decode m_S_covered.2.1 44 = .ok (.invokestatic 141, 3) := by decide +kernel
theorem d_S_covered_47 : decode m_S_covered.2.1 47 = .ok (.ifCond .ne 46, 3) := by decide +kernel
theorem d_S_covered_50 : decode m_S_covered.2.1 50 = .ok (.aload 4, 2) := by decide +kernel
theorem d_S_covered_52 : decode m_S_covered.2.1 52 = .ok (.iload 7, 2) := by decide +kernel
theorem d_S_covered_54 : decode m_S_covered.2.1 54 = .ok (.invokevirtual 148, 3) := by decide +kernel
theorem d_S_covered_57 : decode m_S_covered.2.1 57 = .ok (.iconst (-1), 1) := by decide +kernel
theorem d_S_covered_58 : decode m_S_covered.2.1 58 = .ok (.if_icmp .ne 35, 3) := by decide +kernel
theorem d_S_covered_61 : decode m_S_covered.2.1 61 = .ok (.lload 5, 2) := by decide +kernel
theorem d_S_covered_63 : decode m_S_covered.2.1 63 = .ok (.aload_n 0, 1) := by decide +kernel
theorem d_S_covered_64 : decode m_S_covered.2.1 64 = .ok (.getfield 10, 3) := by decide +kernel
theorem d_S_covered_67 : decode m_S_covered.2.1 67 = .ok (.iload 8, 2) := by decide +kernel
theorem d_S_covered_69 : decode m_S_covered.2.1 69 = .ok (.invokestatic 116, 3) := by decide +kernel
theorem d_S_covered_72 : decode m_S_covered.2.1 72 = .ok (.invokevirtual 246, 3) := by decide +kernel
theorem d_S_covered_75 : decode m_S_covered.2.1 75 = .ok (.i2l, 1) := by decide +kernel
theorem d_S_covered_76 : decode m_S_covered.2.1 76 = .ok (.aload_n 0, 1) := by decide +kernel
theorem d_S_covered_77 : decode m_S_covered.2.1 77 = .ok (.getfield 10, 3) := by decide +kernel
theorem d_S_covered_80 : decode m_S_covered.2.1 80 = .ok (.iload 8, 2) := by decide +kernel
theorem d_S_covered_82 : decode m_S_covered.2.1 82 = .ok (.invokestatic 116, 3) := by decide +kernel
theorem d_S_covered_85 : decode m_S_covered.2.1 85 = .ok (.invokevirtual 249, 3) := by decide +kernel
theorem d_S_covered_88 : decode m_S_covered.2.1 88 = .ok (.i2l, 1) := by decide +kernel
theorem d_S_covered_89 : decode m_S_covered.2.1 89 = .ok (.lmul, 1) := by decide +kernel
theorem d_S_covered_90 : decode m_S_covered.2.1 90 = .ok (.ladd, 1) := by decide +kernel
theorem d_S_covered_91 : decode m_S_covered.2.1 91 = .ok (.lstore 5, 2) := by decide +kernel
theorem d_S_covered_93 : decode m_S_covered.2.1 93 = .ok (.iinc 7 1, 3) := by decide +kernel
theorem d_S_covered_96 : decode m_S_covered.2.1 96 = .ok (.goto (-73), 3) := by decide +kernel
theorem d_S_covered_99 : decode m_S_covered.2.1 99 = .ok (.aload_n 0, 1) := by decide +kernel
theorem d_S_covered_100 : decode m_S_covered.2.1 100 = .ok (.aload 4, 2) := by decide +kernel
theorem d_S_covered_102 : decode m_S_covered.2.1 102 = .ok (.invokevirtual 312, 3) := by decide +kernel
theorem d_S_covered_105 : decode m_S_covered.2.1 105 = .ok (.i2l, 1) := by decide +kernel
theorem d_S_covered_106 : decode m_S_covered.2.1 106 = .ok (.lstore 7, 2) := by decide +kernel
theorem d_S_covered_108 : decode m_S_covered.2.1 108 = .ok (.lload 5, 2) := by decide +kernel
theorem d_S_covered_110 : decode m_S_covered.2.1 110 = .ok (.lload 7, 2) := by decide +kernel
theorem d_S_covered_112 : decode m_S_covered.2.1 112 = .ok (.lload 7, 2) := by decide +kernel
theorem d_S_covered_114 : decode m_S_covered.2.1 114 = .ok (.lmul, 1) := by decide +kernel
theorem d_S_covered_115 : decode m_S_covered.2.1 115 = .ok (.iload_n 3, 1) := by decide +kernel
theorem d_S_covered_116 : decode m_S_covered.2.1 116 = .ok (.invokestatic 301, 3) := by decide +kernel
theorem d_S_covered_119 : decode m_S_covered.2.1 119 = .ok (.lreturn, 1) := by decide +kernel
theorem b_S_covered_0 {E : EV} {d : Nat} {Q : Option AV → St → Prop} {σ : St} (x1 x2 x3 : Int) (hF : Fix σ) (h : (WMr E m_S_squareAt d [aP 1, aI x1, aI x2] σ (fun v1 σ1 => ((¬ v1 = 0 → WP E m_S_covered (d + 1) 23 [(0, aP 1), (3, aI x3), (4, aP v1), (5, aL 0), (7, aI 0)] [] σ1 Q) ∧ (v1 = 0 → Q (some (aL (-1))) σ1))))) : WP E m_S_covered (d + 1) 0 [(0, aP 1), (1, aI x1), (2, aI x2), (3, aI x3)] [] σ Q := by
  refine s_aload_n 0 d_S_covered_0 rfl rfl ?_
  refine s_iload_n 1 d_S_covered_1 rfl rfl ?_
  refine s_iload_n 2 d_S_covered_2 rfl rfl ?_
  refine s_callV (as := [aI x1, aI x2]) (ci := 9) d_S_covered_3 ok_S_squareAt lk_S_99 io_S_squareAt so_S_squareAt (by decide) rfl rfl rfl (Nat.le_of_ble_eq_true rfl) rfl (sf_1 hF) (WM.mono h ?_)
  rintro _ σ1 ⟨v1, rfl, hp, h⟩
  show WP E m_S_covered (d + 1) 6 [(0, aP 1), (1, aI x1), (2, aI x2), (3, aI x3)] [aP v1] σ1 Q
  refine s_astore d_S_covered_6 (by decide) rfl ?_
  refine s_aload 0 d_S_covered_8 rfl ?_
  refine s_ifnonnull d_S_covered_10 rfl (fun c => ?_) (fun c => ?_)
  · have h := h.1 c
    refine s_lconst (v := 0) d_S_covered_17 rfl ?_
    refine s_lstore d_S_covered_18 (by decide) rfl ?_
    refine s_iconst d_S_covered_20 ?_
    refine s_istore d_S_covered_21 (by decide) rfl ?_
    refine wp_drop [3, 6, 2, 1, 0] rfl ?_
    exact h
  · have h := h.2 c
    refine s_ldc2 (v := -1) d_S_covered_13 ll_S_288 (by decide) ?_
    exact s_lreturn d_S_covered_16 rfl h
theorem e_S_covered {E : EV} {d : Nat} {Q : Option AV → St → Prop} {σ : St} (x1 x2 x3 : Int) (hF : Fix σ) (h : (WMr E m_S_squareAt d [aP 1, aI x1, aI x2] σ (fun v1 σ1 => ((¬ v1 = 0 → WP E m_S_covered (d + 1) 23 [(0, aP 1), (3, aI x3), (4, aP v1), (5, aL 0), (7, aI 0)] [] σ1 Q) ∧ (v1 = 0 → Q (some (aL (-1))) σ1))))) : WM E m_S_covered (d + 1) [aP 1, aI x1, aI x2, aI x3] σ Q := s_meth (by decide) (Nat.le_of_ble_eq_true rfl) rfl (b_S_covered_0 x1 x2 x3 hF h)
theorem b_S_covered_23 {E : EV} {d : Nat} {Q : Option AV → St → Prop} {σ : St} (x3 x4 x5 x7 : Int) (hF : Fix σ) (h : (sh σ x4 = some (7, 1)) ∧ (WMi E m_Sq_length d [aP x4] σ (fun v1 σ1 => Fix σ1 ∧ (rI x7) ∧ (rI v1) ∧ ((v1 ≤ x7 → (WMi E m_S_spanOf d [aP 1, aP x4] σ1 (fun v5 σ5 => (rI v5) ∧ (WMl E m_S_fraction d [aL x5, aL (v5 * v5), aI x3] σ5 (fun v7 σ7 => Q (some (aL v7)) σ7))))) ∧ (¬ v1 ≤ x7 → (sh σ1 x4 = some (7, 1)) ∧ (WMi E m_Sq_symbol d [aP x4, aI x7] σ1 (fun v8 σ8 => Fix σ8 ∧ (WMi E m_S_isJoint d [aI v8] σ8 (fun v10 σ10 => Fix σ10 ∧ (rI v10) ∧ ((¬ v10 = 0 → WP E m_S_covered (d + 1) 93 [(0, aP 1), (3, aI x3), (4, aP x4), (5, aL x5), (7, aI x7)] [] σ10 Q) ∧ (v10 = 0 → (sh σ10 x4 = some (7, 1)) ∧ (WMi E m_Sq_holderOf d [aP x4, aI x7] σ10 (fun v12 σ12 => Fix σ12 ∧ (rI v12) ∧ ((¬ v12 = (-1) → WP E m_S_covered (d + 1) 93 [(0, aP 1), (3, aI x3), (4, aP x4), (5, aL x5), (7, aI x7)] [] σ12 Q) ∧ (v12 = (-1) → (WMi E m_S_letterOf d [aI v8] σ12 (fun v15 σ15 => Fix σ15 ∧ (sh σ15 (σ12.1 1 0) = some (8, 4)) ∧ (WMi E m_Table_wideOf d [aP (σ12.1 1 0), aI v15] σ15 (fun v16 σ16 => Fix σ16 ∧ (rI v16) ∧ (WMi E m_S_letterOf d [aI v8] σ16 (fun v19 σ19 => (sh σ19 (σ16.1 1 0) = some (8, 4)) ∧ (WMi E m_Table_highOf d [aP (σ16.1 1 0), aI v19] σ19 (fun v20 σ20 => (rI v20) ∧ WP E m_S_covered (d + 1) 93 [(0, aP 1), (3, aI x3), (4, aP x4), (5, aL (x5 + (v16 * v20))), (7, aI x7)] [] σ20 Q))))))))))))))))))))))) : WP E m_S_covered (d + 1) 23 [(0, aP 1), (3, aI x3), (4, aP x4), (5, aL x5), (7, aI x7)] [] σ Q := by
  refine s_iload 4 d_S_covered_23 rfl ?_
  refine s_aload 2 d_S_covered_25 rfl ?_
  obtain ⟨g2, h⟩ := h
  refine s_callV (as := []) (ci := 7) d_S_covered_27 ok_Sq_length lk_S_144 io_Sq_length so_Sq_length (by decide) rfl rfl rfl (Nat.le_of_ble_eq_true rfl) rfl g2 (WM.mono h ?_)
  rintro _ σ1 ⟨v1, rfl, hp, h⟩
  obtain ⟨hF2, h⟩ := h
  show WP E m_S_covered (d + 1) 30 [(0, aP 1), (3, aI x3), (4, aP x4), (5, aL x5), (7, aI x7)] [aI v1, aI x7] σ1 Q
  obtain ⟨g3, h⟩ := h
  obtain ⟨g4, h⟩ := h
  refine s_icmp_ge d_S_covered_30 rfl g3 g4 (fun c => ?_) (fun c => ?_)
  · have h := h.1 c
    refine s_aload_n 0 d_S_covered_99 rfl rfl ?_
    refine s_aload 2 d_S_covered_100 rfl ?_
    refine s_callV (as := [aP x4]) (ci := 9) d_S_covered_102 ok_S_spanOf lk_S_312 io_S_spanOf so_S_spanOf (by decide) rfl rfl rfl (Nat.le_of_ble_eq_true rfl) rfl (sf_1 hF2) (WM.mono h ?_)
    rintro _ σ5 ⟨v5, rfl, hp, h⟩
    show WP E m_S_covered (d + 1) 105 [(0, aP 1), (3, aI x3), (4, aP x4), (5, aL x5), (7, aI x7)] [aI v5] σ5 Q
    obtain ⟨g6, h⟩ := h
    refine s_i2l d_S_covered_105 g6 ?_
    refine s_lstore d_S_covered_106 (by decide) rfl ?_
    refine s_lload 4 d_S_covered_108 rfl ?_
    refine s_lload 0 d_S_covered_110 rfl ?_
    refine s_lload 0 d_S_covered_112 rfl ?_
    refine s_lmul d_S_covered_114 ?_
    refine s_iload_n 2 d_S_covered_115 rfl rfl ?_
    refine s_callS (as := [aL x5, aL (v5 * v5), aI x3]) d_S_covered_116 ok_S_fraction lk_S_301 to_S_fraction rfl (Nat.le_of_ble_eq_true rfl) rfl (WM.mono h ?_)
    rintro _ σ7 ⟨v7, rfl, hp, h⟩
    show WP E m_S_covered (d + 1) 119 [(7, aL v5), (0, aP 1), (3, aI x3), (4, aP x4), (5, aL x5)] [aL v7] σ7 Q
    exact s_lreturn d_S_covered_119 rfl h
  · have h := h.2 c
    refine s_aload 2 d_S_covered_33 rfl ?_
    refine s_iload 4 d_S_covered_35 rfl ?_
    obtain ⟨g9, h⟩ := h
    refine s_callV (as := [aI x7]) (ci := 7) d_S_covered_37 ok_Sq_symbol lk_S_113 io_Sq_symbol so_Sq_symbol (by decide) rfl rfl rfl (Nat.le_of_ble_eq_true rfl) rfl g9 (WM.mono h ?_)
    rintro _ σ8 ⟨v8, rfl, hp, h⟩
    obtain ⟨hF9, h⟩ := h
    show WP E m_S_covered (d + 1) 40 [(0, aP 1), (3, aI x3), (4, aP x4), (5, aL x5), (7, aI x7)] [aI v8] σ8 Q
    refine s_istore d_S_covered_40 (by decide) rfl ?_
    refine s_iload 0 d_S_covered_42 rfl ?_
    refine s_callS (as := [aI v8]) d_S_covered_44 ok_S_isJoint lk_S_141 to_S_isJoint rfl (Nat.le_of_ble_eq_true rfl) rfl (WM.mono h ?_)
    rintro _ σ10 ⟨v10, rfl, hp, h⟩
    obtain ⟨hF10, h⟩ := h
    show WP E m_S_covered (d + 1) 47 [(8, aI v8), (0, aP 1), (3, aI x3), (4, aP x4), (5, aL x5), (7, aI x7)] [aI v10] σ10 Q
    obtain ⟨g11, h⟩ := h
    refine s_if_ne d_S_covered_47 rfl g11 (fun c => ?_) (fun c => ?_)
    · have h := h.1 c
      refine wp_drop [1, 2, 3, 4, 5] rfl ?_
      exact h
    · have h := h.2 c
      refine s_aload 3 d_S_covered_50 rfl ?_
      refine s_iload 5 d_S_covered_52 rfl ?_
      obtain ⟨g13, h⟩ := h
      refine s_callV (as := [aI x7]) (ci := 7) d_S_covered_54 ok_Sq_holderOf lk_S_148 io_Sq_holderOf so_Sq_holderOf (by decide) rfl rfl rfl (Nat.le_of_ble_eq_true rfl) rfl g13 (WM.mono h ?_)
      rintro _ σ12 ⟨v12, rfl, hp, h⟩
      obtain ⟨hF13, h⟩ := h
      show WP E m_S_covered (d + 1) 57 [(8, aI v8), (0, aP 1), (3, aI x3), (4, aP x4), (5, aL x5), (7, aI x7)] [aI v12] σ12 Q
      refine s_iconst d_S_covered_57 ?_
      obtain ⟨g14, h⟩ := h
      refine s_icmp_ne d_S_covered_58 rfl g14 (by decide) (fun c => ?_) (fun c => ?_)
      · have h := h.1 c
        refine wp_drop [1, 2, 3, 4, 5] rfl ?_
        exact h
      · have h := h.2 c
        refine s_lload 4 d_S_covered_61 rfl ?_
        refine s_aload_n 1 d_S_covered_63 rfl rfl ?_
        refine s_getF (v := σ12.1 1 0) d_S_covered_64 fl_S_10 rfl (sf_1 hF13) rfl ?_
        refine s_iload 0 d_S_covered_67 rfl ?_
        refine s_callS (as := [aI v8]) d_S_covered_69 ok_S_letterOf lk_S_116 to_S_letterOf rfl (Nat.le_of_ble_eq_true rfl) rfl (WM.mono h ?_)
        rintro _ σ15 ⟨v15, rfl, hp, h⟩
        obtain ⟨hF15, h⟩ := h
        show WP E m_S_covered (d + 1) 72 [(8, aI v8), (0, aP 1), (3, aI x3), (4, aP x4), (5, aL x5), (7, aI x7)] [aI v15, aP (σ12.1 1 0), aL x5] σ15 Q
        obtain ⟨g17, h⟩ := h
        refine s_callV (as := [aI v15]) (ci := 8) d_S_covered_72 ok_Table_wideOf lk_S_246 io_Table_wideOf so_Table_wideOf (by decide) rfl rfl rfl (Nat.le_of_ble_eq_true rfl) rfl g17 (WM.mono h ?_)
        rintro _ σ16 ⟨v16, rfl, hp, h⟩
        obtain ⟨hF17, h⟩ := h
        show WP E m_S_covered (d + 1) 75 [(8, aI v8), (0, aP 1), (3, aI x3), (4, aP x4), (5, aL x5), (7, aI x7)] [aI v16, aL x5] σ16 Q
        obtain ⟨g18, h⟩ := h
        refine s_i2l d_S_covered_75 g18 ?_
        refine s_aload_n 1 d_S_covered_76 rfl rfl ?_
        refine s_getF (v := σ16.1 1 0) d_S_covered_77 fl_S_10 rfl (sf_1 hF17) rfl ?_
        refine s_iload 0 d_S_covered_80 rfl ?_
        refine s_callS (as := [aI v8]) d_S_covered_82 ok_S_letterOf lk_S_116 to_S_letterOf rfl (Nat.le_of_ble_eq_true rfl) rfl (WM.mono h ?_)
        rintro _ σ19 ⟨v19, rfl, hp, h⟩
        show WP E m_S_covered (d + 1) 85 [(8, aI v8), (0, aP 1), (3, aI x3), (4, aP x4), (5, aL x5), (7, aI x7)] [aI v19, aP (σ16.1 1 0), aL v16, aL x5] σ19 Q
        obtain ⟨g21, h⟩ := h
        refine s_callV (as := [aI v19]) (ci := 8) d_S_covered_85 ok_Table_highOf lk_S_249 io_Table_highOf so_Table_highOf (by decide) rfl rfl rfl (Nat.le_of_ble_eq_true rfl) rfl g21 (WM.mono h ?_)
        rintro _ σ20 ⟨v20, rfl, hp, h⟩
        show WP E m_S_covered (d + 1) 88 [(8, aI v8), (0, aP 1), (3, aI x3), (4, aP x4), (5, aL x5), (7, aI x7)] [aI v20, aL v16, aL x5] σ20 Q
        obtain ⟨g22, h⟩ := h
        refine s_i2l d_S_covered_88 g22 ?_
        refine s_lmul d_S_covered_89 ?_
        refine s_ladd d_S_covered_90 ?_
        refine s_lstore d_S_covered_91 (by decide) rfl ?_
        refine wp_drop [2, 3, 4, 0, 5] rfl ?_
        exact h
theorem b_S_covered_93 {E : EV} {d : Nat} {Q : Option AV → St → Prop} {σ : St} (x3 x4 x5 x7 : Int) (h : WP E m_S_covered (d + 1) 23 [(0, aP 1), (3, aI x3), (4, aP x4), (5, aL x5), (7, aI (x7 + 1))] [] σ Q) : WP E m_S_covered (d + 1) 93 [(0, aP 1), (3, aI x3), (4, aP x4), (5, aL x5), (7, aI x7)] [] σ Q := by
  refine s_iinc 4 d_S_covered_93 rfl (by decide) rfl ?_
  refine s_goto d_S_covered_96 rfl ?_
  refine wp_drop [1, 2, 3, 4, 0] rfl ?_
  exact h
theorem d_S_smallest_0 : decode m_S_smallest.2.1 0 = .ok (.aload_n 0, 1) := by decide +kernel
theorem d_S_smallest_1 : decode m_S_smallest.2.1 1 = .ok (.iload_n 1, 1) := by decide +kernel
theorem d_S_smallest_2 : decode m_S_smallest.2.1 2 = .ok (.iload_n 2, 1) := by decide +kernel
theorem d_S_smallest_3 : decode m_S_smallest.2.1 3 = .ok (.invokevirtual 99, 3) := by decide +kernel
theorem d_S_smallest_6 : decode m_S_smallest.2.1 6 = .ok (.astore_n 3, 1) := by decide +kernel
theorem d_S_smallest_7 : decode m_S_smallest.2.1 7 = .ok (.aload_n 3, 1) := by decide +kernel
theorem d_S_smallest_8 : decode m_S_smallest.2.1 8 = .ok (.ifnonnull 7, 3) := by decide +kernel
theorem d_S_smallest_11 : decode m_S_smallest.2.1 11 = .ok (.iconst (-1), 1) := by decide +kernel
theorem d_S_smallest_12 : decode m_S_smallest.2.1 12 = .ok (.goto 13, 3) := by decide +kernel
theorem d_S_smallest_15 : decode m_S_smallest.2.1 15 = .ok (.aload_n 0, 1) := by decide +kernel
theorem d_S_smallest_16 : decode m_S_smallest.2.1 16 = .ok (.aload_n 3, 1) := by decide +kernel
theorem d_S_smallest_17 : decode m_S_smallest.2.1 17 = .ok (.iload_n 1, 1) := by decide +kernel
theorem d_S_smallest_18 : decode m_S_smallest.2.1 18 = .ok (.invokevirtual 290, 3) := by decide +kernel
theorem d_S_smallest_21 : decode m_S_smallest.2.1 21 = .ok (.aload_n 3, 1) := by decide +kernel
theorem d_S_smallest_22 : decode m_S_smallest.2.1 22 = .ok (.invokevirtual 316, 3) := by decide +kernel
theorem d_S_smallest_25 : decode m_S_smallest.2.1 25 = .ok (.ireturn, 1) := by decide +kernel
theorem b_S_smallest_0 {E : EV} {d : Nat} {Q : Option AV → St → Prop} {σ : St} (x1 x2 : Int) (hF : Fix σ) (h : (WMr E m_S_squareAt d [aP 1, aI x1, aI x2] σ (fun v1 σ1 => Fix σ1 ∧ ((¬ v1 = 0 → (WMr E m_S_laidOut d [aP 1, aP v1, aI x1] σ1 (fun v2 σ2 => (sh σ2 v2 = some (2, 8)) ∧ (WMi E m_Layout_smallestSigns d [aP v2, aP v1] σ2 (fun v3 σ3 => Q (some (aI v3)) σ3))))) ∧ (v1 = 0 → Q (some (aI (-1))) σ1))))) : WP E m_S_smallest (d + 1) 0 [(0, aP 1), (1, aI x1), (2, aI x2)] [] σ Q := by
  refine s_aload_n 0 d_S_smallest_0 rfl rfl ?_
  refine s_iload_n 1 d_S_smallest_1 rfl rfl ?_
  refine s_iload_n 2 d_S_smallest_2 rfl rfl ?_
  refine s_callV (as := [aI x1, aI x2]) (ci := 9) d_S_smallest_3 ok_S_squareAt lk_S_99 io_S_squareAt so_S_squareAt (by decide) rfl rfl rfl (Nat.le_of_ble_eq_true rfl) rfl (sf_1 hF) (WM.mono h ?_)
  rintro _ σ1 ⟨v1, rfl, hp, h⟩
  obtain ⟨hF1, h⟩ := h
  show WP E m_S_smallest (d + 1) 6 [(0, aP 1), (1, aI x1), (2, aI x2)] [aP v1] σ1 Q
  refine s_astore_n d_S_smallest_6 rfl (by decide) rfl ?_
  refine s_aload_n 0 d_S_smallest_7 rfl rfl ?_
  refine s_ifnonnull d_S_smallest_8 rfl (fun c => ?_) (fun c => ?_)
  · have h := h.1 c
    refine s_aload_n 1 d_S_smallest_15 rfl rfl ?_
    refine s_aload_n 0 d_S_smallest_16 rfl rfl ?_
    refine s_iload_n 2 d_S_smallest_17 rfl rfl ?_
    refine s_callV (as := [aP v1, aI x1]) (ci := 9) d_S_smallest_18 ok_S_laidOut lk_S_290 io_S_laidOut so_S_laidOut (by decide) rfl rfl rfl (Nat.le_of_ble_eq_true rfl) rfl (sf_1 hF1) (WM.mono h ?_)
    rintro _ σ2 ⟨v2, rfl, hp, h⟩
    show WP E m_S_smallest (d + 1) 21 [(3, aP v1), (0, aP 1), (1, aI x1), (2, aI x2)] [aP v2] σ2 Q
    refine s_aload_n 0 d_S_smallest_21 rfl rfl ?_
    obtain ⟨g4, h⟩ := h
    refine s_callV (as := [aP v1]) (ci := 2) d_S_smallest_22 ok_Layout_smallestSigns lk_S_316 io_Layout_smallestSigns so_Layout_smallestSigns (by decide) rfl rfl rfl (Nat.le_of_ble_eq_true rfl) rfl g4 (WM.mono h ?_)
    rintro _ σ3 ⟨v3, rfl, hp, h⟩
    show WP E m_S_smallest (d + 1) 25 [(3, aP v1), (0, aP 1), (1, aI x1), (2, aI x2)] [aI v3] σ3 Q
    exact s_ireturn d_S_smallest_25 rfl h
  · have h := h.2 c
    refine s_iconst d_S_smallest_11 ?_
    refine s_goto d_S_smallest_12 rfl ?_
    exact s_ireturn d_S_smallest_25 rfl h
theorem e_S_smallest {E : EV} {d : Nat} {Q : Option AV → St → Prop} {σ : St} (x1 x2 : Int) (hF : Fix σ) (h : (WMr E m_S_squareAt d [aP 1, aI x1, aI x2] σ (fun v1 σ1 => Fix σ1 ∧ ((¬ v1 = 0 → (WMr E m_S_laidOut d [aP 1, aP v1, aI x1] σ1 (fun v2 σ2 => (sh σ2 v2 = some (2, 8)) ∧ (WMi E m_Layout_smallestSigns d [aP v2, aP v1] σ2 (fun v3 σ3 => Q (some (aI v3)) σ3))))) ∧ (v1 = 0 → Q (some (aI (-1))) σ1))))) : WM E m_S_smallest (d + 1) [aP 1, aI x1, aI x2] σ Q := s_meth (by decide) (Nat.le_of_ble_eq_true rfl) rfl (b_S_smallest_0 x1 x2 hF h)
theorem d_S_same_0 : decode m_S_same.2.1 0 = .ok (.aload_n 0, 1) := by decide +kernel
theorem d_S_same_1 : decode m_S_same.2.1 1 = .ok (.iload_n 1, 1) := by decide +kernel
theorem d_S_same_2 : decode m_S_same.2.1 2 = .ok (.iload_n 2, 1) := by decide +kernel
theorem d_S_same_3 : decode m_S_same.2.1 3 = .ok (.invokevirtual 99, 3) := by decide +kernel
theorem d_S_same_6 : decode m_S_same.2.1 6 = .ok (.astore 5, 2) := by decide +kernel
theorem d_S_same_8 : decode m_S_same.2.1 8 = .ok (.aload_n 0, 1) := by decide +kernel
theorem d_S_same_9 : decode m_S_same.2.1 9 = .ok (.iload_n 3, 1) := by decide +kernel
theorem d_S_same_10 : decode m_S_same.2.1 10 = .ok (.iload 4, 2) := by decide +kernel
theorem d_S_same_12 : decode m_S_same.2.1 12 = .ok (.invokevirtual 99, 3) := by decide +kernel
theorem d_S_same_15 : decode m_S_same.2.1 15 = .ok (.astore 6, 2) := by decide +kernel
theorem d_S_same_17 : decode m_S_same.2.1 17 = .ok (.aload 5, 2) := by decide +kernel
theorem d_S_same_19 : decode m_S_same.2.1 19 = .ok (.ifnull 8, 3) := by decide +kernel
theorem d_S_same_22 : decode m_S_same.2.1 22 = .ok (.aload 6, 2) := by decide +kernel
theorem d_S_same_24 : decode m_S_same.2.1 24 = .ok (.ifnonnull 5, 3) := by decide +kernel
theorem d_S_same_27 : decode m_S_same.2.1 27 = .ok (.iconst (-1), 1) := by decide +kernel
theorem d_S_same_28 : decode m_S_same.2.1 28 = .ok (.ireturn, 1) := by decide +kernel
theorem d_S_same_29 : decode m_S_same.2.1 29 = .ok (.aload 5, 2) := by decide +kernel
theorem d_S_same_31 : decode m_S_same.2.1 31 = .ok (.aload 6, 2) := by decide +kernel
theorem d_S_same_33 : decode m_S_same.2.1 33 = .ok (.invokevirtual 232, 3) := by decide +kernel
theorem d_S_same_36 : decode m_S_same.2.1 36 = .ok (.ifCond .eq 7, 3) := by decide +kernel
theorem d_S_same_39 : decode m_S_same.2.1 39 = .ok (.iconst 1, 1) := by decide +kernel
theorem d_S_same_40 : decode m_S_same.2.1 40 = .ok (.goto 4, 3) := by decide +kernel
theorem d_S_same_43 : decode m_S_same.2.1 43 = .ok (.iconst 0, 1) := by decide +kernel
theorem d_S_same_44 : decode m_S_same.2.1 44 = .ok (.ireturn, 1) := by decide +kernel
theorem b_S_same_0 {E : EV} {d : Nat} {Q : Option AV → St → Prop} {σ : St} (x1 x2 x3 x4 : Int) (hF : Fix σ) (h : (WMr E m_S_squareAt d [aP 1, aI x1, aI x2] σ (fun v1 σ1 => Fix σ1 ∧ (WMr E m_S_squareAt d [aP 1, aI x3, aI x4] σ1 (fun v2 σ2 => ((v1 = 0 → Q (some (aI (-1))) σ2) ∧ (¬ v1 = 0 → ((¬ v2 = 0 → (sh σ2 v1 = some (7, 1)) ∧ (WMi E m_Sq_isLike d [aP v1, aP v2] σ2 (fun v3 σ3 => (rI v3) ∧ ((v3 = 0 → Q (some (aI 0)) σ3) ∧ (¬ v3 = 0 → Q (some (aI 1)) σ3))))) ∧ (v2 = 0 → Q (some (aI (-1))) σ2))))))))) : WP E m_S_same (d + 1) 0 [(0, aP 1), (1, aI x1), (2, aI x2), (3, aI x3), (4, aI x4)] [] σ Q := by
  refine s_aload_n 0 d_S_same_0 rfl rfl ?_
  refine s_iload_n 1 d_S_same_1 rfl rfl ?_
  refine s_iload_n 2 d_S_same_2 rfl rfl ?_
  refine s_callV (as := [aI x1, aI x2]) (ci := 9) d_S_same_3 ok_S_squareAt lk_S_99 io_S_squareAt so_S_squareAt (by decide) rfl rfl rfl (Nat.le_of_ble_eq_true rfl) rfl (sf_1 hF) (WM.mono h ?_)
  rintro _ σ1 ⟨v1, rfl, hp, h⟩
  obtain ⟨hF1, h⟩ := h
  show WP E m_S_same (d + 1) 6 [(0, aP 1), (1, aI x1), (2, aI x2), (3, aI x3), (4, aI x4)] [aP v1] σ1 Q
  refine s_astore d_S_same_6 (by decide) rfl ?_
  refine s_aload_n 1 d_S_same_8 rfl rfl ?_
  refine s_iload_n 4 d_S_same_9 rfl rfl ?_
  refine s_iload 5 d_S_same_10 rfl ?_
  refine s_callV (as := [aI x3, aI x4]) (ci := 9) d_S_same_12 ok_S_squareAt lk_S_99 io_S_squareAt so_S_squareAt (by decide) rfl rfl rfl (Nat.le_of_ble_eq_true rfl) rfl (sf_1 hF1) (WM.mono h ?_)
  rintro _ σ2 ⟨v2, rfl, hp, h⟩
  show WP E m_S_same (d + 1) 15 [(5, aP v1), (0, aP 1), (1, aI x1), (2, aI x2), (3, aI x3), (4, aI x4)] [aP v2] σ2 Q
  refine s_astore d_S_same_15 (by decide) rfl ?_
  refine s_aload 1 d_S_same_17 rfl ?_
  refine s_ifnull d_S_same_19 rfl (fun c => ?_) (fun c => ?_)
  · have h := h.1 c
    refine s_iconst d_S_same_27 ?_
    exact s_ireturn d_S_same_28 rfl h
  · have h := h.2 c
    refine s_aload 0 d_S_same_22 rfl ?_
    refine s_ifnonnull d_S_same_24 rfl (fun c => ?_) (fun c => ?_)
    · have h := h.1 c
      refine s_aload 1 d_S_same_29 rfl ?_
      refine s_aload 0 d_S_same_31 rfl ?_
      obtain ⟨g4, h⟩ := h
      refine s_callV (as := [aP v2]) (ci := 7) d_S_same_33 ok_Sq_isLike lk_S_232 io_Sq_isLike so_Sq_isLike (by decide) rfl rfl rfl (Nat.le_of_ble_eq_true rfl) rfl g4 (WM.mono h ?_)
      rintro _ σ3 ⟨v3, rfl, hp, h⟩
      show WP E m_S_same (d + 1) 36 [(6, aP v2), (5, aP v1), (0, aP 1), (1, aI x1), (2, aI x2), (3, aI x3), (4, aI x4)] [aI v3] σ3 Q
      obtain ⟨g5, h⟩ := h
      refine s_if_eq d_S_same_36 rfl g5 (fun c => ?_) (fun c => ?_)
      · have h := h.1 c
        refine s_iconst d_S_same_43 ?_
        exact s_ireturn d_S_same_44 rfl h
      · have h := h.2 c
        refine s_iconst d_S_same_39 ?_
        refine s_goto d_S_same_40 rfl ?_
        exact s_ireturn d_S_same_44 rfl h
    · have h := h.2 c
      refine s_iconst d_S_same_27 ?_
      exact s_ireturn d_S_same_28 rfl h
theorem e_S_same {E : EV} {d : Nat} {Q : Option AV → St → Prop} {σ : St} (x1 x2 x3 x4 : Int) (hF : Fix σ) (h : (WMr E m_S_squareAt d [aP 1, aI x1, aI x2] σ (fun v1 σ1 => Fix σ1 ∧ (WMr E m_S_squareAt d [aP 1, aI x3, aI x4] σ1 (fun v2 σ2 => ((v1 = 0 → Q (some (aI (-1))) σ2) ∧ (¬ v1 = 0 → ((¬ v2 = 0 → (sh σ2 v1 = some (7, 1)) ∧ (WMi E m_Sq_isLike d [aP v1, aP v2] σ2 (fun v3 σ3 => (rI v3) ∧ ((v3 = 0 → Q (some (aI 0)) σ3) ∧ (¬ v3 = 0 → Q (some (aI 1)) σ3))))) ∧ (v2 = 0 → Q (some (aI (-1))) σ2))))))))) : WM E m_S_same (d + 1) [aP 1, aI x1, aI x2, aI x3, aI x4] σ Q := s_meth (by decide) (Nat.le_of_ble_eq_true rfl) rfl (b_S_same_0 x1 x2 x3 x4 hF h)
theorem d_S_tightest_0 : decode m_S_tightest.2.1 0 = .ok (.aload_n 0, 1) := by decide +kernel
theorem d_S_tightest_1 : decode m_S_tightest.2.1 1 = .ok (.iload_n 1, 1) := by decide +kernel
theorem d_S_tightest_2 : decode m_S_tightest.2.1 2 = .ok (.invokevirtual 158, 3) := by decide +kernel
theorem d_S_tightest_5 : decode m_S_tightest.2.1 5 = .ok (.astore_n 2, 1) := by decide +kernel
theorem d_S_tightest_6 : decode m_S_tightest.2.1 6 = .ok (.aload_n 2, 1) := by decide +kernel
theorem d_S_tightest_7 : decode m_S_tightest.2.1 7 = .ok (.ifnonnull 5, 3) := by decide +kernel
theorem d_S_tightest_10 : decode m_S_tightest.2.1 10 = .ok (.iconst (-1), 1) := by decide +kernel
theorem d_S_tightest_11 : decode m_S_tightest.2.1 11 = .ok (.ireturn, 1) := by decide +kernel
theorem d_S_tightest_12 : decode m_S_tightest.2.1 12 = .ok (.iconst (-1), 1) := by decide +kernel
theorem d_S_tightest_13 : decode m_S_tightest.2.1 13 = .ok (.istore_n 3, 1) := by decide +kernel
theorem d_S_tightest_14 : decode m_S_tightest.2.1 14 = .ok (.iconst 0, 1) := by decide +kernel
theorem d_S_tightest_15 : decode m_S_tightest.2.1 15 = .ok (.istore 4, 2) := by decide +kernel
theorem d_S_tightest_17 : decode m_S_tightest.2.1 17 = .ok (.iconst 0, 1) := by decide +kernel
theorem d_S_tightest_18 : decode m_S_tightest.2.1 18 = .ok (.istore 5, 2) := by decide +kernel
theorem d_S_tightest_20 : decode m_S_tightest.2.1 20 = .ok (.iload 5, 2) := by decide +kernel
theorem d_S_tightest_22 : decode m_S_tightest.2.1 22 = .ok (.aload_n 2, 1) := by decide +kernel
theorem d_S_tightest_23 : decode m_S_tightest.2.1 23 = .ok (.invokevirtual 170, 3) := by decide +kernel
theorem d_S_tightest_26 : decode m_S_tightest.2.1 26 = .ok (.if_icmp .ge 35, 3) := by decide +kernel
theorem d_S_tightest_29 : decode m_S_tightest.2.1 29 = .ok (.aload_n 0, 1) := by decide +kernel
theorem d_S_tightest_30 : decode m_S_tightest.2.1 30 = .ok (.aload_n 2, 1) := by decide +kernel
theorem d_S_tightest_31 : decode m_S_tightest.2.1 31 = .ok (.iload 5, 2) := by decide +kernel
theorem d_S_tightest_33 : decode m_S_tightest.2.1 33 = .ok (.invokevirtual 319, 3) := by decide +kernel
theorem d_S_tightest_36 : decode m_S_tightest.2.1 36 = .ok (.invokevirtual 312, 3) := by decide +kernel
theorem d_S_tightest_39 : decode m_S_tightest.2.1 39 = .ok (.istore 6, 2) := by decide +kernel
theorem d_S_tightest_41 : decode m_S_tightest.2.1 41 = .ok (.iload 6, 2) := by decide +kernel
theorem d_S_tightest_43 : decode m_S_tightest.2.1 43 = .ok (.iload 4, 2) := by decide +kernel
theorem d_S_tightest_45 : decode m_S_tightest.2.1 45 = .ok (.if_icmp .le 10, 3) := by decide +kernel
theorem d_S_tightest_48 : decode m_S_tightest.2.1 48 = .ok (.iload 6, 2) := by decide +kernel
theorem d_S_tightest_50 : decode m_S_tightest.2.1 50 = .ok (.istore 4, 2) := by decide +kernel
theorem d_S_tightest_52 : decode m_S_tightest.2.1 52 = .ok (.iload 5, 2) := by decide +kernel
theorem d_S_tightest_54 : decode m_S_tightest.2.1 54 = .ok (.istore_n 3, 1) := by decide +kernel
theorem d_S_tightest_55 : decode m_S_tightest.2.1 55 = .ok (.iinc 5 1, 3) := by decide +kernel
theorem d_S_tightest_58 : decode m_S_tightest.2.1 58 = .ok (.goto (-38), 3) := by decide +kernel
theorem d_S_tightest_61 : decode m_S_tightest.2.1 61 = .ok (.iload_n 3, 1) := by decide +kernel
theorem d_S_tightest_62 : decode m_S_tightest.2.1 62 = .ok (.ireturn, 1) := by decide +kernel
theorem b_S_tightest_0 {E : EV} {d : Nat} {Q : Option AV → St → Prop} {σ : St} (x1 : Int) (hF : Fix σ) (h : (WMr E m_S_lineAt d [aP 1, aI x1] σ (fun v1 σ1 => ((¬ v1 = 0 → WP E m_S_tightest (d + 1) 20 [(0, aP 1), (2, aP v1), (3, aI (-1)), (4, aI 0), (5, aI 0)] [] σ1 Q) ∧ (v1 = 0 → Q (some (aI (-1))) σ1))))) : WP E m_S_tightest (d + 1) 0 [(0, aP 1), (1, aI x1)] [] σ Q := by
  refine s_aload_n 0 d_S_tightest_0 rfl rfl ?_
  refine s_iload_n 1 d_S_tightest_1 rfl rfl ?_
  refine s_callV (as := [aI x1]) (ci := 9) d_S_tightest_2 ok_S_lineAt lk_S_158 io_S_lineAt so_S_lineAt (by decide) rfl rfl rfl (Nat.le_of_ble_eq_true rfl) rfl (sf_1 hF) (WM.mono h ?_)
  rintro _ σ1 ⟨v1, rfl, hp, h⟩
  show WP E m_S_tightest (d + 1) 5 [(0, aP 1), (1, aI x1)] [aP v1] σ1 Q
  refine s_astore_n d_S_tightest_5 rfl (by decide) rfl ?_
  refine s_aload_n 0 d_S_tightest_6 rfl rfl ?_
  refine s_ifnonnull d_S_tightest_7 rfl (fun c => ?_) (fun c => ?_)
  · have h := h.1 c
    refine s_iconst d_S_tightest_12 ?_
    refine s_istore_n d_S_tightest_13 rfl (by decide) rfl ?_
    refine s_iconst d_S_tightest_14 ?_
    refine s_istore d_S_tightest_15 (by decide) rfl ?_
    refine s_iconst d_S_tightest_17 ?_
    refine s_istore d_S_tightest_18 (by decide) rfl ?_
    refine wp_drop [4, 3, 2, 1, 0] rfl ?_
    exact h
  · have h := h.2 c
    refine s_iconst d_S_tightest_10 ?_
    exact s_ireturn d_S_tightest_11 rfl h
theorem e_S_tightest {E : EV} {d : Nat} {Q : Option AV → St → Prop} {σ : St} (x1 : Int) (hF : Fix σ) (h : (WMr E m_S_lineAt d [aP 1, aI x1] σ (fun v1 σ1 => ((¬ v1 = 0 → WP E m_S_tightest (d + 1) 20 [(0, aP 1), (2, aP v1), (3, aI (-1)), (4, aI 0), (5, aI 0)] [] σ1 Q) ∧ (v1 = 0 → Q (some (aI (-1))) σ1))))) : WM E m_S_tightest (d + 1) [aP 1, aI x1] σ Q := s_meth (by decide) (Nat.le_of_ble_eq_true rfl) rfl (b_S_tightest_0 x1 hF h)
theorem b_S_tightest_20 {E : EV} {d : Nat} {Q : Option AV → St → Prop} {σ : St} (x2 x3 x4 x5 : Int) (hF : Fix σ) (h : (sh σ x2 = some (3, 2)) ∧ (WMi E m_Line_size d [aP x2] σ (fun v1 σ1 => Fix σ1 ∧ (rI x5) ∧ (rI v1) ∧ ((v1 ≤ x5 → Q (some (aI x3)) σ1) ∧ (¬ v1 ≤ x5 → (sh σ1 x2 = some (3, 2)) ∧ (WMr E m_Line_get d [aP x2, aI x5] σ1 (fun v5 σ5 => Fix σ5 ∧ (WMi E m_S_spanOf d [aP 1, aP v5] σ5 (fun v7 σ7 => (rI v7) ∧ (rI x4) ∧ ((v7 ≤ x4 → WP E m_S_tightest (d + 1) 55 [(0, aP 1), (2, aP x2), (3, aI x3), (4, aI x4), (5, aI x5)] [] σ7 Q) ∧ (¬ v7 ≤ x4 → WP E m_S_tightest (d + 1) 55 [(0, aP 1), (2, aP x2), (3, aI x5), (4, aI v7), (5, aI x5)] [] σ7 Q))))))))))) : WP E m_S_tightest (d + 1) 20 [(0, aP 1), (2, aP x2), (3, aI x3), (4, aI x4), (5, aI x5)] [] σ Q := by
  refine s_iload 4 d_S_tightest_20 rfl ?_
  refine s_aload_n 1 d_S_tightest_22 rfl rfl ?_
  obtain ⟨g2, h⟩ := h
  refine s_callV (as := []) (ci := 3) d_S_tightest_23 ok_Line_size lk_S_170 io_Line_size so_Line_size (by decide) rfl rfl rfl (Nat.le_of_ble_eq_true rfl) rfl g2 (WM.mono h ?_)
  rintro _ σ1 ⟨v1, rfl, hp, h⟩
  obtain ⟨hF2, h⟩ := h
  show WP E m_S_tightest (d + 1) 26 [(0, aP 1), (2, aP x2), (3, aI x3), (4, aI x4), (5, aI x5)] [aI v1, aI x5] σ1 Q
  obtain ⟨g3, h⟩ := h
  obtain ⟨g4, h⟩ := h
  refine s_icmp_ge d_S_tightest_26 rfl g3 g4 (fun c => ?_) (fun c => ?_)
  · have h := h.1 c
    refine s_iload_n 2 d_S_tightest_61 rfl rfl ?_
    exact s_ireturn d_S_tightest_62 rfl h
  · have h := h.2 c
    refine s_aload_n 0 d_S_tightest_29 rfl rfl ?_
    refine s_aload_n 1 d_S_tightest_30 rfl rfl ?_
    refine s_iload 4 d_S_tightest_31 rfl ?_
    obtain ⟨g6, h⟩ := h
    refine s_callV (as := [aI x5]) (ci := 3) d_S_tightest_33 ok_Line_get lk_S_319 io_Line_get so_Line_get (by decide) rfl rfl rfl (Nat.le_of_ble_eq_true rfl) rfl g6 (WM.mono h ?_)
    rintro _ σ5 ⟨v5, rfl, hp, h⟩
    obtain ⟨hF6, h⟩ := h
    show WP E m_S_tightest (d + 1) 36 [(0, aP 1), (2, aP x2), (3, aI x3), (4, aI x4), (5, aI x5)] [aP v5, aP 1] σ5 Q
    refine s_callV (as := [aP v5]) (ci := 9) d_S_tightest_36 ok_S_spanOf lk_S_312 io_S_spanOf so_S_spanOf (by decide) rfl rfl rfl (Nat.le_of_ble_eq_true rfl) rfl (sf_1 hF6) (WM.mono h ?_)
    rintro _ σ7 ⟨v7, rfl, hp, h⟩
    show WP E m_S_tightest (d + 1) 39 [(0, aP 1), (2, aP x2), (3, aI x3), (4, aI x4), (5, aI x5)] [aI v7] σ7 Q
    refine s_istore d_S_tightest_39 (by decide) rfl ?_
    refine s_iload 0 d_S_tightest_41 rfl ?_
    refine s_iload 4 d_S_tightest_43 rfl ?_
    obtain ⟨g8, h⟩ := h
    obtain ⟨g9, h⟩ := h
    refine s_icmp_le d_S_tightest_45 rfl g8 g9 (fun c => ?_) (fun c => ?_)
    · have h := h.1 c
      refine wp_drop [1, 2, 3, 4, 5] rfl ?_
      exact h
    · have h := h.2 c
      refine s_iload 0 d_S_tightest_48 rfl ?_
      refine s_istore d_S_tightest_50 (by decide) rfl ?_
      refine s_iload 5 d_S_tightest_52 rfl ?_
      refine s_istore_n d_S_tightest_54 rfl (by decide) rfl ?_
      refine wp_drop [3, 4, 0, 1, 5] rfl ?_
      exact h
theorem b_S_tightest_55 {E : EV} {d : Nat} {Q : Option AV → St → Prop} {σ : St} (x2 x3 x4 x5 : Int) (h : WP E m_S_tightest (d + 1) 20 [(0, aP 1), (2, aP x2), (3, aI x3), (4, aI x4), (5, aI (x5 + 1))] [] σ Q) : WP E m_S_tightest (d + 1) 55 [(0, aP 1), (2, aP x2), (3, aI x3), (4, aI x4), (5, aI x5)] [] σ Q := by
  refine s_iinc 4 d_S_tightest_55 rfl (by decide) rfl ?_
  refine s_goto d_S_tightest_58 rfl ?_
  refine wp_drop [1, 2, 3, 4, 0] rfl ?_
  exact h
theorem d_S_least_0 : decode m_S_least.2.1 0 = .ok (.aload_n 0, 1) := by decide +kernel
theorem d_S_least_1 : decode m_S_least.2.1 1 = .ok (.iload_n 1, 1) := by decide +kernel
theorem d_S_least_2 : decode m_S_least.2.1 2 = .ok (.aload_n 0, 1) := by decide +kernel
theorem d_S_least_3 : decode m_S_least.2.1 3 = .ok (.iload_n 1, 1) := by decide +kernel
theorem d_S_least_4 : decode m_S_least.2.1 4 = .ok (.invokevirtual 323, 3) := by decide +kernel
theorem d_S_least_7 : decode m_S_least.2.1 7 = .ok (.invokevirtual 99, 3) := by decide +kernel
theorem d_S_least_10 : decode m_S_least.2.1 10 = .ok (.astore_n 3, 1) := by decide +kernel
theorem d_S_least_11 : decode m_S_least.2.1 11 = .ok (.aload_n 3, 1) := by decide +kernel
theorem d_S_least_12 : decode m_S_least.2.1 12 = .ok (.ifnonnull 7, 3) := by decide +kernel
theorem d_S_least_15 : decode m_S_least.2.1 15 = .ok (.iconst (-1), 1) := by decide +kernel
theorem d_S_least_16 : decode m_S_least.2.1 16 = .ok (.goto 9, 3) := by decide +kernel
theorem d_S_least_19 : decode m_S_least.2.1 19 = .ok (.aload_n 0, 1) := by decide +kernel
theorem d_S_least_20 : decode m_S_least.2.1 20 = .ok (.aload_n 3, 1) := by decide +kernel
theorem d_S_least_21 : decode m_S_least.2.1 21 = .ok (.iload_n 2, 1) := by decide +kernel
theorem d_S_least_22 : decode m_S_least.2.1 22 = .ok (.invokevirtual 281, 3) := by decide +kernel
theorem d_S_least_25 : decode m_S_least.2.1 25 = .ok (.ireturn, 1) := by decide +kernel
theorem b_S_least_0 {E : EV} {d : Nat} {Q : Option AV → St → Prop} {σ : St} (x1 x2 : Int) (hF : Fix σ) (h : (WMi E m_S_tightest d [aP 1, aI x1] σ (fun v1 σ1 => Fix σ1 ∧ (WMr E m_S_squareAt d [aP 1, aI x1, aI v1] σ1 (fun v2 σ2 => Fix σ2 ∧ ((¬ v2 = 0 → (WMi E m_S_scaleOf d [aP 1, aP v2, aI x2] σ2 (fun v3 σ3 => Q (some (aI v3)) σ3))) ∧ (v2 = 0 → Q (some (aI (-1))) σ2))))))) : WP E m_S_least (d + 1) 0 [(0, aP 1), (1, aI x1), (2, aI x2)] [] σ Q := by
  refine s_aload_n 0 d_S_least_0 rfl rfl ?_
  refine s_iload_n 1 d_S_least_1 rfl rfl ?_
  refine s_aload_n 0 d_S_least_2 rfl rfl ?_
  refine s_iload_n 1 d_S_least_3 rfl rfl ?_
  refine s_callV (as := [aI x1]) (ci := 9) d_S_least_4 ok_S_tightest lk_S_323 io_S_tightest so_S_tightest (by decide) rfl rfl rfl (Nat.le_of_ble_eq_true rfl) rfl (sf_1 hF) (WM.mono h ?_)
  rintro _ σ1 ⟨v1, rfl, hp, h⟩
  obtain ⟨hF1, h⟩ := h
  show WP E m_S_least (d + 1) 7 [(0, aP 1), (1, aI x1), (2, aI x2)] [aI v1, aI x1, aP 1] σ1 Q
  refine s_callV (as := [aI x1, aI v1]) (ci := 9) d_S_least_7 ok_S_squareAt lk_S_99 io_S_squareAt so_S_squareAt (by decide) rfl rfl rfl (Nat.le_of_ble_eq_true rfl) rfl (sf_1 hF1) (WM.mono h ?_)
  rintro _ σ2 ⟨v2, rfl, hp, h⟩
  obtain ⟨hF2, h⟩ := h
  show WP E m_S_least (d + 1) 10 [(0, aP 1), (1, aI x1), (2, aI x2)] [aP v2] σ2 Q
  refine s_astore_n d_S_least_10 rfl (by decide) rfl ?_
  refine s_aload_n 0 d_S_least_11 rfl rfl ?_
  refine s_ifnonnull d_S_least_12 rfl (fun c => ?_) (fun c => ?_)
  · have h := h.1 c
    refine s_aload_n 1 d_S_least_19 rfl rfl ?_
    refine s_aload_n 0 d_S_least_20 rfl rfl ?_
    refine s_iload_n 3 d_S_least_21 rfl rfl ?_
    refine s_callV (as := [aP v2, aI x2]) (ci := 9) d_S_least_22 ok_S_scaleOf lk_S_281 io_S_scaleOf so_S_scaleOf (by decide) rfl rfl rfl (Nat.le_of_ble_eq_true rfl) rfl (sf_1 hF2) (WM.mono h ?_)
    rintro _ σ3 ⟨v3, rfl, hp, h⟩
    show WP E m_S_least (d + 1) 25 [(3, aP v2), (0, aP 1), (1, aI x1), (2, aI x2)] [aI v3] σ3 Q
    exact s_ireturn d_S_least_25 rfl h
  · have h := h.2 c
    refine s_iconst d_S_least_15 ?_
    refine s_goto d_S_least_16 rfl ?_
    exact s_ireturn d_S_least_25 rfl h
theorem e_S_least {E : EV} {d : Nat} {Q : Option AV → St → Prop} {σ : St} (x1 x2 : Int) (hF : Fix σ) (h : (WMi E m_S_tightest d [aP 1, aI x1] σ (fun v1 σ1 => Fix σ1 ∧ (WMr E m_S_squareAt d [aP 1, aI x1, aI v1] σ1 (fun v2 σ2 => Fix σ2 ∧ ((¬ v2 = 0 → (WMi E m_S_scaleOf d [aP 1, aP v2, aI x2] σ2 (fun v3 σ3 => Q (some (aI v3)) σ3))) ∧ (v2 = 0 → Q (some (aI (-1))) σ2))))))) : WM E m_S_least (d + 1) [aP 1, aI x1, aI x2] σ Q := s_meth (by decide) (Nat.le_of_ble_eq_true rfl) rfl (b_S_least_0 x1 x2 hF h)
theorem d_S_ways_0 : decode m_S_ways.2.1 0 = .ok (.aload_n 0, 1) := by decide +kernel
theorem d_S_ways_1 : decode m_S_ways.2.1 1 = .ok (.iload_n 1, 1) := by decide +kernel
theorem d_S_ways_2 : decode m_S_ways.2.1 2 = .ok (.iload_n 2, 1) := by decide +kernel
theorem d_S_ways_3 : decode m_S_ways.2.1 3 = .ok (.invokevirtual 99, 3) := by decide +kernel
theorem d_S_ways_6 : decode m_S_ways.2.1 6 = .ok (.astore_n 3, 1) := by decide +kernel
theorem d_S_ways_7 : decode m_S_ways.2.1 7 = .ok (.aload_n 3, 1) := by decide +kernel
theorem d_S_ways_8 : decode m_S_ways.2.1 8 = .ok (.ifnonnull 7, 3) := by decide +kernel
theorem d_S_ways_11 : decode m_S_ways.2.1 11 = .ok (.iconst (-1), 1) := by decide +kernel
theorem d_S_ways_12 : decode m_S_ways.2.1 12 = .ok (.goto 10, 3) := by decide +kernel
theorem d_S_ways_15 : decode m_S_ways.2.1 15 = .ok (.aload_n 3, 1) := by decide +kernel
theorem d_S_ways_16 : decode m_S_ways.2.1 16 = .ok (.invokevirtual 272, 3) := by decide +kernel
theorem d_S_ways_19 : decode m_S_ways.2.1 19 = .ok (.invokestatic 326, 3) := by decide +kernel
theorem d_S_ways_22 : decode m_S_ways.2.1 22 = .ok (.ireturn, 1) := by decide +kernel
theorem b_S_ways_0 {E : EV} {d : Nat} {Q : Option AV → St → Prop} {σ : St} (x1 x2 : Int) (hF : Fix σ) (h : (WMr E m_S_squareAt d [aP 1, aI x1, aI x2] σ (fun v1 σ1 => ((¬ v1 = 0 → (sh σ1 v1 = some (7, 1)) ∧ (WMi E m_Sq_outerSigns d [aP v1] σ1 (fun v2 σ2 => (WMi E m_Arranger_waysOf d [aI v2] σ2 (fun v4 σ4 => Q (some (aI v4)) σ4))))) ∧ (v1 = 0 → Q (some (aI (-1))) σ1))))) : WP E m_S_ways (d + 1) 0 [(0, aP 1), (1, aI x1), (2, aI x2)] [] σ Q := by
  refine s_aload_n 0 d_S_ways_0 rfl rfl ?_
  refine s_iload_n 1 d_S_ways_1 rfl rfl ?_
  refine s_iload_n 2 d_S_ways_2 rfl rfl ?_
  refine s_callV (as := [aI x1, aI x2]) (ci := 9) d_S_ways_3 ok_S_squareAt lk_S_99 io_S_squareAt so_S_squareAt (by decide) rfl rfl rfl (Nat.le_of_ble_eq_true rfl) rfl (sf_1 hF) (WM.mono h ?_)
  rintro _ σ1 ⟨v1, rfl, hp, h⟩
  show WP E m_S_ways (d + 1) 6 [(0, aP 1), (1, aI x1), (2, aI x2)] [aP v1] σ1 Q
  refine s_astore_n d_S_ways_6 rfl (by decide) rfl ?_
  refine s_aload_n 0 d_S_ways_7 rfl rfl ?_
  refine s_ifnonnull d_S_ways_8 rfl (fun c => ?_) (fun c => ?_)
  · have h := h.1 c
    refine s_aload_n 0 d_S_ways_15 rfl rfl ?_
    obtain ⟨g3, h⟩ := h
    refine s_callV (as := []) (ci := 7) d_S_ways_16 ok_Sq_outerSigns lk_S_272 io_Sq_outerSigns so_Sq_outerSigns (by decide) rfl rfl rfl (Nat.le_of_ble_eq_true rfl) rfl g3 (WM.mono h ?_)
    rintro _ σ2 ⟨v2, rfl, hp, h⟩
    show WP E m_S_ways (d + 1) 19 [(3, aP v1), (0, aP 1), (1, aI x1), (2, aI x2)] [aI v2] σ2 Q
    refine s_callS (as := [aI v2]) d_S_ways_19 ok_Arranger_waysOf lk_S_326 to_Arranger_waysOf rfl (Nat.le_of_ble_eq_true rfl) rfl (WM.mono h ?_)
    rintro _ σ4 ⟨v4, rfl, hp, h⟩
    show WP E m_S_ways (d + 1) 22 [(3, aP v1), (0, aP 1), (1, aI x1), (2, aI x2)] [aI v4] σ4 Q
    exact s_ireturn d_S_ways_22 rfl h
  · have h := h.2 c
    refine s_iconst d_S_ways_11 ?_
    refine s_goto d_S_ways_12 rfl ?_
    exact s_ireturn d_S_ways_22 rfl h
theorem e_S_ways {E : EV} {d : Nat} {Q : Option AV → St → Prop} {σ : St} (x1 x2 : Int) (hF : Fix σ) (h : (WMr E m_S_squareAt d [aP 1, aI x1, aI x2] σ (fun v1 σ1 => ((¬ v1 = 0 → (sh σ1 v1 = some (7, 1)) ∧ (WMi E m_Sq_outerSigns d [aP v1] σ1 (fun v2 σ2 => (WMi E m_Arranger_waysOf d [aI v2] σ2 (fun v4 σ4 => Q (some (aI v4)) σ4))))) ∧ (v1 = 0 → Q (some (aI (-1))) σ1))))) : WM E m_S_ways (d + 1) [aP 1, aI x1, aI x2] σ Q := s_meth (by decide) (Nat.le_of_ble_eq_true rfl) rfl (b_S_ways_0 x1 x2 hF h)
theorem d_S_best_0 : decode m_S_best.2.1 0 = .ok (.aload_n 0, 1) := by decide +kernel
theorem d_S_best_1 : decode m_S_best.2.1 1 = .ok (.iload_n 1, 1) := by decide +kernel
theorem d_S_best_2 : decode m_S_best.2.1 2 = .ok (.iload_n 2, 1) := by decide +kernel
theorem d_S_best_3 : decode m_S_best.2.1 3 = .ok (.invokevirtual 99, 3) := by decide +kernel
theorem d_S_best_6 : decode m_S_best.2.1 6 = .ok (.astore 4, 2) := by decide +kernel
theorem d_S_best_8 : decode m_S_best.2.1 8 = .ok (.aload 4, 2) := by decide +kernel
theorem d_S_best_10 : decode m_S_best.2.1 10 = .ok (.ifnull 12, 3) := by decide +kernel
theorem d_S_best_13 : decode m_S_best.2.1 13 = .ok (.iload_n 3, 1) := by decide +kernel
theorem d_S_best_14 : decode m_S_best.2.1 14 = .ok (.ifCond .lt 8, 3) := by decide +kernel
theorem d_S_best_17 : decode m_S_best.2.1 17 = .ok (.iload_n 3, 1) := by decide +kernel
theorem d_S_best_18 : decode m_S_best.2.1 18 = .ok (.iconst 1, 1) := by decide +kernel
theorem d_S_best_19 : decode m_S_best.2.1 19 = .ok (.if_icmp .le 5, 3) := by decide +kernel
theorem d_S_best_22 : decode m_S_best.2.1 22 = .ok (.iconst (-1), 1) := by decide +kernel
theorem d_S_best_23 : decode m_S_best.2.1 23 = .ok (.ireturn, 1) := by decide +kernel
theorem d_S_best_24 : decode m_S_best.2.1 24 = .ok (.aload_n 0, 1) := by decide +kernel
theorem d_S_best_25 : decode m_S_best.2.1 25 = .ok (.aload 4, 2) := by decide +kernel
theorem d_S_best_27 : decode m_S_best.2.1 27 = .ok (.invokevirtual 228, 3) := by decide +kernel
theorem d_S_best_30 : decode m_S_best.2.1 30 = .ok (.astore 5, 2) := by decide +kernel
theorem d_S_best_32 : decode m_S_best.2.1 32 = .ok (.aload 5, 2) := by decide +kernel
theorem d_S_best_34 : decode m_S_best.2.1 34 = .ok (.ifnonnull 8, 3) := by decide +kernel
theorem d_S_best_37 : decode m_S_best.2.1 37 = .ok (.bipush (-2), 2) := by decide +kernel
theorem d_S_best_39 : decode m_S_best.2.1 39 = .ok (.goto 10, 3) := by decide +kernel
theorem d_S_best_42 : decode m_S_best.2.1 42 = .ok (.aload_n 0, 1) := by decide +kernel
theorem d_S_best_43 : decode m_S_best.2.1 43 = .ok (.aload 5, 2) := by decide +kernel
theorem d_S_best_45 : decode m_S_best.2.1 45 = .ok (.iload_n 3, 1) := by decide +kernel
theorem d_S_best_46 : decode m_S_best.2.1 46 = .ok (.invokevirtual 281, 3) := by decide +kernel
theorem d_S_best_49 : decode m_S_best.2.1 49 = .ok (.ireturn, 1) := by decide +kernel
theorem b_S_best_0 {E : EV} {d : Nat} {Q : Option AV → St → Prop} {σ : St} (x1 x2 x3 : Int) (hF : Fix σ) (h : (WMr E m_S_squareAt d [aP 1, aI x1, aI x2] σ (fun v1 σ1 => Fix σ1 ∧ ((v1 = 0 → Q (some (aI (-1))) σ1) ∧ (¬ v1 = 0 → (rI x3) ∧ ((x3 < 0 → Q (some (aI (-1))) σ1) ∧ (¬ x3 < 0 → (rI x3) ∧ ((x3 ≤ 1 → (WMr E m_S_bestOf d [aP 1, aP v1] σ1 (fun v4 σ4 => Fix σ4 ∧ ((¬ v4 = 0 → (WMi E m_S_scaleOf d [aP 1, aP v4, aI x3] σ4 (fun v5 σ5 => Q (some (aI v5)) σ5))) ∧ (v4 = 0 → Q (some (aI (-2))) σ4))))) ∧ (¬ x3 ≤ 1 → Q (some (aI (-1))) σ1))))))))) : WP E m_S_best (d + 1) 0 [(0, aP 1), (1, aI x1), (2, aI x2), (3, aI x3)] [] σ Q := by
  refine s_aload_n 0 d_S_best_0 rfl rfl ?_
  refine s_iload_n 1 d_S_best_1 rfl rfl ?_
  refine s_iload_n 2 d_S_best_2 rfl rfl ?_
  refine s_callV (as := [aI x1, aI x2]) (ci := 9) d_S_best_3 ok_S_squareAt lk_S_99 io_S_squareAt so_S_squareAt (by decide) rfl rfl rfl (Nat.le_of_ble_eq_true rfl) rfl (sf_1 hF) (WM.mono h ?_)
  rintro _ σ1 ⟨v1, rfl, hp, h⟩
  obtain ⟨hF1, h⟩ := h
  show WP E m_S_best (d + 1) 6 [(0, aP 1), (1, aI x1), (2, aI x2), (3, aI x3)] [aP v1] σ1 Q
  refine s_astore d_S_best_6 (by decide) rfl ?_
  refine s_aload 0 d_S_best_8 rfl ?_
  refine s_ifnull d_S_best_10 rfl (fun c => ?_) (fun c => ?_)
  · have h := h.1 c
    refine s_iconst d_S_best_22 ?_
    exact s_ireturn d_S_best_23 rfl h
  · have h := h.2 c
    refine s_iload_n 4 d_S_best_13 rfl rfl ?_
    obtain ⟨g2, h⟩ := h
    refine s_if_lt d_S_best_14 rfl g2 (fun c => ?_) (fun c => ?_)
    · have h := h.1 c
      refine s_iconst d_S_best_22 ?_
      exact s_ireturn d_S_best_23 rfl h
    · have h := h.2 c
      refine s_iload_n 4 d_S_best_17 rfl rfl ?_
      refine s_iconst d_S_best_18 ?_
      obtain ⟨g3, h⟩ := h
      refine s_icmp_le d_S_best_19 rfl g3 (by decide) (fun c => ?_) (fun c => ?_)
      · have h := h.1 c
        refine s_aload_n 1 d_S_best_24 rfl rfl ?_
        refine s_aload 0 d_S_best_25 rfl ?_
        refine s_callV (as := [aP v1]) (ci := 9) d_S_best_27 ok_S_bestOf lk_S_228 io_S_bestOf so_S_bestOf (by decide) rfl rfl rfl (Nat.le_of_ble_eq_true rfl) rfl (sf_1 hF1) (WM.mono h ?_)
        rintro _ σ4 ⟨v4, rfl, hp, h⟩
        obtain ⟨hF4, h⟩ := h
        show WP E m_S_best (d + 1) 30 [(4, aP v1), (0, aP 1), (1, aI x1), (2, aI x2), (3, aI x3)] [aP v4] σ4 Q
        refine s_astore d_S_best_30 (by decide) rfl ?_
        refine s_aload 0 d_S_best_32 rfl ?_
        refine s_ifnonnull d_S_best_34 rfl (fun c => ?_) (fun c => ?_)
        · have h := h.1 c
          refine s_aload_n 2 d_S_best_42 rfl rfl ?_
          refine s_aload 0 d_S_best_43 rfl ?_
          refine s_iload_n 5 d_S_best_45 rfl rfl ?_
          refine s_callV (as := [aP v4, aI x3]) (ci := 9) d_S_best_46 ok_S_scaleOf lk_S_281 io_S_scaleOf so_S_scaleOf (by decide) rfl rfl rfl (Nat.le_of_ble_eq_true rfl) rfl (sf_1 hF4) (WM.mono h ?_)
          rintro _ σ5 ⟨v5, rfl, hp, h⟩
          show WP E m_S_best (d + 1) 49 [(5, aP v4), (4, aP v1), (0, aP 1), (1, aI x1), (2, aI x2), (3, aI x3)] [aI v5] σ5 Q
          exact s_ireturn d_S_best_49 rfl h
        · have h := h.2 c
          refine s_bipush d_S_best_37 (by decide) ?_
          refine s_goto d_S_best_39 rfl ?_
          exact s_ireturn d_S_best_49 rfl h
      · have h := h.2 c
        refine s_iconst d_S_best_22 ?_
        exact s_ireturn d_S_best_23 rfl h
theorem e_S_best {E : EV} {d : Nat} {Q : Option AV → St → Prop} {σ : St} (x1 x2 x3 : Int) (hF : Fix σ) (h : (WMr E m_S_squareAt d [aP 1, aI x1, aI x2] σ (fun v1 σ1 => Fix σ1 ∧ ((v1 = 0 → Q (some (aI (-1))) σ1) ∧ (¬ v1 = 0 → (rI x3) ∧ ((x3 < 0 → Q (some (aI (-1))) σ1) ∧ (¬ x3 < 0 → (rI x3) ∧ ((x3 ≤ 1 → (WMr E m_S_bestOf d [aP 1, aP v1] σ1 (fun v4 σ4 => Fix σ4 ∧ ((¬ v4 = 0 → (WMi E m_S_scaleOf d [aP 1, aP v4, aI x3] σ4 (fun v5 σ5 => Q (some (aI v5)) σ5))) ∧ (v4 = 0 → Q (some (aI (-2))) σ4))))) ∧ (¬ x3 ≤ 1 → Q (some (aI (-1))) σ1))))))))) : WM E m_S_best (d + 1) [aP 1, aI x1, aI x2, aI x3] σ Q := s_meth (by decide) (Nat.le_of_ble_eq_true rfl) rfl (b_S_best_0 x1 x2 x3 hF h)
theorem d_S_bestText_0 : decode m_S_bestText.2.1 0 = .ok (.aload_n 0, 1) := by decide +kernel
theorem d_S_bestText_1 : decode m_S_bestText.2.1 1 = .ok (.iload_n 1, 1) := by decide +kernel
theorem d_S_bestText_2 : decode m_S_bestText.2.1 2 = .ok (.iload_n 2, 1) := by decide +kernel
theorem d_S_bestText_3 : decode m_S_bestText.2.1 3 = .ok (.invokevirtual 99, 3) := by decide +kernel
theorem d_S_bestText_6 : decode m_S_bestText.2.1 6 = .ok (.astore 4, 2) := by decide +kernel
theorem d_S_bestText_8 : decode m_S_bestText.2.1 8 = .ok (.aload 4, 2) := by decide +kernel
theorem d_S_bestText_10 : decode m_S_bestText.2.1 10 = .ok (.ifnull 8, 3) := by decide +kernel
theorem d_S_bestText_13 : decode m_S_bestText.2.1 13 = .ok (.iload_n 3, 1) := by decide +kernel
theorem d_S_bestText_14 : decode m_S_bestText.2.1 14 = .ok (.iconst (-1), 1) := by decide +kernel
theorem d_S_bestText_15 : decode m_S_bestText.2.1 15 = .ok (.if_icmp .ge 5, 3) := by decide +kernel
theorem d_S_bestText_18 : decode m_S_bestText.2.1 18 = .ok (.iconst (-1), 1) := by decide +kernel
theorem d_S_bestText_19 : decode m_S_bestText.2.1 19 = .ok (.ireturn, 1) := by decide +kernel
theorem d_S_bestText_20 : decode m_S_bestText.2.1 20 = .ok (.aload_n 0, 1) := by decide +kernel
theorem d_S_bestText_21 : decode m_S_bestText.2.1 21 = .ok (.aload 4, 2) := by decide +kernel
theorem d_S_bestText_23 : decode m_S_bestText.2.1 23 = .ok (.invokevirtual 228, 3) := by decide +kernel
theorem d_S_bestText_26 : decode m_S_bestText.2.1 26 = .ok (.astore 5, 2) := by decide +kernel
theorem d_S_bestText_28 : decode m_S_bestText.2.1 28 = .ok (.aload 5, 2) := by decide +kernel
theorem d_S_bestText_30 : decode m_S_bestText.2.1 30 = .ok (.ifnonnull 6, 3) := by decide +kernel
theorem d_S_bestText_33 : decode m_S_bestText.2.1 33 = .ok (.bipush (-2), 2) := by decide +kernel
theorem d_S_bestText_35 : decode m_S_bestText.2.1 35 = .ok (.ireturn, 1) := by decide +kernel
theorem d_S_bestText_36 : decode m_S_bestText.2.1 36 = .ok (.aload_n 0, 1) := by decide +kernel
theorem d_S_bestText_37 : decode m_S_bestText.2.1 37 = .ok (.aload 5, 2) := by decide +kernel
theorem d_S_bestText_39 : decode m_S_bestText.2.1 39 = .ok (.iload_n 3, 1) := by decide +kernel
theorem d_S_bestText_40 : decode m_S_bestText.2.1 40 = .ok (.invokevirtual 205, 3) := by decide +kernel
theorem d_S_bestText_43 : decode m_S_bestText.2.1 43 = .ok (.invokevirtual 329, 3) := by decide +kernel
theorem d_S_bestText_46 : decode m_S_bestText.2.1 46 = .ok (.ireturn, 1) := by decide +kernel
theorem b_S_bestText_0 {E : EV} {d : Nat} {Q : Option AV → St → Prop} {σ : St} (x1 x2 x3 : Int) (hF : Fix σ) (h : (WMr E m_S_squareAt d [aP 1, aI x1, aI x2] σ (fun v1 σ1 => Fix σ1 ∧ ((v1 = 0 → Q (some (aI (-1))) σ1) ∧ (¬ v1 = 0 → (rI x3) ∧ (((-1) ≤ x3 → (WMr E m_S_bestOf d [aP 1, aP v1] σ1 (fun v3 σ3 => Fix σ3 ∧ ((¬ v3 = 0 → (WMr E m_S_spelled d [aP 1, aP v3, aI x3] σ3 (fun v4 σ4 => (sh σ4 v4 = some (6, 9)) ∧ (WMi E m_Speller_told d [aP v4] σ4 (fun v5 σ5 => Q (some (aI v5)) σ5))))) ∧ (v3 = 0 → Q (some (aI (-2))) σ3))))) ∧ (¬ (-1) ≤ x3 → Q (some (aI (-1))) σ1))))))) : WP E m_S_bestText (d + 1) 0 [(0, aP 1), (1, aI x1), (2, aI x2), (3, aI x3)] [] σ Q := by
  refine s_aload_n 0 d_S_bestText_0 rfl rfl ?_
  refine s_iload_n 1 d_S_bestText_1 rfl rfl ?_
  refine s_iload_n 2 d_S_bestText_2 rfl rfl ?_
  refine s_callV (as := [aI x1, aI x2]) (ci := 9) d_S_bestText_3 ok_S_squareAt lk_S_99 io_S_squareAt so_S_squareAt (by decide) rfl rfl rfl (Nat.le_of_ble_eq_true rfl) rfl (sf_1 hF) (WM.mono h ?_)
  rintro _ σ1 ⟨v1, rfl, hp, h⟩
  obtain ⟨hF1, h⟩ := h
  show WP E m_S_bestText (d + 1) 6 [(0, aP 1), (1, aI x1), (2, aI x2), (3, aI x3)] [aP v1] σ1 Q
  refine s_astore d_S_bestText_6 (by decide) rfl ?_
  refine s_aload 0 d_S_bestText_8 rfl ?_
  refine s_ifnull d_S_bestText_10 rfl (fun c => ?_) (fun c => ?_)
  · have h := h.1 c
    refine s_iconst d_S_bestText_18 ?_
    exact s_ireturn d_S_bestText_19 rfl h
  · have h := h.2 c
    refine s_iload_n 4 d_S_bestText_13 rfl rfl ?_
    refine s_iconst d_S_bestText_14 ?_
    obtain ⟨g2, h⟩ := h
    refine s_icmp_ge d_S_bestText_15 rfl g2 (by decide) (fun c => ?_) (fun c => ?_)
    · have h := h.1 c
      refine s_aload_n 1 d_S_bestText_20 rfl rfl ?_
      refine s_aload 0 d_S_bestText_21 rfl ?_
      refine s_callV (as := [aP v1]) (ci := 9) d_S_bestText_23 ok_S_bestOf lk_S_228 io_S_bestOf so_S_bestOf (by decide) rfl rfl rfl (Nat.le_of_ble_eq_true rfl) rfl (sf_1 hF1) (WM.mono h ?_)
      rintro _ σ3 ⟨v3, rfl, hp, h⟩
      obtain ⟨hF3, h⟩ := h
      show WP E m_S_bestText (d + 1) 26 [(4, aP v1), (0, aP 1), (1, aI x1), (2, aI x2), (3, aI x3)] [aP v3] σ3 Q
      refine s_astore d_S_bestText_26 (by decide) rfl ?_
      refine s_aload 0 d_S_bestText_28 rfl ?_
      refine s_ifnonnull d_S_bestText_30 rfl (fun c => ?_) (fun c => ?_)
      · have h := h.1 c
        refine s_aload_n 2 d_S_bestText_36 rfl rfl ?_
        refine s_aload 0 d_S_bestText_37 rfl ?_
        refine s_iload_n 5 d_S_bestText_39 rfl rfl ?_
        refine s_callV (as := [aP v3, aI x3]) (ci := 9) d_S_bestText_40 ok_S_spelled lk_S_205 io_S_spelled so_S_spelled (by decide) rfl rfl rfl (Nat.le_of_ble_eq_true rfl) rfl (sf_1 hF3) (WM.mono h ?_)
        rintro _ σ4 ⟨v4, rfl, hp, h⟩
        show WP E m_S_bestText (d + 1) 43 [(5, aP v3), (4, aP v1), (0, aP 1), (1, aI x1), (2, aI x2), (3, aI x3)] [aP v4] σ4 Q
        obtain ⟨g6, h⟩ := h
        refine s_callV (as := []) (ci := 6) d_S_bestText_43 ok_Speller_told lk_S_329 io_Speller_told so_Speller_told (by decide) rfl rfl rfl (Nat.le_of_ble_eq_true rfl) rfl g6 (WM.mono h ?_)
        rintro _ σ5 ⟨v5, rfl, hp, h⟩
        show WP E m_S_bestText (d + 1) 46 [(5, aP v3), (4, aP v1), (0, aP 1), (1, aI x1), (2, aI x2), (3, aI x3)] [aI v5] σ5 Q
        exact s_ireturn d_S_bestText_46 rfl h
      · have h := h.2 c
        refine s_bipush d_S_bestText_33 (by decide) ?_
        exact s_ireturn d_S_bestText_35 rfl h
    · have h := h.2 c
      refine s_iconst d_S_bestText_18 ?_
      exact s_ireturn d_S_bestText_19 rfl h
theorem e_S_bestText {E : EV} {d : Nat} {Q : Option AV → St → Prop} {σ : St} (x1 x2 x3 : Int) (hF : Fix σ) (h : (WMr E m_S_squareAt d [aP 1, aI x1, aI x2] σ (fun v1 σ1 => Fix σ1 ∧ ((v1 = 0 → Q (some (aI (-1))) σ1) ∧ (¬ v1 = 0 → (rI x3) ∧ (((-1) ≤ x3 → (WMr E m_S_bestOf d [aP 1, aP v1] σ1 (fun v3 σ3 => Fix σ3 ∧ ((¬ v3 = 0 → (WMr E m_S_spelled d [aP 1, aP v3, aI x3] σ3 (fun v4 σ4 => (sh σ4 v4 = some (6, 9)) ∧ (WMi E m_Speller_told d [aP v4] σ4 (fun v5 σ5 => Q (some (aI v5)) σ5))))) ∧ (v3 = 0 → Q (some (aI (-2))) σ3))))) ∧ (¬ (-1) ≤ x3 → Q (some (aI (-1))) σ1))))))) : WM E m_S_bestText (d + 1) [aP 1, aI x1, aI x2, aI x3] σ Q := s_meth (by decide) (Nat.le_of_ble_eq_true rfl) rfl (b_S_bestText_0 x1 x2 x3 hF h)
theorem d_S_joined_0 : decode m_S_joined.2.1 0 = .ok (.aload_n 0, 1) := by decide +kernel
theorem d_S_joined_1 : decode m_S_joined.2.1 1 = .ok (.iload_n 1, 1) := by decide +kernel
theorem d_S_joined_2 : decode m_S_joined.2.1 2 = .ok (.iload_n 2, 1) := by decide +kernel
theorem d_S_joined_3 : decode m_S_joined.2.1 3 = .ok (.invokevirtual 99, 3) := by decide +kernel
theorem d_S_joined_6 : decode m_S_joined.2.1 6 = .ok (.astore 4, 2) := by decide +kernel
theorem d_S_joined_8 : decode m_S_joined.2.1 8 = .ok (.aload_n 0, 1) := by decide +kernel
theorem d_S_joined_9 : decode m_S_joined.2.1 9 = .ok (.iload_n 1, 1) := by decide +kernel
theorem d_S_joined_10 : decode m_S_joined.2.1 10 = .ok (.iload_n 2, 1) := by decide +kernel
theorem d_S_joined_11 : decode m_S_joined.2.1 11 = .ok (.invokevirtual 151, 3) := by decide +kernel
theorem d_S_joined_14 : decode m_S_joined.2.1 14 = .ok (.astore 5, 2) := by decide +kernel
theorem d_S_joined_16 : decode m_S_joined.2.1 16 = .ok (.aload 4, 2) := by decide +kernel
theorem d_S_joined_18 : decode m_S_joined.2.1 18 = .ok (.ifnull 17, 3) := by decide +kernel
theorem d_S_joined_21 : decode m_S_joined.2.1 21 = .ok (.aload 5, 2) := by decide +kernel
theorem d_S_joined_23 : decode m_S_joined.2.1 23 = .ok (.ifnull 12, 3) := by decide +kernel
theorem d_S_joined_26 : decode m_S_joined.2.1 26 = .ok (.iload_n 3, 1) := by decide +kernel
theorem d_S_joined_27 : decode m_S_joined.2.1 27 = .ok (.ifCond .lt 8, 3) := by decide +kernel
theorem d_S_joined_30 : decode m_S_joined.2.1 30 = .ok (.iload_n 3, 1) := by decide +kernel
theorem d_S_joined_31 : decode m_S_joined.2.1 31 = .ok (.iconst 1, 1) := by decide +kernel
theorem d_S_joined_32 : decode m_S_joined.2.1 32 = .ok (.if_icmp .le 5, 3) := by decide +kernel
theorem d_S_joined_35 : decode m_S_joined.2.1 35 = .ok (.iconst (-1), 1) := by decide +kernel
theorem d_S_joined_36 : decode m_S_joined.2.1 36 = .ok (.ireturn, 1) := by decide +kernel
theorem d_S_joined_37 : decode m_S_joined.2.1 37 = .ok (.aload_n 0, 1) := by decide +kernel
theorem d_S_joined_38 : decode m_S_joined.2.1 38 = .ok (.aload 4, 2) := by decide +kernel
theorem d_S_joined_40 : decode m_S_joined.2.1 40 = .ok (.aload 5, 2) := by decide +kernel
theorem d_S_joined_42 : decode m_S_joined.2.1 42 = .ok (.invokevirtual 154, 3) := by decide +kernel
theorem d_S_joined_45 : decode m_S_joined.2.1 45 = .ok (.astore 6, 2) := by decide +kernel
theorem d_S_joined_47 : decode m_S_joined.2.1 47 = .ok (.aload 6, 2) := by decide +kernel
theorem d_S_joined_49 : decode m_S_joined.2.1 49 = .ok (.ifnonnull 8, 3) := by decide +kernel
theorem d_S_joined_52 : decode m_S_joined.2.1 52 = .ok (.bipush (-2), 2) := by decide +kernel
theorem d_S_joined_54 : decode m_S_joined.2.1 54 = .ok (.goto 10, 3) := by decide +kernel
theorem d_S_joined_57 : decode m_S_joined.2.1 57 = .ok (.aload_n 0, 1) := by decide +kernel
theorem d_S_joined_58 : decode m_S_joined.2.1 58 = .ok (.aload 6, 2) := by decide +kernel
theorem d_S_joined_60 : decode m_S_joined.2.1 60 = .ok (.iload_n 3, 1) := by decide +kernel
theorem d_S_joined_61 : decode m_S_joined.2.1 61 = .ok (.invokevirtual 281, 3) := by decide +kernel
theorem d_S_joined_64 : decode m_S_joined.2.1 64 = .ok (.ireturn, 1) := by decide +kernel
theorem b_S_joined_0 {E : EV} {d : Nat} {Q : Option AV → St → Prop} {σ : St} (x1 x2 x3 : Int) (hF : Fix σ) (h : (WMr E m_S_squareAt d [aP 1, aI x1, aI x2] σ (fun v1 σ1 => Fix σ1 ∧ (WMr E m_S_squareBehind d [aP 1, aI x1, aI x2] σ1 (fun v2 σ2 => Fix σ2 ∧ ((v1 = 0 → Q (some (aI (-1))) σ2) ∧ (¬ v1 = 0 → ((v2 = 0 → Q (some (aI (-1))) σ2) ∧ (¬ v2 = 0 → (rI x3) ∧ ((x3 < 0 → Q (some (aI (-1))) σ2) ∧ (¬ x3 < 0 → (rI x3) ∧ ((x3 ≤ 1 → (WMr E m_S_bothJoined d [aP 1, aP v1, aP v2] σ2 (fun v5 σ5 => Fix σ5 ∧ ((¬ v5 = 0 → (WMi E m_S_scaleOf d [aP 1, aP v5, aI x3] σ5 (fun v6 σ6 => Q (some (aI v6)) σ6))) ∧ (v5 = 0 → Q (some (aI (-2))) σ5))))) ∧ (¬ x3 ≤ 1 → Q (some (aI (-1))) σ2))))))))))))) : WP E m_S_joined (d + 1) 0 [(0, aP 1), (1, aI x1), (2, aI x2), (3, aI x3)] [] σ Q := by
  refine s_aload_n 0 d_S_joined_0 rfl rfl ?_
  refine s_iload_n 1 d_S_joined_1 rfl rfl ?_
  refine s_iload_n 2 d_S_joined_2 rfl rfl ?_
  refine s_callV (as := [aI x1, aI x2]) (ci := 9) d_S_joined_3 ok_S_squareAt lk_S_99 io_S_squareAt so_S_squareAt (by decide) rfl rfl rfl (Nat.le_of_ble_eq_true rfl) rfl (sf_1 hF) (WM.mono h ?_)
  rintro _ σ1 ⟨v1, rfl, hp, h⟩
  obtain ⟨hF1, h⟩ := h
  show WP E m_S_joined (d + 1) 6 [(0, aP 1), (1, aI x1), (2, aI x2), (3, aI x3)] [aP v1] σ1 Q
  refine s_astore d_S_joined_6 (by decide) rfl ?_
  refine s_aload_n 1 d_S_joined_8 rfl rfl ?_
  refine s_iload_n 2 d_S_joined_9 rfl rfl ?_
  refine s_iload_n 3 d_S_joined_10 rfl rfl ?_
  refine s_callV (as := [aI x1, aI x2]) (ci := 9) d_S_joined_11 ok_S_squareBehind lk_S_151 io_S_squareBehind so_S_squareBehind (by decide) rfl rfl rfl (Nat.le_of_ble_eq_true rfl) rfl (sf_1 hF1) (WM.mono h ?_)
  rintro _ σ2 ⟨v2, rfl, hp, h⟩
  obtain ⟨hF2, h⟩ := h
  show WP E m_S_joined (d + 1) 14 [(4, aP v1), (0, aP 1), (1, aI x1), (2, aI x2), (3, aI x3)] [aP v2] σ2 Q
  refine s_astore d_S_joined_14 (by decide) rfl ?_
  refine s_aload 1 d_S_joined_16 rfl ?_
  refine s_ifnull d_S_joined_18 rfl (fun c => ?_) (fun c => ?_)
  · have h := h.1 c
    refine s_iconst d_S_joined_35 ?_
    exact s_ireturn d_S_joined_36 rfl h
  · have h := h.2 c
    refine s_aload 0 d_S_joined_21 rfl ?_
    refine s_ifnull d_S_joined_23 rfl (fun c => ?_) (fun c => ?_)
    · have h := h.1 c
      refine s_iconst d_S_joined_35 ?_
      exact s_ireturn d_S_joined_36 rfl h
    · have h := h.2 c
      refine s_iload_n 5 d_S_joined_26 rfl rfl ?_
      obtain ⟨g3, h⟩ := h
      refine s_if_lt d_S_joined_27 rfl g3 (fun c => ?_) (fun c => ?_)
      · have h := h.1 c
        refine s_iconst d_S_joined_35 ?_
        exact s_ireturn d_S_joined_36 rfl h
      · have h := h.2 c
        refine s_iload_n 5 d_S_joined_30 rfl rfl ?_
        refine s_iconst d_S_joined_31 ?_
        obtain ⟨g4, h⟩ := h
        refine s_icmp_le d_S_joined_32 rfl g4 (by decide) (fun c => ?_) (fun c => ?_)
        · have h := h.1 c
          refine s_aload_n 2 d_S_joined_37 rfl rfl ?_
          refine s_aload 1 d_S_joined_38 rfl ?_
          refine s_aload 0 d_S_joined_40 rfl ?_
          refine s_callV (as := [aP v1, aP v2]) (ci := 9) d_S_joined_42 ok_S_bothJoined lk_S_154 io_S_bothJoined so_S_bothJoined (by decide) rfl rfl rfl (Nat.le_of_ble_eq_true rfl) rfl (sf_1 hF2) (WM.mono h ?_)
          rintro _ σ5 ⟨v5, rfl, hp, h⟩
          obtain ⟨hF5, h⟩ := h
          show WP E m_S_joined (d + 1) 45 [(5, aP v2), (4, aP v1), (0, aP 1), (1, aI x1), (2, aI x2), (3, aI x3)] [aP v5] σ5 Q
          refine s_astore d_S_joined_45 (by decide) rfl ?_
          refine s_aload 0 d_S_joined_47 rfl ?_
          refine s_ifnonnull d_S_joined_49 rfl (fun c => ?_) (fun c => ?_)
          · have h := h.1 c
            refine s_aload_n 3 d_S_joined_57 rfl rfl ?_
            refine s_aload 0 d_S_joined_58 rfl ?_
            refine s_iload_n 6 d_S_joined_60 rfl rfl ?_
            refine s_callV (as := [aP v5, aI x3]) (ci := 9) d_S_joined_61 ok_S_scaleOf lk_S_281 io_S_scaleOf so_S_scaleOf (by decide) rfl rfl rfl (Nat.le_of_ble_eq_true rfl) rfl (sf_1 hF5) (WM.mono h ?_)
            rintro _ σ6 ⟨v6, rfl, hp, h⟩
            show WP E m_S_joined (d + 1) 64 [(6, aP v5), (5, aP v2), (4, aP v1), (0, aP 1), (1, aI x1), (2, aI x2), (3, aI x3)] [aI v6] σ6 Q
            exact s_ireturn d_S_joined_64 rfl h
          · have h := h.2 c
            refine s_bipush d_S_joined_52 (by decide) ?_
            refine s_goto d_S_joined_54 rfl ?_
            exact s_ireturn d_S_joined_64 rfl h
        · have h := h.2 c
          refine s_iconst d_S_joined_35 ?_
          exact s_ireturn d_S_joined_36 rfl h
theorem e_S_joined {E : EV} {d : Nat} {Q : Option AV → St → Prop} {σ : St} (x1 x2 x3 : Int) (hF : Fix σ) (h : (WMr E m_S_squareAt d [aP 1, aI x1, aI x2] σ (fun v1 σ1 => Fix σ1 ∧ (WMr E m_S_squareBehind d [aP 1, aI x1, aI x2] σ1 (fun v2 σ2 => Fix σ2 ∧ ((v1 = 0 → Q (some (aI (-1))) σ2) ∧ (¬ v1 = 0 → ((v2 = 0 → Q (some (aI (-1))) σ2) ∧ (¬ v2 = 0 → (rI x3) ∧ ((x3 < 0 → Q (some (aI (-1))) σ2) ∧ (¬ x3 < 0 → (rI x3) ∧ ((x3 ≤ 1 → (WMr E m_S_bothJoined d [aP 1, aP v1, aP v2] σ2 (fun v5 σ5 => Fix σ5 ∧ ((¬ v5 = 0 → (WMi E m_S_scaleOf d [aP 1, aP v5, aI x3] σ5 (fun v6 σ6 => Q (some (aI v6)) σ6))) ∧ (v5 = 0 → Q (some (aI (-2))) σ5))))) ∧ (¬ x3 ≤ 1 → Q (some (aI (-1))) σ2))))))))))))) : WM E m_S_joined (d + 1) [aP 1, aI x1, aI x2, aI x3] σ Q := s_meth (by decide) (Nat.le_of_ble_eq_true rfl) rfl (b_S_joined_0 x1 x2 x3 hF h)
theorem d_S_spell_0 : decode m_S_spell.2.1 0 = .ok (.aload_n 0, 1) := by decide +kernel
theorem d_S_spell_1 : decode m_S_spell.2.1 1 = .ok (.iload_n 1, 1) := by decide +kernel
theorem d_S_spell_2 : decode m_S_spell.2.1 2 = .ok (.invokevirtual 158, 3) := by decide +kernel
theorem d_S_spell_5 : decode m_S_spell.2.1 5 = .ok (.astore 4, 2) := by decide +kernel
theorem d_S_spell_7 : decode m_S_spell.2.1 7 = .ok (.aload_n 0, 1) := by decide +kernel
theorem d_S_spell_8 : decode m_S_spell.2.1 8 = .ok (.getfield 59, 3) := by decide +kernel
theorem d_S_spell_11 : decode m_S_spell.2.1 11 = .ok (.iload_n 3, 1) := by decide +kernel
theorem d_S_spell_12 : decode m_S_spell.2.1 12 = .ok (.invokevirtual 331, 3) := by decide +kernel
theorem d_S_spell_15 : decode m_S_spell.2.1 15 = .ok (.iload_n 1, 1) := by decide +kernel
theorem d_S_spell_16 : decode m_S_spell.2.1 16 = .ok (.iconst (-1), 1) := by decide +kernel
theorem d_S_spell_17 : decode m_S_spell.2.1 17 = .ok (.if_icmp .ne 21, 3) := by decide +kernel
theorem d_S_spell_20 : decode m_S_spell.2.1 20 = .ok (.aload_n 0, 1) := by decide +kernel
theorem d_S_spell_21 : decode m_S_spell.2.1 21 = .ok (.getfield 59, 3) := by decide +kernel
theorem d_S_spell_24 : decode m_S_spell.2.1 24 = .ok (.aload_n 0, 1) := by decide +kernel
theorem d_S_spell_25 : decode m_S_spell.2.1 25 = .ok (.getfield 10, 3) := by decide +kernel
theorem d_S_spell_28 : decode m_S_spell.2.1 28 = .ok (.aload_n 0, 1) := by decide +kernel
theorem d_S_spell_29 : decode m_S_spell.2.1 29 = .ok (.getfield 23, 3) := by decide +kernel
theorem d_S_spell_32 : decode m_S_spell.2.1 32 = .ok (.invokevirtual 333, 3) := by decide +kernel
theorem d_S_spell_35 : decode m_S_spell.2.1 35 = .ok (.goto 57, 3) := by decide +kernel
theorem d_S_spell_38 : decode m_S_spell.2.1 38 = .ok (.aload 4, 2) := by decide +kernel
theorem d_S_spell_40 : decode m_S_spell.2.1 40 = .ok (.ifnonnull 5, 3) := by decide +kernel
theorem d_S_spell_43 : decode m_S_spell.2.1 43 = .ok (.iconst (-1), 1) := by decide +kernel
theorem d_S_spell_44 : decode m_S_spell.2.1 44 = .ok (.ireturn, 1) := by decide +kernel
theorem d_S_spell_45 : decode m_S_spell.2.1 45 = .ok (.iload_n 2, 1) := by decide +kernel
theorem d_S_spell_46 : decode m_S_spell.2.1 46 = .ok (.iconst (-1), 1) := by decide +kernel
theorem d_S_spell_47 : decode m_S_spell.2.1 47 = .ok (.if_icmp .ne 15, 3) := by decide +kernel
theorem d_S_spell_50 : decode m_S_spell.2.1 50 = .ok (.aload_n 0, 1) := by decide +kernel
theorem d_S_spell_51 : decode m_S_spell.2.1 51 = .ok (.getfield 59, 3) := by decide +kernel
theorem d_S_spell_54 : decode m_S_spell.2.1 54 = .ok (.aload 4, 2) := by decide +kernel
theorem d_S_spell_56 : decode m_S_spell.2.1 56 = .ok (.invokevirtual 337, 3) := by decide +kernel
theorem d_S_spell_59 : decode m_S_spell.2.1 59 = .ok (.goto 33, 3) := by decide +kernel
theorem d_S_spell_62 : decode m_S_spell.2.1 62 = .ok (.aload 4, 2) := by decide +kernel
theorem d_S_spell_64 : decode m_S_spell.2.1 64 = .ok (.iload_n 2, 1) := by decide +kernel
theorem d_S_spell_65 : decode m_S_spell.2.1 65 = .ok (.invokevirtual 212, 3) := by decide +kernel
theorem d_S_spell_68 : decode m_S_spell.2.1 68 = .ok (.ifCond .eq 22, 3) := by decide +kernel
theorem d_S_spell_71 : decode m_S_spell.2.1 71 = .ok (.aload_n 0, 1) := by decide +kernel
theorem d_S_spell_72 : decode m_S_spell.2.1 72 = .ok (.getfield 59, 3) := by decide +kernel
theorem d_S_spell_75 : decode m_S_spell.2.1 75 = .ok (.aload 4, 2) := by decide +kernel
theorem d_S_spell_77 : decode m_S_spell.2.1 77 = .ok (.iload_n 2, 1) := by decide +kernel
theorem d_S_spell_78 : decode m_S_spell.2.1 78 = .ok (.invokevirtual 319, 3) := by decide +kernel
theorem d_S_spell_81 : decode m_S_spell.2.1 81 = .ok (.iconst 0, 1) := by decide +kernel
theorem d_S_spell_82 : decode m_S_spell.2.1 82 = .ok (.iconst (-1), 1) := by decide +kernel
theorem d_S_spell_83 : decode m_S_spell.2.1 83 = .ok (.invokevirtual 341, 3) := by decide +kernel
theorem d_S_spell_86 : decode m_S_spell.2.1 86 = .ok (.pop, 1) := by decide +kernel
theorem d_S_spell_87 : decode m_S_spell.2.1 87 = .ok (.goto 5, 3) := by decide +kernel
theorem d_S_spell_90 : decode m_S_spell.2.1 90 = .ok (.iconst (-1), 1) := by decide +kernel
theorem d_S_spell_91 : decode m_S_spell.2.1 91 = .ok (.ireturn, 1) := by decide +kernel
theorem d_S_spell_92 : decode m_S_spell.2.1 92 = .ok (.aload_n 0, 1) := by decide +kernel
theorem d_S_spell_93 : decode m_S_spell.2.1 93 = .ok (.getfield 59, 3) := by decide +kernel
theorem d_S_spell_96 : decode m_S_spell.2.1 96 = .ok (.invokevirtual 329, 3) := by decide +kernel
theorem d_S_spell_99 : decode m_S_spell.2.1 99 = .ok (.ireturn, 1) := by decide +kernel
theorem b_S_spell_0 {E : EV} {d : Nat} {Q : Option AV → St → Prop} {σ : St} (x1 x2 x3 : Int) (hF : Fix σ) (h : (WMr E m_S_lineAt d [aP 1, aI x1] σ (fun v1 σ1 => Fix σ1 ∧ (WMv E m_Speller_begin d [aP 31, aI x3] σ1 (fun σ2 => Fix σ2 ∧ (rI x1) ∧ ((¬ x1 = (-1) → ((¬ v1 = 0 → (rI x2) ∧ ((¬ x2 = (-1) → (sh σ2 v1 = some (3, 2)) ∧ (WMi E m_Line_has d [aP v1, aI x2] σ2 (fun v5 σ5 => Fix σ5 ∧ (rI v5) ∧ ((v5 = 0 → Q (some (aI (-1))) σ5) ∧ (¬ v5 = 0 → (sh σ5 v1 = some (3, 2)) ∧ (WMr E m_Line_get d [aP v1, aI x2] σ5 (fun v8 σ8 => Fix σ8 ∧ (WMi E m_Speller_writePart d [aP 31, aP v8, aI 0, aI (-1)] σ8 (fun v10 σ10 => WP E m_S_spell (d + 1) 92 [(0, aP 1)] [] σ10 Q))))))))) ∧ (x2 = (-1) → (WMv E m_Speller_writeLine d [aP 31, aP v1] σ2 (fun σ11 => WP E m_S_spell (d + 1) 92 [(0, aP 1)] [] σ11 Q))))) ∧ (v1 = 0 → Q (some (aI (-1))) σ2))) ∧ (x1 = (-1) → (WMv E m_Speller_writeAll d [aP 31, aP (σ2.1 1 0), aP (σ2.1 1 1)] σ2 (fun σ12 => WP E m_S_spell (d + 1) 92 [(0, aP 1)] [] σ12 Q))))))))) : WP E m_S_spell (d + 1) 0 [(0, aP 1), (1, aI x1), (2, aI x2), (3, aI x3)] [] σ Q := by
  refine s_aload_n 0 d_S_spell_0 rfl rfl ?_
  refine s_iload_n 1 d_S_spell_1 rfl rfl ?_
  refine s_callV (as := [aI x1]) (ci := 9) d_S_spell_2 ok_S_lineAt lk_S_158 io_S_lineAt so_S_lineAt (by decide) rfl rfl rfl (Nat.le_of_ble_eq_true rfl) rfl (sf_1 hF) (WM.mono h ?_)
  rintro _ σ1 ⟨v1, rfl, hp, h⟩
  obtain ⟨hF1, h⟩ := h
  show WP E m_S_spell (d + 1) 5 [(0, aP 1), (1, aI x1), (2, aI x2), (3, aI x3)] [aP v1] σ1 Q
  refine s_astore d_S_spell_5 (by decide) rfl ?_
  refine s_aload_n 1 d_S_spell_7 rfl rfl ?_
  refine s_getF (v := 31) d_S_spell_8 fl_S_59 rfl (sf_1 hF1) (ff_4 hF1) ?_
  refine s_iload_n 4 d_S_spell_11 rfl rfl ?_
  refine s_callV (as := [aI x3]) (ci := 6) d_S_spell_12 ok_Speller_begin lk_S_331 io_Speller_begin so_Speller_begin (by decide) rfl rfl rfl (Nat.le_of_ble_eq_true rfl) rfl (sf_31 hF1) (WM.mono h ?_)
  rintro _ σ2 ⟨rfl, hp, h⟩
  obtain ⟨hF2, h⟩ := h
  show WP E m_S_spell (d + 1) 15 [(4, aP v1), (0, aP 1), (1, aI x1), (2, aI x2), (3, aI x3)] [] σ2 Q
  refine s_iload_n 2 d_S_spell_15 rfl rfl ?_
  refine s_iconst d_S_spell_16 ?_
  obtain ⟨g3, h⟩ := h
  refine s_icmp_ne d_S_spell_17 rfl g3 (by decide) (fun c => ?_) (fun c => ?_)
  · have h := h.1 c
    refine s_aload 0 d_S_spell_38 rfl ?_
    refine s_ifnonnull d_S_spell_40 rfl (fun c => ?_) (fun c => ?_)
    · have h := h.1 c
      refine s_iload_n 3 d_S_spell_45 rfl rfl ?_
      refine s_iconst d_S_spell_46 ?_
      obtain ⟨g4, h⟩ := h
      refine s_icmp_ne d_S_spell_47 rfl g4 (by decide) (fun c => ?_) (fun c => ?_)
      · have h := h.1 c
        refine s_aload 0 d_S_spell_62 rfl ?_
        refine s_iload_n 3 d_S_spell_64 rfl rfl ?_
        obtain ⟨g6, h⟩ := h
        refine s_callV (as := [aI x2]) (ci := 3) d_S_spell_65 ok_Line_has lk_S_212 io_Line_has so_Line_has (by decide) rfl rfl rfl (Nat.le_of_ble_eq_true rfl) rfl g6 (WM.mono h ?_)
        rintro _ σ5 ⟨v5, rfl, hp, h⟩
        obtain ⟨hF6, h⟩ := h
        show WP E m_S_spell (d + 1) 68 [(4, aP v1), (0, aP 1), (1, aI x1), (2, aI x2), (3, aI x3)] [aI v5] σ5 Q
        obtain ⟨g7, h⟩ := h
        refine s_if_eq d_S_spell_68 rfl g7 (fun c => ?_) (fun c => ?_)
        · have h := h.1 c
          refine s_iconst d_S_spell_90 ?_
          exact s_ireturn d_S_spell_91 rfl h
        · have h := h.2 c
          refine s_aload_n 1 d_S_spell_71 rfl rfl ?_
          refine s_getF (v := 31) d_S_spell_72 fl_S_59 rfl (sf_1 hF6) (ff_4 hF6) ?_
          refine s_aload 0 d_S_spell_75 rfl ?_
          refine s_iload_n 3 d_S_spell_77 rfl rfl ?_
          obtain ⟨g9, h⟩ := h
          refine s_callV (as := [aI x2]) (ci := 3) d_S_spell_78 ok_Line_get lk_S_319 io_Line_get so_Line_get (by decide) rfl rfl rfl (Nat.le_of_ble_eq_true rfl) rfl g9 (WM.mono h ?_)
          rintro _ σ8 ⟨v8, rfl, hp, h⟩
          obtain ⟨hF9, h⟩ := h
          show WP E m_S_spell (d + 1) 81 [(4, aP v1), (0, aP 1), (1, aI x1), (2, aI x2), (3, aI x3)] [aP v8, aP 31] σ8 Q
          refine s_iconst d_S_spell_81 ?_
          refine s_iconst d_S_spell_82 ?_
          refine s_callV (as := [aP v8, aI 0, aI (-1)]) (ci := 6) d_S_spell_83 ok_Speller_writePart lk_S_341 io_Speller_writePart so_Speller_writePart (by decide) rfl rfl rfl (Nat.le_of_ble_eq_true rfl) rfl (sf_31 hF9) (WM.mono h ?_)
          rintro _ σ10 ⟨v10, rfl, hp, h⟩
          show WP E m_S_spell (d + 1) 86 [(4, aP v1), (0, aP 1), (1, aI x1), (2, aI x2), (3, aI x3)] [aI v10] σ10 Q
          refine s_pop d_S_spell_86 (Nat.ne_of_beq_eq_false rfl) ?_
          refine s_goto d_S_spell_87 rfl ?_
          refine wp_drop [1] rfl ?_
          exact h
      · have h := h.2 c
        refine s_aload_n 1 d_S_spell_50 rfl rfl ?_
        refine s_getF (v := 31) d_S_spell_51 fl_S_59 rfl (sf_1 hF2) (ff_4 hF2) ?_
        refine s_aload 0 d_S_spell_54 rfl ?_
        refine s_callV (as := [aP v1]) (ci := 6) d_S_spell_56 ok_Speller_writeLine lk_S_337 io_Speller_writeLine so_Speller_writeLine (by decide) rfl rfl rfl (Nat.le_of_ble_eq_true rfl) rfl (sf_31 hF2) (WM.mono h ?_)
        rintro _ σ11 ⟨rfl, hp, h⟩
        show WP E m_S_spell (d + 1) 59 [(4, aP v1), (0, aP 1), (1, aI x1), (2, aI x2), (3, aI x3)] [] σ11 Q
        refine s_goto d_S_spell_59 rfl ?_
        refine wp_drop [1] rfl ?_
        exact h
    · have h := h.2 c
      refine s_iconst d_S_spell_43 ?_
      exact s_ireturn d_S_spell_44 rfl h
  · have h := h.2 c
    refine s_aload_n 1 d_S_spell_20 rfl rfl ?_
    refine s_getF (v := 31) d_S_spell_21 fl_S_59 rfl (sf_1 hF2) (ff_4 hF2) ?_
    refine s_aload_n 1 d_S_spell_24 rfl rfl ?_
    refine s_getF (v := σ2.1 1 0) d_S_spell_25 fl_S_10 rfl (sf_1 hF2) rfl ?_
    refine s_aload_n 1 d_S_spell_28 rfl rfl ?_
    refine s_getF (v := σ2.1 1 1) d_S_spell_29 fl_S_23 rfl (sf_1 hF2) rfl ?_
    refine s_callV (as := [aP (σ2.1 1 0), aP (σ2.1 1 1)]) (ci := 6) d_S_spell_32 ok_Speller_writeAll lk_S_333 io_Speller_writeAll so_Speller_writeAll (by decide) rfl rfl rfl (Nat.le_of_ble_eq_true rfl) rfl (sf_31 hF2) (WM.mono h ?_)
    rintro _ σ12 ⟨rfl, hp, h⟩
    show WP E m_S_spell (d + 1) 35 [(4, aP v1), (0, aP 1), (1, aI x1), (2, aI x2), (3, aI x3)] [] σ12 Q
    refine s_goto d_S_spell_35 rfl ?_
    refine wp_drop [1] rfl ?_
    exact h
theorem e_S_spell {E : EV} {d : Nat} {Q : Option AV → St → Prop} {σ : St} (x1 x2 x3 : Int) (hF : Fix σ) (h : (WMr E m_S_lineAt d [aP 1, aI x1] σ (fun v1 σ1 => Fix σ1 ∧ (WMv E m_Speller_begin d [aP 31, aI x3] σ1 (fun σ2 => Fix σ2 ∧ (rI x1) ∧ ((¬ x1 = (-1) → ((¬ v1 = 0 → (rI x2) ∧ ((¬ x2 = (-1) → (sh σ2 v1 = some (3, 2)) ∧ (WMi E m_Line_has d [aP v1, aI x2] σ2 (fun v5 σ5 => Fix σ5 ∧ (rI v5) ∧ ((v5 = 0 → Q (some (aI (-1))) σ5) ∧ (¬ v5 = 0 → (sh σ5 v1 = some (3, 2)) ∧ (WMr E m_Line_get d [aP v1, aI x2] σ5 (fun v8 σ8 => Fix σ8 ∧ (WMi E m_Speller_writePart d [aP 31, aP v8, aI 0, aI (-1)] σ8 (fun v10 σ10 => WP E m_S_spell (d + 1) 92 [(0, aP 1)] [] σ10 Q))))))))) ∧ (x2 = (-1) → (WMv E m_Speller_writeLine d [aP 31, aP v1] σ2 (fun σ11 => WP E m_S_spell (d + 1) 92 [(0, aP 1)] [] σ11 Q))))) ∧ (v1 = 0 → Q (some (aI (-1))) σ2))) ∧ (x1 = (-1) → (WMv E m_Speller_writeAll d [aP 31, aP (σ2.1 1 0), aP (σ2.1 1 1)] σ2 (fun σ12 => WP E m_S_spell (d + 1) 92 [(0, aP 1)] [] σ12 Q))))))))) : WM E m_S_spell (d + 1) [aP 1, aI x1, aI x2, aI x3] σ Q := s_meth (by decide) (Nat.le_of_ble_eq_true rfl) rfl (b_S_spell_0 x1 x2 x3 hF h)
theorem b_S_spell_92 {E : EV} {d : Nat} {Q : Option AV → St → Prop} {σ : St} (hF : Fix σ) (h : (WMi E m_Speller_told d [aP 31] σ (fun v1 σ1 => Q (some (aI v1)) σ1))) : WP E m_S_spell (d + 1) 92 [(0, aP 1)] [] σ Q := by
  refine s_aload_n 0 d_S_spell_92 rfl rfl ?_
  refine s_getF (v := 31) d_S_spell_93 fl_S_59 rfl (sf_1 hF) (ff_4 hF) ?_
  refine s_callV (as := []) (ci := 6) d_S_spell_96 ok_Speller_told lk_S_329 io_Speller_told so_Speller_told (by decide) rfl rfl rfl (Nat.le_of_ble_eq_true rfl) rfl (sf_31 hF) (WM.mono h ?_)
  rintro _ σ1 ⟨v1, rfl, hp, h⟩
  show WP E m_S_spell (d + 1) 99 [(0, aP 1)] [aI v1] σ1 Q
  exact s_ireturn d_S_spell_99 rfl h
theorem d_S_count_0 : decode m_S_count.2.1 0 = .ok (.iload_n 1, 1) := by decide +kernel
theorem d_S_count_1 : decode m_S_count.2.1 1 = .ok (.tableswitch 121 0 8 #[51, 60, 68, 76, 84, 92, 100, 105, 113], 51) := by decide +kernel
theorem d_S_count_52 : decode m_S_count.2.1 52 = .ok (.aload_n 0, 1) := by decide +kernel
theorem d_S_count_53 : decode m_S_count.2.1 53 = .ok (.getfield 23, 3) := by decide +kernel
theorem d_S_count_56 : decode m_S_count.2.1 56 = .ok (.getfield 95, 3) := by decide +kernel
theorem d_S_count_59 : decode m_S_count.2.1 59 = .ok (.arraylength, 1) := by decide +kernel
theorem d_S_count_60 : decode m_S_count.2.1 60 = .ok (.ireturn, 1) := by decide +kernel
theorem d_S_count_61 : decode m_S_count.2.1 61 = .ok (.aload_n 0, 1) := by decide +kernel
theorem d_S_count_62 : decode m_S_count.2.1 62 = .ok (.getfield 23, 3) := by decide +kernel
theorem d_S_count_65 : decode m_S_count.2.1 65 = .ok (.invokevirtual 345, 3) := by decide +kernel
theorem d_S_count_68 : decode m_S_count.2.1 68 = .ok (.ireturn, 1) := by decide +kernel
theorem d_S_count_69 : decode m_S_count.2.1 69 = .ok (.aload_n 0, 1) := by decide +kernel
theorem d_S_count_70 : decode m_S_count.2.1 70 = .ok (.getfield 23, 3) := by decide +kernel
theorem d_S_count_73 : decode m_S_count.2.1 73 = .ok (.invokevirtual 347, 3) := by decide +kernel
theorem d_S_count_76 : decode m_S_count.2.1 76 = .ok (.ireturn, 1) := by decide +kernel
theorem d_S_count_77 : decode m_S_count.2.1 77 = .ok (.aload_n 0, 1) := by decide +kernel
theorem d_S_count_78 : decode m_S_count.2.1 78 = .ok (.getfield 10, 3) := by decide +kernel
theorem d_S_count_81 : decode m_S_count.2.1 81 = .ok (.invokevirtual 348, 3) := by decide +kernel
theorem d_S_count_84 : decode m_S_count.2.1 84 = .ok (.ireturn, 1) := by decide +kernel
theorem d_S_count_85 : decode m_S_count.2.1 85 = .ok (.aload_n 0, 1) := by decide +kernel
theorem d_S_count_86 : decode m_S_count.2.1 86 = .ok (.getfield 23, 3) := by decide +kernel
theorem d_S_count_89 : decode m_S_count.2.1 89 = .ok (.getfield 236, 3) := by decide +kernel
theorem d_S_count_92 : decode m_S_count.2.1 92 = .ok (.ireturn, 1) := by decide +kernel
theorem d_S_count_93 : decode m_S_count.2.1 93 = .ok (.aload_n 0, 1) := by decide +kernel
theorem d_S_count_94 : decode m_S_count.2.1 94 = .ok (.getfield 23, 3) := by decide +kernel
theorem d_S_count_97 : decode m_S_count.2.1 97 = .ok (.getfield 239, 3) := by decide +kernel
theorem d_S_count_100 : decode m_S_count.2.1 100 = .ok (.ireturn, 1) := by decide +kernel
theorem d_S_count_101 : decode m_S_count.2.1 101 = .ok (.aload_n 0, 1) := by decide +kernel
theorem d_S_count_102 : decode m_S_count.2.1 102 = .ok (.getfield 31, 3) := by decide +kernel
theorem d_S_count_105 : decode m_S_count.2.1 105 = .ok (.ireturn, 1) := by decide +kernel
theorem d_S_count_106 : decode m_S_count.2.1 106 = .ok (.aload_n 0, 1) := by decide +kernel
theorem d_S_count_107 : decode m_S_count.2.1 107 = .ok (.getfield 45, 3) := by decide +kernel
theorem d_S_count_110 : decode m_S_count.2.1 110 = .ok (.getfield 70, 3) := by decide +kernel
theorem d_S_count_113 : decode m_S_count.2.1 113 = .ok (.ireturn, 1) := by decide +kernel
theorem d_S_count_114 : decode m_S_count.2.1 114 = .ok (.aload_n 0, 1) := by decide +kernel
theorem d_S_count_115 : decode m_S_count.2.1 115 = .ok (.getfield 10, 3) := by decide +kernel
theorem d_S_count_118 : decode m_S_count.2.1 118 = .ok (.invokevirtual 349, 3) := by decide +kernel
theorem d_S_count_121 : decode m_S_count.2.1 121 = .ok (.ireturn, 1) := by decide +kernel
theorem d_S_count_122 : decode m_S_count.2.1 122 = .ok (.iconst (-1), 1) := by decide +kernel
theorem d_S_count_123 : decode m_S_count.2.1 123 = .ok (.ireturn, 1) := by decide +kernel
theorem b_S_count_0 {E : EV} {d : Nat} {Q : Option AV → St → Prop} {σ : St} (x1 : Int) (hF : Fix σ) (h : (rI x1) ∧ ((x1 = 0 → (sh σ (σ.1 1 1) = some (4, 3)) ∧ (sa σ (σ.1 (σ.1 1 1) 0) 25) ∧ Q (some (aI (ln σ (σ.1 (σ.1 1 1) 0)))) σ) ∧ (x1 = 1 → (sh σ (σ.1 1 1) = some (4, 3)) ∧ (WMi E m_Moment_squares d [aP (σ.1 1 1)] σ (fun v4 σ4 => Q (some (aI v4)) σ4))) ∧ (x1 = 2 → (sh σ (σ.1 1 1) = some (4, 3)) ∧ (WMi E m_Moment_signs d [aP (σ.1 1 1)] σ (fun v6 σ6 => Q (some (aI v6)) σ6))) ∧ (x1 = 3 → (sh σ (σ.1 1 0) = some (8, 4)) ∧ (WMi E m_Table_told d [aP (σ.1 1 0)] σ (fun v8 σ8 => Q (some (aI v8)) σ8))) ∧ (x1 = 4 → (sh σ (σ.1 1 1) = some (4, 3)) ∧ Q (some (aI (σ.1 (σ.1 1 1) 1))) σ) ∧ (x1 = 5 → (sh σ (σ.1 1 1) = some (4, 3)) ∧ Q (some (aI (σ.1 (σ.1 1 1) 2))) σ) ∧ (x1 = 6 → Q (some (aI (σ.1 1 3))) σ) ∧ (x1 = 7 → Q (some (aI (σ.1 12 1))) σ) ∧ (x1 = 8 → (sh σ (σ.1 1 0) = some (8, 4)) ∧ (WMi E m_Table_cores d [aP (σ.1 1 0)] σ (fun v12 σ12 => Q (some (aI v12)) σ12))) ∧ (¬ (0 ≤ x1 ∧ x1 ≤ 8) → Q (some (aI (-1))) σ))) : WP E m_S_count (d + 1) 0 [(0, aP 1), (1, aI x1)] [] σ Q := by
  refine s_iload_n 1 d_S_count_0 rfl rfl ?_
  obtain ⟨g1, h⟩ := h
  by_cases c0 : x1 = 0
  · have h := h.1 c0
    refine s_tableIn d_S_count_1 g1 (by rw [c0]; decide) (by rw [c0]; rfl) (tgt := 52) rfl ?_
    refine s_aload_n 0 d_S_count_52 rfl rfl ?_
    refine s_getF (v := σ.1 1 1) d_S_count_53 fl_S_23 rfl (sf_1 hF) rfl ?_
    obtain ⟨g2, h⟩ := h
    refine s_getF (v := σ.1 (σ.1 1 1) 0) d_S_count_56 fl_S_95 rfl g2 rfl ?_
    obtain ⟨g3, h⟩ := h
    refine s_alenS (by decide) d_S_count_59 g3 ?_
    exact s_ireturn d_S_count_60 rfl h
  by_cases c1 : x1 = 1
  · have h := h.2.1 c1
    refine s_tableIn d_S_count_1 g1 (by rw [c1]; decide) (by rw [c1]; rfl) (tgt := 61) rfl ?_
    refine s_aload_n 0 d_S_count_61 rfl rfl ?_
    refine s_getF (v := σ.1 1 1) d_S_count_62 fl_S_23 rfl (sf_1 hF) rfl ?_
    obtain ⟨g5, h⟩ := h
    refine s_callV (as := []) (ci := 4) d_S_count_65 ok_Moment_squares lk_S_345 io_Moment_squares so_Moment_squares (by decide) rfl rfl rfl (Nat.le_of_ble_eq_true rfl) rfl g5 (WM.mono h ?_)
    rintro _ σ4 ⟨v4, rfl, hp, h⟩
    show WP E m_S_count (d + 1) 68 [(0, aP 1), (1, aI x1)] [aI v4] σ4 Q
    exact s_ireturn d_S_count_68 rfl h
  by_cases c2 : x1 = 2
  · have h := h.2.2.1 c2
    refine s_tableIn d_S_count_1 g1 (by rw [c2]; decide) (by rw [c2]; rfl) (tgt := 69) rfl ?_
    refine s_aload_n 0 d_S_count_69 rfl rfl ?_
    refine s_getF (v := σ.1 1 1) d_S_count_70 fl_S_23 rfl (sf_1 hF) rfl ?_
    obtain ⟨g7, h⟩ := h
    refine s_callV (as := []) (ci := 4) d_S_count_73 ok_Moment_signs lk_S_347 io_Moment_signs so_Moment_signs (by decide) rfl rfl rfl (Nat.le_of_ble_eq_true rfl) rfl g7 (WM.mono h ?_)
    rintro _ σ6 ⟨v6, rfl, hp, h⟩
    show WP E m_S_count (d + 1) 76 [(0, aP 1), (1, aI x1)] [aI v6] σ6 Q
    exact s_ireturn d_S_count_76 rfl h
  by_cases c3 : x1 = 3
  · have h := h.2.2.2.1 c3
    refine s_tableIn d_S_count_1 g1 (by rw [c3]; decide) (by rw [c3]; rfl) (tgt := 77) rfl ?_
    refine s_aload_n 0 d_S_count_77 rfl rfl ?_
    refine s_getF (v := σ.1 1 0) d_S_count_78 fl_S_10 rfl (sf_1 hF) rfl ?_
    obtain ⟨g9, h⟩ := h
    refine s_callV (as := []) (ci := 8) d_S_count_81 ok_Table_told lk_S_348 io_Table_told so_Table_told (by decide) rfl rfl rfl (Nat.le_of_ble_eq_true rfl) rfl g9 (WM.mono h ?_)
    rintro _ σ8 ⟨v8, rfl, hp, h⟩
    show WP E m_S_count (d + 1) 84 [(0, aP 1), (1, aI x1)] [aI v8] σ8 Q
    exact s_ireturn d_S_count_84 rfl h
  by_cases c4 : x1 = 4
  · have h := h.2.2.2.2.1 c4
    refine s_tableIn d_S_count_1 g1 (by rw [c4]; decide) (by rw [c4]; rfl) (tgt := 85) rfl ?_
    refine s_aload_n 0 d_S_count_85 rfl rfl ?_
    refine s_getF (v := σ.1 1 1) d_S_count_86 fl_S_23 rfl (sf_1 hF) rfl ?_
    obtain ⟨g10, h⟩ := h
    refine s_getF (v := σ.1 (σ.1 1 1) 1) d_S_count_89 fl_S_236 rfl g10 rfl ?_
    exact s_ireturn d_S_count_92 rfl h
  by_cases c5 : x1 = 5
  · have h := h.2.2.2.2.2.1 c5
    refine s_tableIn d_S_count_1 g1 (by rw [c5]; decide) (by rw [c5]; rfl) (tgt := 93) rfl ?_
    refine s_aload_n 0 d_S_count_93 rfl rfl ?_
    refine s_getF (v := σ.1 1 1) d_S_count_94 fl_S_23 rfl (sf_1 hF) rfl ?_
    obtain ⟨g11, h⟩ := h
    refine s_getF (v := σ.1 (σ.1 1 1) 2) d_S_count_97 fl_S_239 rfl g11 rfl ?_
    exact s_ireturn d_S_count_100 rfl h
  by_cases c6 : x1 = 6
  · have h := h.2.2.2.2.2.2.1 c6
    refine s_tableIn d_S_count_1 g1 (by rw [c6]; decide) (by rw [c6]; rfl) (tgt := 101) rfl ?_
    refine s_aload_n 0 d_S_count_101 rfl rfl ?_
    refine s_getF (v := σ.1 1 3) d_S_count_102 fl_S_31 rfl (sf_1 hF) rfl ?_
    exact s_ireturn d_S_count_105 rfl h
  by_cases c7 : x1 = 7
  · have h := h.2.2.2.2.2.2.2.1 c7
    refine s_tableIn d_S_count_1 g1 (by rw [c7]; decide) (by rw [c7]; rfl) (tgt := 106) rfl ?_
    refine s_aload_n 0 d_S_count_106 rfl rfl ?_
    refine s_getF (v := 12) d_S_count_107 fl_S_45 rfl (sf_1 hF) (ff_2 hF) ?_
    refine s_getF (v := σ.1 12 1) d_S_count_110 fl_S_70 rfl (sf_12 hF) rfl ?_
    exact s_ireturn d_S_count_113 rfl h
  by_cases c8 : x1 = 8
  · have h := h.2.2.2.2.2.2.2.2.1 c8
    refine s_tableIn d_S_count_1 g1 (by rw [c8]; decide) (by rw [c8]; rfl) (tgt := 114) rfl ?_
    refine s_aload_n 0 d_S_count_114 rfl rfl ?_
    refine s_getF (v := σ.1 1 0) d_S_count_115 fl_S_10 rfl (sf_1 hF) rfl ?_
    obtain ⟨g13, h⟩ := h
    refine s_callV (as := []) (ci := 8) d_S_count_118 ok_Table_cores lk_S_349 io_Table_cores so_Table_cores (by decide) rfl rfl rfl (Nat.le_of_ble_eq_true rfl) rfl g13 (WM.mono h ?_)
    rintro _ σ12 ⟨v12, rfl, hp, h⟩
    show WP E m_S_count (d + 1) 121 [(0, aP 1), (1, aI x1)] [aI v12] σ12 Q
    exact s_ireturn d_S_count_121 rfl h
  have c : ¬ (0 ≤ x1 ∧ x1 ≤ 8) := by omega
  have h := h.2.2.2.2.2.2.2.2.2 c
  refine s_tableOut d_S_count_1 g1 c (tgt := 122) rfl ?_
  refine s_iconst d_S_count_122 ?_
  exact s_ireturn d_S_count_123 rfl h
theorem e_S_count {E : EV} {d : Nat} {Q : Option AV → St → Prop} {σ : St} (x1 : Int) (hF : Fix σ) (h : (rI x1) ∧ ((x1 = 0 → (sh σ (σ.1 1 1) = some (4, 3)) ∧ (sa σ (σ.1 (σ.1 1 1) 0) 25) ∧ Q (some (aI (ln σ (σ.1 (σ.1 1 1) 0)))) σ) ∧ (x1 = 1 → (sh σ (σ.1 1 1) = some (4, 3)) ∧ (WMi E m_Moment_squares d [aP (σ.1 1 1)] σ (fun v4 σ4 => Q (some (aI v4)) σ4))) ∧ (x1 = 2 → (sh σ (σ.1 1 1) = some (4, 3)) ∧ (WMi E m_Moment_signs d [aP (σ.1 1 1)] σ (fun v6 σ6 => Q (some (aI v6)) σ6))) ∧ (x1 = 3 → (sh σ (σ.1 1 0) = some (8, 4)) ∧ (WMi E m_Table_told d [aP (σ.1 1 0)] σ (fun v8 σ8 => Q (some (aI v8)) σ8))) ∧ (x1 = 4 → (sh σ (σ.1 1 1) = some (4, 3)) ∧ Q (some (aI (σ.1 (σ.1 1 1) 1))) σ) ∧ (x1 = 5 → (sh σ (σ.1 1 1) = some (4, 3)) ∧ Q (some (aI (σ.1 (σ.1 1 1) 2))) σ) ∧ (x1 = 6 → Q (some (aI (σ.1 1 3))) σ) ∧ (x1 = 7 → Q (some (aI (σ.1 12 1))) σ) ∧ (x1 = 8 → (sh σ (σ.1 1 0) = some (8, 4)) ∧ (WMi E m_Table_cores d [aP (σ.1 1 0)] σ (fun v12 σ12 => Q (some (aI v12)) σ12))) ∧ (¬ (0 ≤ x1 ∧ x1 ≤ 8) → Q (some (aI (-1))) σ))) : WM E m_S_count (d + 1) [aP 1, aI x1] σ Q := s_meth (by decide) (Nat.le_of_ble_eq_true rfl) rfl (b_S_count_0 x1 hF h)
