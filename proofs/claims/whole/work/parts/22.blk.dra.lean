theorem d_Draft_init_0 : decode m_Draft_init.2.1 0 = .ok (.aload_n 0, 1) := by decide +kernel
theorem d_Draft_init_1 : decode m_Draft_init.2.1 1 = .ok (.invokespecial 3, 3) := by decide +kernel
theorem d_Draft_init_4 : decode m_Draft_init.2.1 4 = .ok (.aload_n 0, 1) := by decide +kernel
theorem d_Draft_init_5 : decode m_Draft_init.2.1 5 = .ok (.bipush 24, 2) := by decide +kernel
theorem d_Draft_init_7 : decode m_Draft_init.2.1 7 = .ok (.newarray .byte, 2) := by decide +kernel
theorem d_Draft_init_9 : decode m_Draft_init.2.1 9 = .ok (.putfield 9, 3) := by decide +kernel
theorem d_Draft_init_12 : decode m_Draft_init.2.1 12 = .ok (.aload_n 0, 1) := by decide +kernel
theorem d_Draft_init_13 : decode m_Draft_init.2.1 13 = .ok (.iconst 0, 1) := by decide +kernel
theorem d_Draft_init_14 : decode m_Draft_init.2.1 14 = .ok (.putfield 15, 3) := by decide +kernel
theorem d_Draft_init_17 : decode m_Draft_init.2.1 17 = .ok (.return_, 1) := by decide +kernel
theorem b_Draft_init_0 {E : EV} {d : Nat} {Q : Option AV → St → Prop} {σ : St} (x0 : Int) (h : (0 < x0) ∧ (sh (al σ 21 24) x0 = some (1, 2)) ∧ (sh (wr (al σ 21 24) x0 0 (nx σ)) x0 = some (1, 2)) ∧ Q none (wr (wr (al σ 21 24) x0 0 (nx σ)) x0 1 0)) : WP E m_Draft_init (d + 1) 0 [(0, aP x0)] [] σ Q := by
  refine s_aload_n 0 d_Draft_init_0 rfl rfl ?_
  obtain ⟨g1, h⟩ := h
  refine s_objInit d_Draft_init_1 lo_Draft_3 lo_inst lo_code g1 (Nat.le_of_ble_eq_true rfl) ?_
  refine s_aload_n 0 d_Draft_init_4 rfl rfl ?_
  refine s_bipush d_Draft_init_5 (by decide) ?_
  refine s_newarray (kd := 21) d_Draft_init_7 (by decide) ac_21 (by decide) ?_
  obtain ⟨g2, h⟩ := h
  refine s_putf 0 rfl d_Draft_init_9 fl_Draft_9 (fun C T h => by cases h; exact Or.inr ⟨rfl, rfl, rfl, fk_Draft_9⟩) rfl (Or.inr (Or.inr (Or.inr (Or.inr ⟨_, rfl⟩)))) (fun h => nomatch h) g2 ?_
  refine s_aload_n 0 d_Draft_init_12 rfl rfl ?_
  refine s_iconst d_Draft_init_13 ?_
  obtain ⟨g3, h⟩ := h
  refine s_putf 1 rfl d_Draft_init_14 fl_Draft_15 (fun C T h => by cases h; exact Or.inl rfl) rfl (Or.inl rfl) (fun h => nomatch h) g3 ?_
  exact s_return d_Draft_init_17 rfl h
theorem e_Draft_init {E : EV} {d : Nat} {Q : Option AV → St → Prop} {σ : St} (x0 : Int) (h : (0 < x0) ∧ (sh (al σ 21 24) x0 = some (1, 2)) ∧ (sh (wr (al σ 21 24) x0 0 (nx σ)) x0 = some (1, 2)) ∧ Q none (wr (wr (al σ 21 24) x0 0 (nx σ)) x0 1 0)) : WM E m_Draft_init (d + 1) [aP x0] σ Q := s_meth (by decide) (Nat.le_of_ble_eq_true rfl) rfl (b_Draft_init_0 x0 h)
theorem d_Draft_clear_0 : decode m_Draft_clear.2.1 0 = .ok (.aload_n 0, 1) := by decide +kernel
theorem d_Draft_clear_1 : decode m_Draft_clear.2.1 1 = .ok (.iconst 0, 1) := by decide +kernel
theorem d_Draft_clear_2 : decode m_Draft_clear.2.1 2 = .ok (.putfield 15, 3) := by decide +kernel
theorem d_Draft_clear_5 : decode m_Draft_clear.2.1 5 = .ok (.return_, 1) := by decide +kernel
theorem b_Draft_clear_0 {E : EV} {d : Nat} {Q : Option AV → St → Prop} {σ : St} (x0 : Int) (h : (sh σ x0 = some (1, 2)) ∧ Q none (wr σ x0 1 0)) : WP E m_Draft_clear d 0 [(0, aP x0)] [] σ Q := by
  refine s_aload_n 0 d_Draft_clear_0 rfl rfl ?_
  refine s_iconst d_Draft_clear_1 ?_
  obtain ⟨g1, h⟩ := h
  refine s_putf 1 rfl d_Draft_clear_2 fl_Draft_15 (fun C T h => by cases h; exact Or.inl rfl) rfl (Or.inl rfl) (fun h => nomatch h) g1 ?_
  exact s_return d_Draft_clear_5 rfl h
theorem e_Draft_clear {E : EV} {d : Nat} {Q : Option AV → St → Prop} {σ : St} (x0 : Int) (h : (sh σ x0 = some (1, 2)) ∧ Q none (wr σ x0 1 0)) : WM E m_Draft_clear d [aP x0] σ Q := s_meth (by decide) (Nat.le_of_ble_eq_true rfl) rfl (b_Draft_clear_0 x0 h)
theorem d_Draft_put_0 : decode m_Draft_put.2.1 0 = .ok (.aload_n 0, 1) := by decide +kernel
theorem d_Draft_put_1 : decode m_Draft_put.2.1 1 = .ok (.aload_n 0, 1) := by decide +kernel
theorem d_Draft_put_2 : decode m_Draft_put.2.1 2 = .ok (.getfield 15, 3) := by decide +kernel
theorem d_Draft_put_5 : decode m_Draft_put.2.1 5 = .ok (.iload_n 1, 1) := by decide +kernel
theorem d_Draft_put_6 : decode m_Draft_put.2.1 6 = .ok (.invokevirtual 31, 3) := by decide +kernel
theorem d_Draft_put_9 : decode m_Draft_put.2.1 9 = .ok (.return_, 1) := by decide +kernel
theorem b_Draft_put_0 {E : EV} {d : Nat} {Q : Option AV → St → Prop} {σ : St} (x0 x1 : Int) (h : (sh σ x0 = some (1, 2)) ∧ (sh σ x0 = some (1, 2)) ∧ (WMv E m_Draft_putAhead d [aP x0, aI (σ.1 x0 1), aI x1] σ (fun σ2 => Q none σ2))) : WP E m_Draft_put (d + 1) 0 [(0, aP x0), (1, aI x1)] [] σ Q := by
  refine s_aload_n 0 d_Draft_put_0 rfl rfl ?_
  refine s_aload_n 0 d_Draft_put_1 rfl rfl ?_
  obtain ⟨g1, h⟩ := h
  refine s_getF (v := σ.1 x0 1) d_Draft_put_2 fl_Draft_15 rfl g1 rfl ?_
  refine s_iload_n 1 d_Draft_put_5 rfl rfl ?_
  obtain ⟨g3, h⟩ := h
  refine s_callV (as := [aI (σ.1 x0 1), aI x1]) (ci := 1) d_Draft_put_6 ok_Draft_putAhead lk_Draft_31 io_Draft_putAhead so_Draft_putAhead (by decide) rfl rfl rfl (Nat.le_of_ble_eq_true rfl) rfl g3 (WM.mono h ?_)
  rintro _ σ2 ⟨rfl, hp, h⟩
  show WP E m_Draft_put (d + 1) 9 [(0, aP x0), (1, aI x1)] [] σ2 Q
  exact s_return d_Draft_put_9 rfl h
theorem e_Draft_put {E : EV} {d : Nat} {Q : Option AV → St → Prop} {σ : St} (x0 x1 : Int) (h : (sh σ x0 = some (1, 2)) ∧ (sh σ x0 = some (1, 2)) ∧ (WMv E m_Draft_putAhead d [aP x0, aI (σ.1 x0 1), aI x1] σ (fun σ2 => Q none σ2))) : WM E m_Draft_put (d + 1) [aP x0, aI x1] σ Q := s_meth (by decide) (Nat.le_of_ble_eq_true rfl) rfl (b_Draft_put_0 x0 x1 h)
theorem d_Draft_putAhead_0 : decode m_Draft_putAhead.2.1 0 = .ok (.iload_n 1, 1) := by decide +kernel
theorem d_Draft_putAhead_1 : decode m_Draft_putAhead.2.1 1 = .ok (.ifCond .lt 20, 3) := by decide +kernel
theorem d_Draft_putAhead_4 : decode m_Draft_putAhead.2.1 4 = .ok (.iload_n 1, 1) := by decide +kernel
theorem d_Draft_putAhead_5 : decode m_Draft_putAhead.2.1 5 = .ok (.aload_n 0, 1) := by decide +kernel
theorem d_Draft_putAhead_6 : decode m_Draft_putAhead.2.1 6 = .ok (.getfield 15, 3) := by decide +kernel
theorem d_Draft_putAhead_9 : decode m_Draft_putAhead.2.1 9 = .ok (.if_icmp .gt 12, 3) := by decide +kernel
theorem d_Draft_putAhead_12 : decode m_Draft_putAhead.2.1 12 = .ok (.aload_n 0, 1) := by decide +kernel
theorem d_Draft_putAhead_13 : decode m_Draft_putAhead.2.1 13 = .ok (.getfield 15, 3) := by decide +kernel
theorem d_Draft_putAhead_16 : decode m_Draft_putAhead.2.1 16 = .ok (.bipush 24, 2) := by decide +kernel
theorem d_Draft_putAhead_18 : decode m_Draft_putAhead.2.1 18 = .ok (.if_icmp .lt 4, 3) := by decide +kernel
theorem d_Draft_putAhead_21 : decode m_Draft_putAhead.2.1 21 = .ok (.return_, 1) := by decide +kernel
theorem d_Draft_putAhead_22 : decode m_Draft_putAhead.2.1 22 = .ok (.aload_n 0, 1) := by decide +kernel
theorem d_Draft_putAhead_23 : decode m_Draft_putAhead.2.1 23 = .ok (.getfield 15, 3) := by decide +kernel
theorem d_Draft_putAhead_26 : decode m_Draft_putAhead.2.1 26 = .ok (.istore_n 3, 1) := by decide +kernel
theorem d_Draft_putAhead_27 : decode m_Draft_putAhead.2.1 27 = .ok (.iload_n 3, 1) := by decide +kernel
theorem d_Draft_putAhead_28 : decode m_Draft_putAhead.2.1 28 = .ok (.iload_n 1, 1) := by decide +kernel
theorem d_Draft_putAhead_29 : decode m_Draft_putAhead.2.1 29 = .ok (.if_icmp .le 23, 3) := by decide +kernel
theorem d_Draft_putAhead_32 : decode m_Draft_putAhead.2.1 32 = .ok (.aload_n 0, 1) := by decide +kernel
theorem d_Draft_putAhead_33 : decode m_Draft_putAhead.2.1 33 = .ok (.getfield 9, 3) := by decide +kernel
theorem d_Draft_putAhead_36 : decode m_Draft_putAhead.2.1 36 = .ok (.iload_n 3, 1) := by decide +kernel
theorem d_Draft_putAhead_37 : decode m_Draft_putAhead.2.1 37 = .ok (.aload_n 0, 1) := by decide +kernel
theorem d_Draft_putAhead_38 : decode m_Draft_putAhead.2.1 38 = .ok (.getfield 9, 3) := by decide +kernel
theorem d_Draft_putAhead_41 : decode m_Draft_putAhead.2.1 41 = .ok (.iload_n 3, 1) := by decide +kernel
theorem d_Draft_putAhead_42 : decode m_Draft_putAhead.2.1 42 = .ok (.iconst 1, 1) := by decide +kernel
theorem d_Draft_putAhead_43 : decode m_Draft_putAhead.2.1 43 = .ok (.isub, 1) := by decide +kernel
theorem d_Draft_putAhead_44 : decode m_Draft_putAhead.2.1 44 = .ok (.baload, 1) := by decide +kernel
theorem d_Draft_putAhead_45 : decode m_Draft_putAhead.2.1 45 = .ok (.bastore, 1) := by decide +kernel
theorem d_Draft_putAhead_46 : decode m_Draft_putAhead.2.1 46 = .ok (.iinc 3 (-1), 3) := by decide +kernel
theorem d_Draft_putAhead_49 : decode m_Draft_putAhead.2.1 49 = .ok (.goto (-22), 3) := by decide +kernel
theorem d_Draft_putAhead_52 : decode m_Draft_putAhead.2.1 52 = .ok (.aload_n 0, 1) := by decide +kernel
theorem d_Draft_putAhead_53 : decode m_Draft_putAhead.2.1 53 = .ok (.getfield 9, 3) := by decide +kernel
theorem d_Draft_putAhead_56 : decode m_Draft_putAhead.2.1 56 = .ok (.iload_n 1, 1) := by decide +kernel
theorem d_Draft_putAhead_57 : decode m_Draft_putAhead.2.1 57 = .ok (.iload_n 2, 1) := by decide +kernel
theorem d_Draft_putAhead_58 : decode m_Draft_putAhead.2.1 58 = .ok (.i2b, 1) := by decide +kernel
theorem d_Draft_putAhead_59 : decode m_Draft_putAhead.2.1 59 = .ok (.bastore, 1) := by decide +kernel
theorem d_Draft_putAhead_60 : decode m_Draft_putAhead.2.1 60 = .ok (.aload_n 0, 1) := by decide +kernel
theorem d_Draft_putAhead_61 : decode m_Draft_putAhead.2.1 61 = .ok (.dup, 1) := by decide +kernel
theorem d_Draft_putAhead_62 : decode m_Draft_putAhead.2.1 62 = .ok (.getfield 15, 3) := by decide +kernel
theorem d_Draft_putAhead_65 : decode m_Draft_putAhead.2.1 65 = .ok (.iconst 1, 1) := by decide +kernel
theorem d_Draft_putAhead_66 : decode m_Draft_putAhead.2.1 66 = .ok (.iadd, 1) := by decide +kernel
theorem d_Draft_putAhead_67 : decode m_Draft_putAhead.2.1 67 = .ok (.putfield 15, 3) := by decide +kernel
theorem d_Draft_putAhead_70 : decode m_Draft_putAhead.2.1 70 = .ok (.return_, 1) := by decide +kernel
theorem b_Draft_putAhead_0 {E : EV} {d : Nat} {Q : Option AV → St → Prop} {σ : St} (x0 x1 x2 : Int) (h : (rI x1) ∧ ((x1 < 0 → Q none σ) ∧ (¬ x1 < 0 → (sh σ x0 = some (1, 2)) ∧ (rI x1) ∧ (rI (σ.1 x0 1)) ∧ (((σ.1 x0 1) < x1 → Q none σ) ∧ (¬ (σ.1 x0 1) < x1 → (sh σ x0 = some (1, 2)) ∧ (rI (σ.1 x0 1)) ∧ (((σ.1 x0 1) < 24 → (sh σ x0 = some (1, 2)) ∧ WP E m_Draft_putAhead d 27 [(0, aP x0), (1, aI x1), (2, aI x2), (3, aI (σ.1 x0 1))] [] σ Q) ∧ (¬ (σ.1 x0 1) < 24 → Q none σ))))))) : WP E m_Draft_putAhead d 0 [(0, aP x0), (1, aI x1), (2, aI x2)] [] σ Q := by
  refine s_iload_n 1 d_Draft_putAhead_0 rfl rfl ?_
  obtain ⟨g1, h⟩ := h
  refine s_if_lt d_Draft_putAhead_1 rfl g1 (fun c => ?_) (fun c => ?_)
  · have h := h.1 c
    exact s_return d_Draft_putAhead_21 rfl h
  · have h := h.2 c
    refine s_iload_n 1 d_Draft_putAhead_4 rfl rfl ?_
    refine s_aload_n 0 d_Draft_putAhead_5 rfl rfl ?_
    obtain ⟨g2, h⟩ := h
    refine s_getF (v := σ.1 x0 1) d_Draft_putAhead_6 fl_Draft_15 rfl g2 rfl ?_
    obtain ⟨g3, h⟩ := h
    obtain ⟨g4, h⟩ := h
    refine s_icmp_gt d_Draft_putAhead_9 rfl g3 g4 (fun c => ?_) (fun c => ?_)
    · have h := h.1 c
      exact s_return d_Draft_putAhead_21 rfl h
    · have h := h.2 c
      refine s_aload_n 0 d_Draft_putAhead_12 rfl rfl ?_
      obtain ⟨g5, h⟩ := h
      refine s_getF (v := σ.1 x0 1) d_Draft_putAhead_13 fl_Draft_15 rfl g5 rfl ?_
      refine s_bipush d_Draft_putAhead_16 (by decide) ?_
      obtain ⟨g6, h⟩ := h
      refine s_icmp_lt d_Draft_putAhead_18 rfl g6 (by decide) (fun c => ?_) (fun c => ?_)
      · have h := h.1 c
        refine s_aload_n 0 d_Draft_putAhead_22 rfl rfl ?_
        obtain ⟨g7, h⟩ := h
        refine s_getF (v := σ.1 x0 1) d_Draft_putAhead_23 fl_Draft_15 rfl g7 rfl ?_
        refine s_istore_n d_Draft_putAhead_26 rfl (by decide) rfl ?_
        refine wp_drop [1, 2, 3, 0] rfl ?_
        exact h
      · have h := h.2 c
        exact s_return d_Draft_putAhead_21 rfl h
theorem e_Draft_putAhead {E : EV} {d : Nat} {Q : Option AV → St → Prop} {σ : St} (x0 x1 x2 : Int) (h : (rI x1) ∧ ((x1 < 0 → Q none σ) ∧ (¬ x1 < 0 → (sh σ x0 = some (1, 2)) ∧ (rI x1) ∧ (rI (σ.1 x0 1)) ∧ (((σ.1 x0 1) < x1 → Q none σ) ∧ (¬ (σ.1 x0 1) < x1 → (sh σ x0 = some (1, 2)) ∧ (rI (σ.1 x0 1)) ∧ (((σ.1 x0 1) < 24 → (sh σ x0 = some (1, 2)) ∧ WP E m_Draft_putAhead d 27 [(0, aP x0), (1, aI x1), (2, aI x2), (3, aI (σ.1 x0 1))] [] σ Q) ∧ (¬ (σ.1 x0 1) < 24 → Q none σ))))))) : WM E m_Draft_putAhead d [aP x0, aI x1, aI x2] σ Q := s_meth (by decide) (Nat.le_of_ble_eq_true rfl) rfl (b_Draft_putAhead_0 x0 x1 x2 h)
theorem b_Draft_putAhead_27 {E : EV} {d : Nat} {Q : Option AV → St → Prop} {σ : St} (x0 x1 x2 x3 : Int) (h : (rI x3) ∧ (rI x1) ∧ ((x3 ≤ x1 → (sh σ x0 = some (1, 2)) ∧ (inb σ (σ.1 x0 0) 21 x1) ∧ (-128 ≤ (Int.bmod x2 256) ∧ (Int.bmod x2 256) ≤ 127) ∧ (sh (wr σ (σ.1 x0 0) x1 (Int.bmod x2 256)) x0 = some (1, 2)) ∧ (sh (wr σ (σ.1 x0 0) x1 (Int.bmod x2 256)) x0 = some (1, 2)) ∧ Q none (wr (wr σ (σ.1 x0 0) x1 (Int.bmod x2 256)) x0 1 (((wr σ (σ.1 x0 0) x1 (Int.bmod x2 256)).1 x0 1) + 1))) ∧ (¬ x3 ≤ x1 → (sh σ x0 = some (1, 2)) ∧ (sh σ x0 = some (1, 2)) ∧ (inb σ (σ.1 x0 0) 21 (x3 - 1)) ∧ (inb σ (σ.1 x0 0) 21 x3) ∧ (-128 ≤ (σ.1 (σ.1 x0 0) (x3 - 1)) ∧ (σ.1 (σ.1 x0 0) (x3 - 1)) ≤ 127) ∧ WP E m_Draft_putAhead d 27 [(0, aP x0), (1, aI x1), (2, aI x2), (3, aI (x3 + (-1)))] [] (wr σ (σ.1 x0 0) x3 (σ.1 (σ.1 x0 0) (x3 - 1))) Q))) : WP E m_Draft_putAhead d 27 [(0, aP x0), (1, aI x1), (2, aI x2), (3, aI x3)] [] σ Q := by
  refine s_iload_n 3 d_Draft_putAhead_27 rfl rfl ?_
  refine s_iload_n 1 d_Draft_putAhead_28 rfl rfl ?_
  obtain ⟨g1, h⟩ := h
  obtain ⟨g2, h⟩ := h
  refine s_icmp_le d_Draft_putAhead_29 rfl g1 g2 (fun c => ?_) (fun c => ?_)
  · have h := h.1 c
    refine s_aload_n 0 d_Draft_putAhead_52 rfl rfl ?_
    obtain ⟨g3, h⟩ := h
    refine s_getF (v := σ.1 x0 0) d_Draft_putAhead_53 fl_Draft_9 rfl g3 rfl ?_
    refine s_iload_n 1 d_Draft_putAhead_56 rfl rfl ?_
    refine s_iload_n 2 d_Draft_putAhead_57 rfl rfl ?_
    refine s_i2b d_Draft_putAhead_58 ?_
    obtain ⟨g4, h⟩ := h
    obtain ⟨g5, h⟩ := h
    refine s_bastore (Or.inl ⟨rfl, g5⟩) d_Draft_putAhead_59 g4 ?_
    refine s_aload_n 0 d_Draft_putAhead_60 rfl rfl ?_
    refine s_dup d_Draft_putAhead_61 (Nat.ne_of_beq_eq_false rfl) ?_
    obtain ⟨g6, h⟩ := h
    refine s_getF (v := (wr σ (σ.1 x0 0) x1 (Int.bmod x2 256)).1 x0 1) d_Draft_putAhead_62 fl_Draft_15 rfl g6 rfl ?_
    refine s_iconst d_Draft_putAhead_65 ?_
    refine s_iadd d_Draft_putAhead_66 ?_
    obtain ⟨g7, h⟩ := h
    refine s_putf 1 rfl d_Draft_putAhead_67 fl_Draft_15 (fun C T h => by cases h; exact Or.inl rfl) rfl (Or.inl rfl) (fun h => nomatch h) g7 ?_
    exact s_return d_Draft_putAhead_70 rfl h
  · have h := h.2 c
    refine s_aload_n 0 d_Draft_putAhead_32 rfl rfl ?_
    obtain ⟨g8, h⟩ := h
    refine s_getF (v := σ.1 x0 0) d_Draft_putAhead_33 fl_Draft_9 rfl g8 rfl ?_
    refine s_iload_n 3 d_Draft_putAhead_36 rfl rfl ?_
    refine s_aload_n 0 d_Draft_putAhead_37 rfl rfl ?_
    obtain ⟨g9, h⟩ := h
    refine s_getF (v := σ.1 x0 0) d_Draft_putAhead_38 fl_Draft_9 rfl g9 rfl ?_
    refine s_iload_n 3 d_Draft_putAhead_41 rfl rfl ?_
    refine s_iconst d_Draft_putAhead_42 ?_
    refine s_isub d_Draft_putAhead_43 ?_
    obtain ⟨g10, h⟩ := h
    refine s_baloadv (v := σ.1 (σ.1 x0 0) (x3 - 1)) (by decide) d_Draft_putAhead_44 g10 rfl ?_
    obtain ⟨g11, h⟩ := h
    obtain ⟨g12, h⟩ := h
    refine s_bastore (Or.inl ⟨rfl, g12⟩) d_Draft_putAhead_45 g11 ?_
    refine s_iinc 3 d_Draft_putAhead_46 rfl (by decide) rfl ?_
    refine s_goto d_Draft_putAhead_49 rfl ?_
    refine wp_drop [1, 2, 3, 0] rfl ?_
    exact h
theorem d_Draft_change_0 : decode m_Draft_change.2.1 0 = .ok (.iload_n 1, 1) := by decide +kernel
theorem d_Draft_change_1 : decode m_Draft_change.2.1 1 = .ok (.ifCond .lt 19, 3) := by decide +kernel
theorem d_Draft_change_4 : decode m_Draft_change.2.1 4 = .ok (.iload_n 1, 1) := by decide +kernel
theorem d_Draft_change_5 : decode m_Draft_change.2.1 5 = .ok (.aload_n 0, 1) := by decide +kernel
theorem d_Draft_change_6 : decode m_Draft_change.2.1 6 = .ok (.getfield 15, 3) := by decide +kernel
theorem d_Draft_change_9 : decode m_Draft_change.2.1 9 = .ok (.if_icmp .ge 11, 3) := by decide +kernel
theorem d_Draft_change_12 : decode m_Draft_change.2.1 12 = .ok (.aload_n 0, 1) := by decide +kernel
theorem d_Draft_change_13 : decode m_Draft_change.2.1 13 = .ok (.getfield 9, 3) := by decide +kernel
theorem d_Draft_change_16 : decode m_Draft_change.2.1 16 = .ok (.iload_n 1, 1) := by decide +kernel
theorem d_Draft_change_17 : decode m_Draft_change.2.1 17 = .ok (.iload_n 2, 1) := by decide +kernel
theorem d_Draft_change_18 : decode m_Draft_change.2.1 18 = .ok (.i2b, 1) := by decide +kernel
theorem d_Draft_change_19 : decode m_Draft_change.2.1 19 = .ok (.bastore, 1) := by decide +kernel
theorem d_Draft_change_20 : decode m_Draft_change.2.1 20 = .ok (.return_, 1) := by decide +kernel
theorem b_Draft_change_0 {E : EV} {d : Nat} {Q : Option AV → St → Prop} {σ : St} (x0 x1 x2 : Int) (h : (rI x1) ∧ ((x1 < 0 → Q none σ) ∧ (¬ x1 < 0 → (sh σ x0 = some (1, 2)) ∧ (rI x1) ∧ (rI (σ.1 x0 1)) ∧ (((σ.1 x0 1) ≤ x1 → Q none σ) ∧ (¬ (σ.1 x0 1) ≤ x1 → (sh σ x0 = some (1, 2)) ∧ (inb σ (σ.1 x0 0) 21 x1) ∧ (-128 ≤ (Int.bmod x2 256) ∧ (Int.bmod x2 256) ≤ 127) ∧ Q none (wr σ (σ.1 x0 0) x1 (Int.bmod x2 256))))))) : WP E m_Draft_change d 0 [(0, aP x0), (1, aI x1), (2, aI x2)] [] σ Q := by
  refine s_iload_n 1 d_Draft_change_0 rfl rfl ?_
  obtain ⟨g1, h⟩ := h
  refine s_if_lt d_Draft_change_1 rfl g1 (fun c => ?_) (fun c => ?_)
  · have h := h.1 c
    exact s_return d_Draft_change_20 rfl h
  · have h := h.2 c
    refine s_iload_n 1 d_Draft_change_4 rfl rfl ?_
    refine s_aload_n 0 d_Draft_change_5 rfl rfl ?_
    obtain ⟨g2, h⟩ := h
    refine s_getF (v := σ.1 x0 1) d_Draft_change_6 fl_Draft_15 rfl g2 rfl ?_
    obtain ⟨g3, h⟩ := h
    obtain ⟨g4, h⟩ := h
    refine s_icmp_ge d_Draft_change_9 rfl g3 g4 (fun c => ?_) (fun c => ?_)
    · have h := h.1 c
      exact s_return d_Draft_change_20 rfl h
    · have h := h.2 c
      refine s_aload_n 0 d_Draft_change_12 rfl rfl ?_
      obtain ⟨g5, h⟩ := h
      refine s_getF (v := σ.1 x0 0) d_Draft_change_13 fl_Draft_9 rfl g5 rfl ?_
      refine s_iload_n 1 d_Draft_change_16 rfl rfl ?_
      refine s_iload_n 2 d_Draft_change_17 rfl rfl ?_
      refine s_i2b d_Draft_change_18 ?_
      obtain ⟨g6, h⟩ := h
      obtain ⟨g7, h⟩ := h
      refine s_bastore (Or.inl ⟨rfl, g7⟩) d_Draft_change_19 g6 ?_
      exact s_return d_Draft_change_20 rfl h
theorem e_Draft_change {E : EV} {d : Nat} {Q : Option AV → St → Prop} {σ : St} (x0 x1 x2 : Int) (h : (rI x1) ∧ ((x1 < 0 → Q none σ) ∧ (¬ x1 < 0 → (sh σ x0 = some (1, 2)) ∧ (rI x1) ∧ (rI (σ.1 x0 1)) ∧ (((σ.1 x0 1) ≤ x1 → Q none σ) ∧ (¬ (σ.1 x0 1) ≤ x1 → (sh σ x0 = some (1, 2)) ∧ (inb σ (σ.1 x0 0) 21 x1) ∧ (-128 ≤ (Int.bmod x2 256) ∧ (Int.bmod x2 256) ≤ 127) ∧ Q none (wr σ (σ.1 x0 0) x1 (Int.bmod x2 256))))))) : WM E m_Draft_change d [aP x0, aI x1, aI x2] σ Q := s_meth (by decide) (Nat.le_of_ble_eq_true rfl) rfl (b_Draft_change_0 x0 x1 x2 h)
theorem d_Draft_makeNormal_0 : decode m_Draft_makeNormal.2.1 0 = .ok (.iconst 0, 1) := by decide +kernel
theorem d_Draft_makeNormal_1 : decode m_Draft_makeNormal.2.1 1 = .ok (.istore_n 1, 1) := by decide +kernel
theorem d_Draft_makeNormal_2 : decode m_Draft_makeNormal.2.1 2 = .ok (.iload_n 1, 1) := by decide +kernel
theorem d_Draft_makeNormal_3 : decode m_Draft_makeNormal.2.1 3 = .ok (.iconst 1, 1) := by decide +kernel
theorem d_Draft_makeNormal_4 : decode m_Draft_makeNormal.2.1 4 = .ok (.iadd, 1) := by decide +kernel
theorem d_Draft_makeNormal_5 : decode m_Draft_makeNormal.2.1 5 = .ok (.aload_n 0, 1) := by decide +kernel
theorem d_Draft_makeNormal_6 : decode m_Draft_makeNormal.2.1 6 = .ok (.getfield 15, 3) := by decide +kernel
theorem d_Draft_makeNormal_9 : decode m_Draft_makeNormal.2.1 9 = .ok (.if_icmp .ge 59, 3) := by decide +kernel
theorem d_Draft_makeNormal_12 : decode m_Draft_makeNormal.2.1 12 = .ok (.iconst 0, 1) := by decide +kernel
theorem d_Draft_makeNormal_13 : decode m_Draft_makeNormal.2.1 13 = .ok (.istore_n 2, 1) := by decide +kernel
theorem d_Draft_makeNormal_14 : decode m_Draft_makeNormal.2.1 14 = .ok (.iload_n 2, 1) := by decide +kernel
theorem d_Draft_makeNormal_15 : decode m_Draft_makeNormal.2.1 15 = .ok (.aload_n 0, 1) := by decide +kernel
theorem d_Draft_makeNormal_16 : decode m_Draft_makeNormal.2.1 16 = .ok (.getfield 15, 3) := by decide +kernel
theorem d_Draft_makeNormal_19 : decode m_Draft_makeNormal.2.1 19 = .ok (.if_icmp .ge 43, 3) := by decide +kernel
theorem d_Draft_makeNormal_22 : decode m_Draft_makeNormal.2.1 22 = .ok (.aload_n 0, 1) := by decide +kernel
theorem d_Draft_makeNormal_23 : decode m_Draft_makeNormal.2.1 23 = .ok (.getfield 9, 3) := by decide +kernel
theorem d_Draft_makeNormal_26 : decode m_Draft_makeNormal.2.1 26 = .ok (.iload_n 1, 1) := by decide +kernel
theorem d_Draft_makeNormal_27 : decode m_Draft_makeNormal.2.1 27 = .ok (.baload, 1) := by decide +kernel
theorem d_Draft_makeNormal_28 : decode m_Draft_makeNormal.2.1 28 = .ok (.invokestatic 43, 3) := by decide +kernel
theorem d_Draft_makeNormal_31 : decode m_Draft_makeNormal.2.1 31 = .ok (.ifCond .eq 31, 3) := by decide +kernel
theorem d_Draft_makeNormal_34 : decode m_Draft_makeNormal.2.1 34 = .ok (.aload_n 0, 1) := by decide +kernel
theorem d_Draft_makeNormal_35 : decode m_Draft_makeNormal.2.1 35 = .ok (.getfield 9, 3) := by decide +kernel
theorem d_Draft_makeNormal_38 : decode m_Draft_makeNormal.2.1 38 = .ok (.iload_n 1, 1) := by decide +kernel
theorem d_Draft_makeNormal_39 : decode m_Draft_makeNormal.2.1 39 = .ok (.iconst 1, 1) := by decide +kernel
theorem d_Draft_makeNormal_40 : decode m_Draft_makeNormal.2.1 40 = .ok (.iadd, 1) := by decide +kernel
theorem d_Draft_makeNormal_41 : decode m_Draft_makeNormal.2.1 41 = .ok (.baload, 1) := by decide +kernel
theorem d_Draft_makeNormal_42 : decode m_Draft_makeNormal.2.1 42 = .ok (.aload_n 0, 1) := by decide +kernel
theorem d_Draft_makeNormal_43 : decode m_Draft_makeNormal.2.1 43 = .ok (.getfield 9, 3) := by decide +kernel
theorem d_Draft_makeNormal_46 : decode m_Draft_makeNormal.2.1 46 = .ok (.iload_n 1, 1) := by decide +kernel
theorem d_Draft_makeNormal_47 : decode m_Draft_makeNormal.2.1 47 = .ok (.baload, 1) := by decide +kernel
theorem d_Draft_makeNormal_48 : decode m_Draft_makeNormal.2.1 48 = .ok (.if_icmp .ne 14, 3) := by decide +kernel
theorem d_Draft_makeNormal_51 : decode m_Draft_makeNormal.2.1 51 = .ok (.aload_n 0, 1) := by decide +kernel
theorem d_Draft_makeNormal_52 : decode m_Draft_makeNormal.2.1 52 = .ok (.iload_n 1, 1) := by decide +kernel
theorem d_Draft_makeNormal_53 : decode m_Draft_makeNormal.2.1 53 = .ok (.invokevirtual 47, 3) := by decide +kernel
theorem d_Draft_makeNormal_56 : decode m_Draft_makeNormal.2.1 56 = .ok (.iinc 2 1, 3) := by decide +kernel
theorem d_Draft_makeNormal_59 : decode m_Draft_makeNormal.2.1 59 = .ok (.goto (-45), 3) := by decide +kernel
theorem d_Draft_makeNormal_62 : decode m_Draft_makeNormal.2.1 62 = .ok (.iinc 1 1, 3) := by decide +kernel
theorem d_Draft_makeNormal_65 : decode m_Draft_makeNormal.2.1 65 = .ok (.goto (-63), 3) := by decide +kernel
theorem d_Draft_makeNormal_68 : decode m_Draft_makeNormal.2.1 68 = .ok (.return_, 1) := by decide +kernel
theorem b_Draft_makeNormal_0 {E : EV} {d : Nat} {Q : Option AV → St → Prop} {σ : St} (x0 : Int) (h : WP E m_Draft_makeNormal (d + 1) 2 [(0, aP x0), (1, aI 0)] [] σ Q) : WP E m_Draft_makeNormal (d + 1) 0 [(0, aP x0)] [] σ Q := by
  refine s_iconst d_Draft_makeNormal_0 ?_
  refine s_istore_n d_Draft_makeNormal_1 rfl (by decide) rfl ?_
  refine wp_drop [1, 0] rfl ?_
  exact h
theorem e_Draft_makeNormal {E : EV} {d : Nat} {Q : Option AV → St → Prop} {σ : St} (x0 : Int) (h : WP E m_Draft_makeNormal (d + 1) 2 [(0, aP x0), (1, aI 0)] [] σ Q) : WM E m_Draft_makeNormal (d + 1) [aP x0] σ Q := s_meth (by decide) (Nat.le_of_ble_eq_true rfl) rfl (b_Draft_makeNormal_0 x0 h)
theorem b_Draft_makeNormal_2 {E : EV} {d : Nat} {Q : Option AV → St → Prop} {σ : St} (x0 x1 : Int) (h : (sh σ x0 = some (1, 2)) ∧ (rI (x1 + 1)) ∧ (rI (σ.1 x0 1)) ∧ (((σ.1 x0 1) ≤ (x1 + 1) → Q none σ) ∧ (¬ (σ.1 x0 1) ≤ (x1 + 1) → WP E m_Draft_makeNormal (d + 1) 14 [(0, aP x0), (1, aI x1), (2, aI 0)] [] σ Q))) : WP E m_Draft_makeNormal (d + 1) 2 [(0, aP x0), (1, aI x1)] [] σ Q := by
  refine s_iload_n 1 d_Draft_makeNormal_2 rfl rfl ?_
  refine s_iconst d_Draft_makeNormal_3 ?_
  refine s_iadd d_Draft_makeNormal_4 ?_
  refine s_aload_n 0 d_Draft_makeNormal_5 rfl rfl ?_
  obtain ⟨g1, h⟩ := h
  refine s_getF (v := σ.1 x0 1) d_Draft_makeNormal_6 fl_Draft_15 rfl g1 rfl ?_
  obtain ⟨g2, h⟩ := h
  obtain ⟨g3, h⟩ := h
  refine s_icmp_ge d_Draft_makeNormal_9 rfl g2 g3 (fun c => ?_) (fun c => ?_)
  · have h := h.1 c
    exact s_return d_Draft_makeNormal_68 rfl h
  · have h := h.2 c
    refine s_iconst d_Draft_makeNormal_12 ?_
    refine s_istore_n d_Draft_makeNormal_13 rfl (by decide) rfl ?_
    refine wp_drop [1, 2, 0] rfl ?_
    exact h
theorem b_Draft_makeNormal_14 {E : EV} {d : Nat} {Q : Option AV → St → Prop} {σ : St} (x0 x1 x2 : Int) (h : (sh σ x0 = some (1, 2)) ∧ (rI x2) ∧ (rI (σ.1 x0 1)) ∧ (((σ.1 x0 1) ≤ x2 → WP E m_Draft_makeNormal (d + 1) 62 [(0, aP x0), (1, aI x1)] [] σ Q) ∧ (¬ (σ.1 x0 1) ≤ x2 → (sh σ x0 = some (1, 2)) ∧ (inb σ (σ.1 x0 0) 21 x1) ∧ (WMi E m_S_isJoint d [aI (σ.1 (σ.1 x0 0) x1)] σ (fun v6 σ6 => (rI v6) ∧ ((v6 = 0 → WP E m_Draft_makeNormal (d + 1) 62 [(0, aP x0), (1, aI x1)] [] σ6 Q) ∧ (¬ v6 = 0 → (sh σ6 x0 = some (1, 2)) ∧ (inb σ6 (σ6.1 x0 0) 21 (x1 + 1)) ∧ (sh σ6 x0 = some (1, 2)) ∧ (inb σ6 (σ6.1 x0 0) 21 x1) ∧ (rI (σ6.1 (σ6.1 x0 0) (x1 + 1))) ∧ (rI (σ6.1 (σ6.1 x0 0) x1)) ∧ ((¬ (σ6.1 (σ6.1 x0 0) (x1 + 1)) = (σ6.1 (σ6.1 x0 0) x1) → WP E m_Draft_makeNormal (d + 1) 62 [(0, aP x0), (1, aI x1)] [] σ6 Q) ∧ ((σ6.1 (σ6.1 x0 0) (x1 + 1)) = (σ6.1 (σ6.1 x0 0) x1) → (sh σ6 x0 = some (1, 2)) ∧ (WMv E m_Draft_openBrackets d [aP x0, aI x1] σ6 (fun σ14 => WP E m_Draft_makeNormal (d + 1) 14 [(0, aP x0), (1, aI x1), (2, aI (x2 + 1))] [] σ14 Q))))))))))) : WP E m_Draft_makeNormal (d + 1) 14 [(0, aP x0), (1, aI x1), (2, aI x2)] [] σ Q := by
  refine s_iload_n 2 d_Draft_makeNormal_14 rfl rfl ?_
  refine s_aload_n 0 d_Draft_makeNormal_15 rfl rfl ?_
  obtain ⟨g1, h⟩ := h
  refine s_getF (v := σ.1 x0 1) d_Draft_makeNormal_16 fl_Draft_15 rfl g1 rfl ?_
  obtain ⟨g2, h⟩ := h
  obtain ⟨g3, h⟩ := h
  refine s_icmp_ge d_Draft_makeNormal_19 rfl g2 g3 (fun c => ?_) (fun c => ?_)
  · have h := h.1 c
    refine wp_drop [0, 1] rfl ?_
    exact h
  · have h := h.2 c
    refine s_aload_n 0 d_Draft_makeNormal_22 rfl rfl ?_
    obtain ⟨g4, h⟩ := h
    refine s_getF (v := σ.1 x0 0) d_Draft_makeNormal_23 fl_Draft_9 rfl g4 rfl ?_
    refine s_iload_n 1 d_Draft_makeNormal_26 rfl rfl ?_
    obtain ⟨g5, h⟩ := h
    refine s_baloadv (v := σ.1 (σ.1 x0 0) x1) (by decide) d_Draft_makeNormal_27 g5 rfl ?_
    refine s_callS (as := [aI (σ.1 (σ.1 x0 0) x1)]) d_Draft_makeNormal_28 ok_S_isJoint lk_Draft_43 to_S_isJoint rfl (Nat.le_of_ble_eq_true rfl) rfl (WM.mono h ?_)
    rintro _ σ6 ⟨v6, rfl, hp, h⟩
    show WP E m_Draft_makeNormal (d + 1) 31 [(0, aP x0), (1, aI x1), (2, aI x2)] [aI v6] σ6 Q
    obtain ⟨g7, h⟩ := h
    refine s_if_eq d_Draft_makeNormal_31 rfl g7 (fun c => ?_) (fun c => ?_)
    · have h := h.1 c
      refine wp_drop [0, 1] rfl ?_
      exact h
    · have h := h.2 c
      refine s_aload_n 0 d_Draft_makeNormal_34 rfl rfl ?_
      obtain ⟨g8, h⟩ := h
      refine s_getF (v := σ6.1 x0 0) d_Draft_makeNormal_35 fl_Draft_9 rfl g8 rfl ?_
      refine s_iload_n 1 d_Draft_makeNormal_38 rfl rfl ?_
      refine s_iconst d_Draft_makeNormal_39 ?_
      refine s_iadd d_Draft_makeNormal_40 ?_
      obtain ⟨g9, h⟩ := h
      refine s_baloadv (v := σ6.1 (σ6.1 x0 0) (x1 + 1)) (by decide) d_Draft_makeNormal_41 g9 rfl ?_
      refine s_aload_n 0 d_Draft_makeNormal_42 rfl rfl ?_
      obtain ⟨g10, h⟩ := h
      refine s_getF (v := σ6.1 x0 0) d_Draft_makeNormal_43 fl_Draft_9 rfl g10 rfl ?_
      refine s_iload_n 1 d_Draft_makeNormal_46 rfl rfl ?_
      obtain ⟨g11, h⟩ := h
      refine s_baloadv (v := σ6.1 (σ6.1 x0 0) x1) (by decide) d_Draft_makeNormal_47 g11 rfl ?_
      obtain ⟨g12, h⟩ := h
      obtain ⟨g13, h⟩ := h
      refine s_icmp_ne d_Draft_makeNormal_48 rfl g12 g13 (fun c => ?_) (fun c => ?_)
      · have h := h.1 c
        refine wp_drop [0, 1] rfl ?_
        exact h
      · have h := h.2 c
        refine s_aload_n 0 d_Draft_makeNormal_51 rfl rfl ?_
        refine s_iload_n 1 d_Draft_makeNormal_52 rfl rfl ?_
        obtain ⟨g15, h⟩ := h
        refine s_callV (as := [aI x1]) (ci := 1) d_Draft_makeNormal_53 ok_Draft_openBrackets lk_Draft_47 io_Draft_openBrackets so_Draft_openBrackets (by decide) rfl rfl rfl (Nat.le_of_ble_eq_true rfl) rfl g15 (WM.mono h ?_)
        rintro _ σ14 ⟨rfl, hp, h⟩
        show WP E m_Draft_makeNormal (d + 1) 56 [(0, aP x0), (1, aI x1), (2, aI x2)] [] σ14 Q
        refine s_iinc 2 d_Draft_makeNormal_56 rfl (by decide) rfl ?_
        refine s_goto d_Draft_makeNormal_59 rfl ?_
        refine wp_drop [1, 2, 0] rfl ?_
        exact h
theorem b_Draft_makeNormal_62 {E : EV} {d : Nat} {Q : Option AV → St → Prop} {σ : St} (x0 x1 : Int) (h : WP E m_Draft_makeNormal (d + 1) 2 [(0, aP x0), (1, aI (x1 + 1))] [] σ Q) : WP E m_Draft_makeNormal (d + 1) 62 [(0, aP x0), (1, aI x1)] [] σ Q := by
  refine s_iinc 1 d_Draft_makeNormal_62 rfl (by decide) rfl ?_
  refine s_goto d_Draft_makeNormal_65 rfl ?_
  refine wp_drop [1, 0] rfl ?_
  exact h
theorem d_Draft_openBrackets_0 : decode m_Draft_openBrackets.2.1 0 = .ok (.aload_n 0, 1) := by decide +kernel
theorem d_Draft_openBrackets_1 : decode m_Draft_openBrackets.2.1 1 = .ok (.getfield 9, 3) := by decide +kernel
theorem d_Draft_openBrackets_4 : decode m_Draft_openBrackets.2.1 4 = .ok (.iload_n 1, 1) := by decide +kernel
theorem d_Draft_openBrackets_5 : decode m_Draft_openBrackets.2.1 5 = .ok (.baload, 1) := by decide +kernel
theorem d_Draft_openBrackets_6 : decode m_Draft_openBrackets.2.1 6 = .ok (.istore_n 2, 1) := by decide +kernel
theorem d_Draft_openBrackets_7 : decode m_Draft_openBrackets.2.1 7 = .ok (.aload_n 0, 1) := by decide +kernel
theorem d_Draft_openBrackets_8 : decode m_Draft_openBrackets.2.1 8 = .ok (.getfield 9, 3) := by decide +kernel
theorem d_Draft_openBrackets_11 : decode m_Draft_openBrackets.2.1 11 = .ok (.aload_n 0, 1) := by decide +kernel
theorem d_Draft_openBrackets_12 : decode m_Draft_openBrackets.2.1 12 = .ok (.getfield 15, 3) := by decide +kernel
theorem d_Draft_openBrackets_15 : decode m_Draft_openBrackets.2.1 15 = .ok (.iload_n 1, 1) := by decide +kernel
theorem d_Draft_openBrackets_16 : decode m_Draft_openBrackets.2.1 16 = .ok (.iconst 2, 1) := by decide +kernel
theorem d_Draft_openBrackets_17 : decode m_Draft_openBrackets.2.1 17 = .ok (.iadd, 1) := by decide +kernel
theorem d_Draft_openBrackets_18 : decode m_Draft_openBrackets.2.1 18 = .ok (.invokestatic 50, 3) := by decide +kernel
theorem d_Draft_openBrackets_21 : decode m_Draft_openBrackets.2.1 21 = .ok (.istore_n 3, 1) := by decide +kernel
theorem d_Draft_openBrackets_22 : decode m_Draft_openBrackets.2.1 22 = .ok (.iload_n 1, 1) := by decide +kernel
theorem d_Draft_openBrackets_23 : decode m_Draft_openBrackets.2.1 23 = .ok (.iconst 2, 1) := by decide +kernel
theorem d_Draft_openBrackets_24 : decode m_Draft_openBrackets.2.1 24 = .ok (.iadd, 1) := by decide +kernel
theorem d_Draft_openBrackets_25 : decode m_Draft_openBrackets.2.1 25 = .ok (.istore 4, 2) := by decide +kernel
theorem d_Draft_openBrackets_27 : decode m_Draft_openBrackets.2.1 27 = .ok (.iload 4, 2) := by decide +kernel
theorem d_Draft_openBrackets_29 : decode m_Draft_openBrackets.2.1 29 = .ok (.iload_n 3, 1) := by decide +kernel
theorem d_Draft_openBrackets_30 : decode m_Draft_openBrackets.2.1 30 = .ok (.if_icmp .ge 34, 3) := by decide +kernel
theorem d_Draft_openBrackets_33 : decode m_Draft_openBrackets.2.1 33 = .ok (.iload 4, 2) := by decide +kernel
theorem d_Draft_openBrackets_35 : decode m_Draft_openBrackets.2.1 35 = .ok (.aload_n 0, 1) := by decide +kernel
theorem d_Draft_openBrackets_36 : decode m_Draft_openBrackets.2.1 36 = .ok (.getfield 15, 3) := by decide +kernel
theorem d_Draft_openBrackets_39 : decode m_Draft_openBrackets.2.1 39 = .ok (.if_icmp .ge 25, 3) := by decide +kernel
theorem d_Draft_openBrackets_42 : decode m_Draft_openBrackets.2.1 42 = .ok (.aload_n 0, 1) := by decide +kernel
theorem d_Draft_openBrackets_43 : decode m_Draft_openBrackets.2.1 43 = .ok (.getfield 9, 3) := by decide +kernel
theorem d_Draft_openBrackets_46 : decode m_Draft_openBrackets.2.1 46 = .ok (.iload 4, 2) := by decide +kernel
theorem d_Draft_openBrackets_48 : decode m_Draft_openBrackets.2.1 48 = .ok (.iconst 1, 1) := by decide +kernel
theorem d_Draft_openBrackets_49 : decode m_Draft_openBrackets.2.1 49 = .ok (.isub, 1) := by decide +kernel
theorem d_Draft_openBrackets_50 : decode m_Draft_openBrackets.2.1 50 = .ok (.aload_n 0, 1) := by decide +kernel
theorem d_Draft_openBrackets_51 : decode m_Draft_openBrackets.2.1 51 = .ok (.getfield 9, 3) := by decide +kernel
theorem d_Draft_openBrackets_54 : decode m_Draft_openBrackets.2.1 54 = .ok (.iload 4, 2) := by decide +kernel
theorem d_Draft_openBrackets_56 : decode m_Draft_openBrackets.2.1 56 = .ok (.baload, 1) := by decide +kernel
theorem d_Draft_openBrackets_57 : decode m_Draft_openBrackets.2.1 57 = .ok (.bastore, 1) := by decide +kernel
theorem d_Draft_openBrackets_58 : decode m_Draft_openBrackets.2.1 58 = .ok (.iinc 4 1, 3) := by decide +kernel
theorem d_Draft_openBrackets_61 : decode m_Draft_openBrackets.2.1 61 = .ok (.goto (-34), 3) := by decide +kernel
theorem d_Draft_openBrackets_64 : decode m_Draft_openBrackets.2.1 64 = .ok (.iload_n 3, 1) := by decide +kernel
theorem d_Draft_openBrackets_65 : decode m_Draft_openBrackets.2.1 65 = .ok (.ifCond .le 20, 3) := by decide +kernel
theorem d_Draft_openBrackets_68 : decode m_Draft_openBrackets.2.1 68 = .ok (.iload_n 3, 1) := by decide +kernel
theorem d_Draft_openBrackets_69 : decode m_Draft_openBrackets.2.1 69 = .ok (.aload_n 0, 1) := by decide +kernel
theorem d_Draft_openBrackets_70 : decode m_Draft_openBrackets.2.1 70 = .ok (.getfield 15, 3) := by decide +kernel
theorem d_Draft_openBrackets_73 : decode m_Draft_openBrackets.2.1 73 = .ok (.if_icmp .gt 12, 3) := by decide +kernel
theorem d_Draft_openBrackets_76 : decode m_Draft_openBrackets.2.1 76 = .ok (.aload_n 0, 1) := by decide +kernel
theorem d_Draft_openBrackets_77 : decode m_Draft_openBrackets.2.1 77 = .ok (.getfield 9, 3) := by decide +kernel
theorem d_Draft_openBrackets_80 : decode m_Draft_openBrackets.2.1 80 = .ok (.iload_n 3, 1) := by decide +kernel
theorem d_Draft_openBrackets_81 : decode m_Draft_openBrackets.2.1 81 = .ok (.iconst 1, 1) := by decide +kernel
theorem d_Draft_openBrackets_82 : decode m_Draft_openBrackets.2.1 82 = .ok (.isub, 1) := by decide +kernel
theorem d_Draft_openBrackets_83 : decode m_Draft_openBrackets.2.1 83 = .ok (.iload_n 2, 1) := by decide +kernel
theorem d_Draft_openBrackets_84 : decode m_Draft_openBrackets.2.1 84 = .ok (.bastore, 1) := by decide +kernel
theorem d_Draft_openBrackets_85 : decode m_Draft_openBrackets.2.1 85 = .ok (.return_, 1) := by decide +kernel
theorem b_Draft_openBrackets_0 {E : EV} {d : Nat} {Q : Option AV → St → Prop} {σ : St} (x0 x1 : Int) (h : (sh σ x0 = some (1, 2)) ∧ (inb σ (σ.1 x0 0) 21 x1) ∧ (sh σ x0 = some (1, 2)) ∧ (sh σ x0 = some (1, 2)) ∧ (WMi E m_S_endOfPart d [aP (σ.1 x0 0), aI (σ.1 x0 1), aI (x1 + 2)] σ (fun v5 σ5 => WP E m_Draft_openBrackets (d + 1) 27 [(0, aP x0), (2, aI (σ.1 (σ.1 x0 0) x1)), (3, aI v5), (4, aI (x1 + 2))] [] σ5 Q))) : WP E m_Draft_openBrackets (d + 1) 0 [(0, aP x0), (1, aI x1)] [] σ Q := by
  refine s_aload_n 0 d_Draft_openBrackets_0 rfl rfl ?_
  obtain ⟨g1, h⟩ := h
  refine s_getF (v := σ.1 x0 0) d_Draft_openBrackets_1 fl_Draft_9 rfl g1 rfl ?_
  refine s_iload_n 1 d_Draft_openBrackets_4 rfl rfl ?_
  obtain ⟨g2, h⟩ := h
  refine s_baloadv (v := σ.1 (σ.1 x0 0) x1) (by decide) d_Draft_openBrackets_5 g2 rfl ?_
  refine s_istore_n d_Draft_openBrackets_6 rfl (by decide) rfl ?_
  refine s_aload_n 1 d_Draft_openBrackets_7 rfl rfl ?_
  obtain ⟨g3, h⟩ := h
  refine s_getF (v := σ.1 x0 0) d_Draft_openBrackets_8 fl_Draft_9 rfl g3 rfl ?_
  refine s_aload_n 1 d_Draft_openBrackets_11 rfl rfl ?_
  obtain ⟨g4, h⟩ := h
  refine s_getF (v := σ.1 x0 1) d_Draft_openBrackets_12 fl_Draft_15 rfl g4 rfl ?_
  refine s_iload_n 2 d_Draft_openBrackets_15 rfl rfl ?_
  refine s_iconst d_Draft_openBrackets_16 ?_
  refine s_iadd d_Draft_openBrackets_17 ?_
  refine s_callS (as := [aP (σ.1 x0 0), aI (σ.1 x0 1), aI (x1 + 2)]) d_Draft_openBrackets_18 ok_S_endOfPart lk_Draft_50 to_S_endOfPart rfl (Nat.le_of_ble_eq_true rfl) rfl (WM.mono h ?_)
  rintro _ σ5 ⟨v5, rfl, hp, h⟩
  show WP E m_Draft_openBrackets (d + 1) 21 [(2, aI (σ.1 (σ.1 x0 0) x1)), (0, aP x0), (1, aI x1)] [aI v5] σ5 Q
  refine s_istore_n d_Draft_openBrackets_21 rfl (by decide) rfl ?_
  refine s_iload_n 3 d_Draft_openBrackets_22 rfl rfl ?_
  refine s_iconst d_Draft_openBrackets_23 ?_
  refine s_iadd d_Draft_openBrackets_24 ?_
  refine s_istore d_Draft_openBrackets_25 (by decide) rfl ?_
  refine wp_drop [3, 2, 1, 0] rfl ?_
  exact h
theorem e_Draft_openBrackets {E : EV} {d : Nat} {Q : Option AV → St → Prop} {σ : St} (x0 x1 : Int) (h : (sh σ x0 = some (1, 2)) ∧ (inb σ (σ.1 x0 0) 21 x1) ∧ (sh σ x0 = some (1, 2)) ∧ (sh σ x0 = some (1, 2)) ∧ (WMi E m_S_endOfPart d [aP (σ.1 x0 0), aI (σ.1 x0 1), aI (x1 + 2)] σ (fun v5 σ5 => WP E m_Draft_openBrackets (d + 1) 27 [(0, aP x0), (2, aI (σ.1 (σ.1 x0 0) x1)), (3, aI v5), (4, aI (x1 + 2))] [] σ5 Q))) : WM E m_Draft_openBrackets (d + 1) [aP x0, aI x1] σ Q := s_meth (by decide) (Nat.le_of_ble_eq_true rfl) rfl (b_Draft_openBrackets_0 x0 x1 h)
theorem b_Draft_openBrackets_27 {E : EV} {d : Nat} {Q : Option AV → St → Prop} {σ : St} (x0 x2 x3 x4 : Int) (h : (rI x4) ∧ (rI x3) ∧ ((x3 ≤ x4 → WP E m_Draft_openBrackets (d + 1) 64 [(0, aP x0), (2, aI x2), (3, aI x3)] [] σ Q) ∧ (¬ x3 ≤ x4 → (sh σ x0 = some (1, 2)) ∧ (rI x4) ∧ (rI (σ.1 x0 1)) ∧ (((σ.1 x0 1) ≤ x4 → WP E m_Draft_openBrackets (d + 1) 64 [(0, aP x0), (2, aI x2), (3, aI x3)] [] σ Q) ∧ (¬ (σ.1 x0 1) ≤ x4 → (sh σ x0 = some (1, 2)) ∧ (sh σ x0 = some (1, 2)) ∧ (inb σ (σ.1 x0 0) 21 x4) ∧ (inb σ (σ.1 x0 0) 21 (x4 - 1)) ∧ (-128 ≤ (σ.1 (σ.1 x0 0) x4) ∧ (σ.1 (σ.1 x0 0) x4) ≤ 127) ∧ WP E m_Draft_openBrackets (d + 1) 27 [(0, aP x0), (2, aI x2), (3, aI x3), (4, aI (x4 + 1))] [] (wr σ (σ.1 x0 0) (x4 - 1) (σ.1 (σ.1 x0 0) x4)) Q))))) : WP E m_Draft_openBrackets (d + 1) 27 [(0, aP x0), (2, aI x2), (3, aI x3), (4, aI x4)] [] σ Q := by
  refine s_iload 3 d_Draft_openBrackets_27 rfl ?_
  refine s_iload_n 2 d_Draft_openBrackets_29 rfl rfl ?_
  obtain ⟨g1, h⟩ := h
  obtain ⟨g2, h⟩ := h
  refine s_icmp_ge d_Draft_openBrackets_30 rfl g1 g2 (fun c => ?_) (fun c => ?_)
  · have h := h.1 c
    refine wp_drop [0, 1, 2] rfl ?_
    exact h
  · have h := h.2 c
    refine s_iload 3 d_Draft_openBrackets_33 rfl ?_
    refine s_aload_n 0 d_Draft_openBrackets_35 rfl rfl ?_
    obtain ⟨g3, h⟩ := h
    refine s_getF (v := σ.1 x0 1) d_Draft_openBrackets_36 fl_Draft_15 rfl g3 rfl ?_
    obtain ⟨g4, h⟩ := h
    obtain ⟨g5, h⟩ := h
    refine s_icmp_ge d_Draft_openBrackets_39 rfl g4 g5 (fun c => ?_) (fun c => ?_)
    · have h := h.1 c
      refine wp_drop [0, 1, 2] rfl ?_
      exact h
    · have h := h.2 c
      refine s_aload_n 0 d_Draft_openBrackets_42 rfl rfl ?_
      obtain ⟨g6, h⟩ := h
      refine s_getF (v := σ.1 x0 0) d_Draft_openBrackets_43 fl_Draft_9 rfl g6 rfl ?_
      refine s_iload 3 d_Draft_openBrackets_46 rfl ?_
      refine s_iconst d_Draft_openBrackets_48 ?_
      refine s_isub d_Draft_openBrackets_49 ?_
      refine s_aload_n 0 d_Draft_openBrackets_50 rfl rfl ?_
      obtain ⟨g7, h⟩ := h
      refine s_getF (v := σ.1 x0 0) d_Draft_openBrackets_51 fl_Draft_9 rfl g7 rfl ?_
      refine s_iload 3 d_Draft_openBrackets_54 rfl ?_
      obtain ⟨g8, h⟩ := h
      refine s_baloadv (v := σ.1 (σ.1 x0 0) x4) (by decide) d_Draft_openBrackets_56 g8 rfl ?_
      obtain ⟨g9, h⟩ := h
      obtain ⟨g10, h⟩ := h
      refine s_bastore (Or.inl ⟨rfl, g10⟩) d_Draft_openBrackets_57 g9 ?_
      refine s_iinc 3 d_Draft_openBrackets_58 rfl (by decide) rfl ?_
      refine s_goto d_Draft_openBrackets_61 rfl ?_
      refine wp_drop [1, 2, 3, 0] rfl ?_
      exact h
theorem b_Draft_openBrackets_64 {E : EV} {d : Nat} {Q : Option AV → St → Prop} {σ : St} (x0 x2 x3 : Int) (h : (rI x3) ∧ ((x3 ≤ 0 → Q none σ) ∧ (¬ x3 ≤ 0 → (sh σ x0 = some (1, 2)) ∧ (rI x3) ∧ (rI (σ.1 x0 1)) ∧ (((σ.1 x0 1) < x3 → Q none σ) ∧ (¬ (σ.1 x0 1) < x3 → (sh σ x0 = some (1, 2)) ∧ (inb σ (σ.1 x0 0) 21 (x3 - 1)) ∧ (-128 ≤ x2 ∧ x2 ≤ 127) ∧ Q none (wr σ (σ.1 x0 0) (x3 - 1) x2)))))) : WP E m_Draft_openBrackets (d + 1) 64 [(0, aP x0), (2, aI x2), (3, aI x3)] [] σ Q := by
  refine s_iload_n 2 d_Draft_openBrackets_64 rfl rfl ?_
  obtain ⟨g1, h⟩ := h
  refine s_if_le d_Draft_openBrackets_65 rfl g1 (fun c => ?_) (fun c => ?_)
  · have h := h.1 c
    exact s_return d_Draft_openBrackets_85 rfl h
  · have h := h.2 c
    refine s_iload_n 2 d_Draft_openBrackets_68 rfl rfl ?_
    refine s_aload_n 0 d_Draft_openBrackets_69 rfl rfl ?_
    obtain ⟨g2, h⟩ := h
    refine s_getF (v := σ.1 x0 1) d_Draft_openBrackets_70 fl_Draft_15 rfl g2 rfl ?_
    obtain ⟨g3, h⟩ := h
    obtain ⟨g4, h⟩ := h
    refine s_icmp_gt d_Draft_openBrackets_73 rfl g3 g4 (fun c => ?_) (fun c => ?_)
    · have h := h.1 c
      exact s_return d_Draft_openBrackets_85 rfl h
    · have h := h.2 c
      refine s_aload_n 0 d_Draft_openBrackets_76 rfl rfl ?_
      obtain ⟨g5, h⟩ := h
      refine s_getF (v := σ.1 x0 0) d_Draft_openBrackets_77 fl_Draft_9 rfl g5 rfl ?_
      refine s_iload_n 2 d_Draft_openBrackets_80 rfl rfl ?_
      refine s_iconst d_Draft_openBrackets_81 ?_
      refine s_isub d_Draft_openBrackets_82 ?_
      refine s_iload_n 1 d_Draft_openBrackets_83 rfl rfl ?_
      obtain ⟨g6, h⟩ := h
      obtain ⟨g7, h⟩ := h
      refine s_bastore (Or.inl ⟨rfl, g7⟩) d_Draft_openBrackets_84 g6 ?_
      exact s_return d_Draft_openBrackets_85 rfl h
theorem d_Draft_made_0 : decode m_Draft_made.2.1 0 = .ok (.new 23, 3) := by decide +kernel
theorem d_Draft_made_3 : decode m_Draft_made.2.1 3 = .ok (.dup, 1) := by decide +kernel
theorem d_Draft_made_4 : decode m_Draft_made.2.1 4 = .ok (.aload_n 0, 1) := by decide +kernel
theorem d_Draft_made_5 : decode m_Draft_made.2.1 5 = .ok (.getfield 9, 3) := by decide +kernel
theorem d_Draft_made_8 : decode m_Draft_made.2.1 8 = .ok (.aload_n 0, 1) := by decide +kernel
theorem d_Draft_made_9 : decode m_Draft_made.2.1 9 = .ok (.getfield 15, 3) := by decide +kernel
theorem d_Draft_made_12 : decode m_Draft_made.2.1 12 = .ok (.invokestatic 54, 3) := by decide +kernel
theorem d_Draft_made_15 : decode m_Draft_made.2.1 15 = .ok (.invokespecial 60, 3) := by decide +kernel
theorem d_Draft_made_18 : decode m_Draft_made.2.1 18 = .ok (.areturn, 1) := by decide +kernel
theorem b_Draft_made_0 {E : EV} {d : Nat} {Q : Option AV → St → Prop} {σ : St} (x0 : Int) (h : (sh (al σ 7 1) x0 = some (1, 2)) ∧ (sh (al σ 7 1) x0 = some (1, 2)) ∧ (WMr E m_Arrays_copyOf d [aP ((al σ 7 1).1 x0 0), aI ((al σ 7 1).1 x0 1)] (al σ 7 1) (fun v3 σ3 => (0 < (nx σ)) ∧ (WMv E m_Sq_init d [aP (nx σ), aP v3] σ3 (fun σ4 => Q (some (aP (nx σ))) σ4))))) : WP E m_Draft_made (d + 1) 0 [(0, aP x0)] [] σ Q := by
  refine s_new (ci := 7) d_Draft_made_0 (by decide) rfl inG7 tyX7_ok (df_7 E) nw_Draft_23 in_7 ii_7 ?_
  refine s_dup d_Draft_made_3 (Nat.ne_of_beq_eq_false rfl) ?_
  refine s_aload_n 0 d_Draft_made_4 rfl rfl ?_
  obtain ⟨g1, h⟩ := h
  refine s_getF (v := (al σ 7 1).1 x0 0) d_Draft_made_5 fl_Draft_9 rfl g1 rfl ?_
  refine s_aload_n 0 d_Draft_made_8 rfl rfl ?_
  obtain ⟨g2, h⟩ := h
  refine s_getF (v := (al σ 7 1).1 x0 1) d_Draft_made_9 fl_Draft_15 rfl g2 rfl ?_
  refine s_callS (as := [aP ((al σ 7 1).1 x0 0), aI ((al σ 7 1).1 x0 1)]) d_Draft_made_12 ok_Arrays_copyOf lk_Draft_54 to_Arrays_copyOf rfl (Nat.le_of_ble_eq_true rfl) rfl (WM.mono h ?_)
  rintro _ σ3 ⟨v3, rfl, hp, h⟩
  show WP E m_Draft_made (d + 1) 15 [(0, aP x0)] [aP v3, aP (nx σ), aP (nx σ)] σ3 Q
  obtain ⟨g5, h⟩ := h
  refine s_callI (as := [aP v3]) d_Draft_made_15 ok_Sq_init lk_Draft_60 io_Sq_init rfl rfl rfl (Nat.le_of_ble_eq_true rfl) rfl g5 (WM.mono h ?_)
  rintro _ σ4 ⟨rfl, hp, h⟩
  show WP E m_Draft_made (d + 1) 18 [(0, aP x0)] [aP (nx σ)] σ4 Q
  exact s_areturn d_Draft_made_18 rfl (Or.inl ⟨_, rfl⟩) h
theorem e_Draft_made {E : EV} {d : Nat} {Q : Option AV → St → Prop} {σ : St} (x0 : Int) (h : (sh (al σ 7 1) x0 = some (1, 2)) ∧ (sh (al σ 7 1) x0 = some (1, 2)) ∧ (WMr E m_Arrays_copyOf d [aP ((al σ 7 1).1 x0 0), aI ((al σ 7 1).1 x0 1)] (al σ 7 1) (fun v3 σ3 => (0 < (nx σ)) ∧ (WMv E m_Sq_init d [aP (nx σ), aP v3] σ3 (fun σ4 => Q (some (aP (nx σ))) σ4))))) : WM E m_Draft_made (d + 1) [aP x0] σ Q := s_meth (by decide) (Nat.le_of_ble_eq_true rfl) rfl (b_Draft_made_0 x0 h)
theorem d_Draft_take_0 : decode m_Draft_take.2.1 0 = .ok (.aload_n 0, 1) := by decide +kernel
theorem d_Draft_take_1 : decode m_Draft_take.2.1 1 = .ok (.invokevirtual 19, 3) := by decide +kernel
theorem d_Draft_take_4 : decode m_Draft_take.2.1 4 = .ok (.aload_n 0, 1) := by decide +kernel
theorem d_Draft_take_5 : decode m_Draft_take.2.1 5 = .ok (.aload_n 1, 1) := by decide +kernel
theorem d_Draft_take_6 : decode m_Draft_take.2.1 6 = .ok (.iconst 0, 1) := by decide +kernel
theorem d_Draft_take_7 : decode m_Draft_take.2.1 7 = .ok (.aload_n 1, 1) := by decide +kernel
theorem d_Draft_take_8 : decode m_Draft_take.2.1 8 = .ok (.invokevirtual 22, 3) := by decide +kernel
theorem d_Draft_take_11 : decode m_Draft_take.2.1 11 = .ok (.invokevirtual 27, 3) := by decide +kernel
theorem d_Draft_take_14 : decode m_Draft_take.2.1 14 = .ok (.return_, 1) := by decide +kernel
theorem b_Draft_take_0 {E : EV} {d : Nat} {Q : Option AV → St → Prop} {σ : St} (x0 x1 : Int) (h : (sh σ x0 = some (1, 2)) ∧ (WMv E m_Draft_clear d [aP x0] σ (fun σ1 => (sh σ1 x1 = some (7, 1)) ∧ (WMi E m_Sq_length d [aP x1] σ1 (fun v3 σ3 => (sh σ3 x0 = some (1, 2)) ∧ (WMv E m_Draft_putAll d [aP x0, aP x1, aI 0, aI v3] σ3 (fun σ5 => Q none σ5))))))) : WP E m_Draft_take (d + 1) 0 [(0, aP x0), (1, aP x1)] [] σ Q := by
  refine s_aload_n 0 d_Draft_take_0 rfl rfl ?_
  obtain ⟨g2, h⟩ := h
  refine s_callV (as := []) (ci := 1) d_Draft_take_1 ok_Draft_clear lk_Draft_19 io_Draft_clear so_Draft_clear (by decide) rfl rfl rfl (Nat.le_of_ble_eq_true rfl) rfl g2 (WM.mono h ?_)
  rintro _ σ1 ⟨rfl, hp, h⟩
  show WP E m_Draft_take (d + 1) 4 [(0, aP x0), (1, aP x1)] [] σ1 Q
  refine s_aload_n 0 d_Draft_take_4 rfl rfl ?_
  refine s_aload_n 1 d_Draft_take_5 rfl rfl ?_
  refine s_iconst d_Draft_take_6 ?_
  refine s_aload_n 1 d_Draft_take_7 rfl rfl ?_
  obtain ⟨g4, h⟩ := h
  refine s_callV (as := []) (ci := 7) d_Draft_take_8 ok_Sq_length lk_Draft_22 io_Sq_length so_Sq_length (by decide) rfl rfl rfl (Nat.le_of_ble_eq_true rfl) rfl g4 (WM.mono h ?_)
  rintro _ σ3 ⟨v3, rfl, hp, h⟩
  show WP E m_Draft_take (d + 1) 11 [(0, aP x0), (1, aP x1)] [aI v3, aI 0, aP x1, aP x0] σ3 Q
  obtain ⟨g6, h⟩ := h
  refine s_callV (as := [aP x1, aI 0, aI v3]) (ci := 1) d_Draft_take_11 ok_Draft_putAll lk_Draft_27 io_Draft_putAll so_Draft_putAll (by decide) rfl rfl rfl (Nat.le_of_ble_eq_true rfl) rfl g6 (WM.mono h ?_)
  rintro _ σ5 ⟨rfl, hp, h⟩
  show WP E m_Draft_take (d + 1) 14 [(0, aP x0), (1, aP x1)] [] σ5 Q
  exact s_return d_Draft_take_14 rfl h
theorem e_Draft_take {E : EV} {d : Nat} {Q : Option AV → St → Prop} {σ : St} (x0 x1 : Int) (h : (sh σ x0 = some (1, 2)) ∧ (WMv E m_Draft_clear d [aP x0] σ (fun σ1 => (sh σ1 x1 = some (7, 1)) ∧ (WMi E m_Sq_length d [aP x1] σ1 (fun v3 σ3 => (sh σ3 x0 = some (1, 2)) ∧ (WMv E m_Draft_putAll d [aP x0, aP x1, aI 0, aI v3] σ3 (fun σ5 => Q none σ5))))))) : WM E m_Draft_take (d + 1) [aP x0, aP x1] σ Q := s_meth (by decide) (Nat.le_of_ble_eq_true rfl) rfl (b_Draft_take_0 x0 x1 h)
theorem d_Draft_putAll_0 : decode m_Draft_putAll.2.1 0 = .ok (.iload_n 2, 1) := by decide +kernel
theorem d_Draft_putAll_1 : decode m_Draft_putAll.2.1 1 = .ok (.istore 4, 2) := by decide +kernel
theorem d_Draft_putAll_3 : decode m_Draft_putAll.2.1 3 = .ok (.iload 4, 2) := by decide +kernel
theorem d_Draft_putAll_5 : decode m_Draft_putAll.2.1 5 = .ok (.iload_n 3, 1) := by decide +kernel
theorem d_Draft_putAll_6 : decode m_Draft_putAll.2.1 6 = .ok (.if_icmp .ge 28, 3) := by decide +kernel
theorem d_Draft_putAll_9 : decode m_Draft_putAll.2.1 9 = .ok (.iload 4, 2) := by decide +kernel
theorem d_Draft_putAll_11 : decode m_Draft_putAll.2.1 11 = .ok (.aload_n 1, 1) := by decide +kernel
theorem d_Draft_putAll_12 : decode m_Draft_putAll.2.1 12 = .ok (.invokevirtual 22, 3) := by decide +kernel
theorem d_Draft_putAll_15 : decode m_Draft_putAll.2.1 15 = .ok (.if_icmp .ge 19, 3) := by decide +kernel
theorem d_Draft_putAll_18 : decode m_Draft_putAll.2.1 18 = .ok (.aload_n 0, 1) := by decide +kernel
theorem d_Draft_putAll_19 : decode m_Draft_putAll.2.1 19 = .ok (.aload_n 1, 1) := by decide +kernel
theorem d_Draft_putAll_20 : decode m_Draft_putAll.2.1 20 = .ok (.iload 4, 2) := by decide +kernel
theorem d_Draft_putAll_22 : decode m_Draft_putAll.2.1 22 = .ok (.invokevirtual 35, 3) := by decide +kernel
theorem d_Draft_putAll_25 : decode m_Draft_putAll.2.1 25 = .ok (.invokevirtual 39, 3) := by decide +kernel
theorem d_Draft_putAll_28 : decode m_Draft_putAll.2.1 28 = .ok (.iinc 4 1, 3) := by decide +kernel
theorem d_Draft_putAll_31 : decode m_Draft_putAll.2.1 31 = .ok (.goto (-28), 3) := by decide +kernel
theorem d_Draft_putAll_34 : decode m_Draft_putAll.2.1 34 = .ok (.return_, 1) := by decide +kernel
theorem b_Draft_putAll_0 {E : EV} {d : Nat} {Q : Option AV → St → Prop} {σ : St} (x0 x1 x2 x3 : Int) (h : WP E m_Draft_putAll (d + 1) 3 [(0, aP x0), (1, aP x1), (3, aI x3), (4, aI x2)] [] σ Q) : WP E m_Draft_putAll (d + 1) 0 [(0, aP x0), (1, aP x1), (2, aI x2), (3, aI x3)] [] σ Q := by
  refine s_iload_n 2 d_Draft_putAll_0 rfl rfl ?_
  refine s_istore d_Draft_putAll_1 (by decide) rfl ?_
  refine wp_drop [1, 2, 4, 0] rfl ?_
  exact h
theorem e_Draft_putAll {E : EV} {d : Nat} {Q : Option AV → St → Prop} {σ : St} (x0 x1 x2 x3 : Int) (h : WP E m_Draft_putAll (d + 1) 3 [(0, aP x0), (1, aP x1), (3, aI x3), (4, aI x2)] [] σ Q) : WM E m_Draft_putAll (d + 1) [aP x0, aP x1, aI x2, aI x3] σ Q := s_meth (by decide) (Nat.le_of_ble_eq_true rfl) rfl (b_Draft_putAll_0 x0 x1 x2 x3 h)
theorem b_Draft_putAll_3 {E : EV} {d : Nat} {Q : Option AV → St → Prop} {σ : St} (x0 x1 x3 x4 : Int) (h : (rI x4) ∧ (rI x3) ∧ ((x3 ≤ x4 → Q none σ) ∧ (¬ x3 ≤ x4 → (sh σ x1 = some (7, 1)) ∧ (WMi E m_Sq_length d [aP x1] σ (fun v3 σ3 => (rI x4) ∧ (rI v3) ∧ ((v3 ≤ x4 → Q none σ3) ∧ (¬ v3 ≤ x4 → (sh σ3 x1 = some (7, 1)) ∧ (WMi E m_Sq_symbol d [aP x1, aI x4] σ3 (fun v7 σ7 => (sh σ7 x0 = some (1, 2)) ∧ (WMv E m_Draft_put d [aP x0, aI v7] σ7 (fun σ9 => WP E m_Draft_putAll (d + 1) 3 [(0, aP x0), (1, aP x1), (3, aI x3), (4, aI (x4 + 1))] [] σ9 Q))))))))))) : WP E m_Draft_putAll (d + 1) 3 [(0, aP x0), (1, aP x1), (3, aI x3), (4, aI x4)] [] σ Q := by
  refine s_iload 3 d_Draft_putAll_3 rfl ?_
  refine s_iload_n 2 d_Draft_putAll_5 rfl rfl ?_
  obtain ⟨g1, h⟩ := h
  obtain ⟨g2, h⟩ := h
  refine s_icmp_ge d_Draft_putAll_6 rfl g1 g2 (fun c => ?_) (fun c => ?_)
  · have h := h.1 c
    exact s_return d_Draft_putAll_34 rfl h
  · have h := h.2 c
    refine s_iload 3 d_Draft_putAll_9 rfl ?_
    refine s_aload_n 1 d_Draft_putAll_11 rfl rfl ?_
    obtain ⟨g4, h⟩ := h
    refine s_callV (as := []) (ci := 7) d_Draft_putAll_12 ok_Sq_length lk_Draft_22 io_Sq_length so_Sq_length (by decide) rfl rfl rfl (Nat.le_of_ble_eq_true rfl) rfl g4 (WM.mono h ?_)
    rintro _ σ3 ⟨v3, rfl, hp, h⟩
    show WP E m_Draft_putAll (d + 1) 15 [(0, aP x0), (1, aP x1), (3, aI x3), (4, aI x4)] [aI v3, aI x4] σ3 Q
    obtain ⟨g5, h⟩ := h
    obtain ⟨g6, h⟩ := h
    refine s_icmp_ge d_Draft_putAll_15 rfl g5 g6 (fun c => ?_) (fun c => ?_)
    · have h := h.1 c
      exact s_return d_Draft_putAll_34 rfl h
    · have h := h.2 c
      refine s_aload_n 0 d_Draft_putAll_18 rfl rfl ?_
      refine s_aload_n 1 d_Draft_putAll_19 rfl rfl ?_
      refine s_iload 3 d_Draft_putAll_20 rfl ?_
      obtain ⟨g8, h⟩ := h
      refine s_callV (as := [aI x4]) (ci := 7) d_Draft_putAll_22 ok_Sq_symbol lk_Draft_35 io_Sq_symbol so_Sq_symbol (by decide) rfl rfl rfl (Nat.le_of_ble_eq_true rfl) rfl g8 (WM.mono h ?_)
      rintro _ σ7 ⟨v7, rfl, hp, h⟩
      show WP E m_Draft_putAll (d + 1) 25 [(0, aP x0), (1, aP x1), (3, aI x3), (4, aI x4)] [aI v7, aP x0] σ7 Q
      obtain ⟨g10, h⟩ := h
      refine s_callV (as := [aI v7]) (ci := 1) d_Draft_putAll_25 ok_Draft_put lk_Draft_39 io_Draft_put so_Draft_put (by decide) rfl rfl rfl (Nat.le_of_ble_eq_true rfl) rfl g10 (WM.mono h ?_)
      rintro _ σ9 ⟨rfl, hp, h⟩
      show WP E m_Draft_putAll (d + 1) 28 [(0, aP x0), (1, aP x1), (3, aI x3), (4, aI x4)] [] σ9 Q
      refine s_iinc 3 d_Draft_putAll_28 rfl (by decide) rfl ?_
      refine s_goto d_Draft_putAll_31 rfl ?_
      refine wp_drop [1, 2, 3, 0] rfl ?_
      exact h
theorem d_Line_init_0 : decode m_Line_init.2.1 0 = .ok (.aload_n 0, 1) := by decide +kernel
theorem d_Line_init_1 : decode m_Line_init.2.1 1 = .ok (.invokespecial 1, 3) := by decide +kernel
theorem d_Line_init_4 : decode m_Line_init.2.1 4 = .ok (.aload_n 0, 1) := by decide +kernel
theorem d_Line_init_5 : decode m_Line_init.2.1 5 = .ok (.aload_n 1, 1) := by decide +kernel
theorem d_Line_init_6 : decode m_Line_init.2.1 6 = .ok (.putfield 7, 3) := by decide +kernel
theorem d_Line_init_9 : decode m_Line_init.2.1 9 = .ok (.aload_n 0, 1) := by decide +kernel
theorem d_Line_init_10 : decode m_Line_init.2.1 10 = .ok (.iload_n 2, 1) := by decide +kernel
theorem d_Line_init_11 : decode m_Line_init.2.1 11 = .ok (.putfield 13, 3) := by decide +kernel
theorem d_Line_init_14 : decode m_Line_init.2.1 14 = .ok (.return_, 1) := by decide +kernel
theorem b_Line_init_0 {E : EV} {d : Nat} {Q : Option AV → St → Prop} {σ : St} (x0 x1 x2 : Int) (h : (0 < x0) ∧ (sh σ x0 = some (3, 2)) ∧ (x2 = 0 ∨ x2 = 1) ∧ (sh (wr σ x0 0 x1) x0 = some (3, 2)) ∧ Q none (wr (wr σ x0 0 x1) x0 1 x2)) : WP E m_Line_init (d + 1) 0 [(0, aP x0), (1, aP x1), (2, aI x2)] [] σ Q := by
  refine s_aload_n 0 d_Line_init_0 rfl rfl ?_
  obtain ⟨g1, h⟩ := h
  refine s_objInit d_Line_init_1 lo_Line_1 lo_inst lo_code g1 (Nat.le_of_ble_eq_true rfl) ?_
  refine s_aload_n 0 d_Line_init_4 rfl rfl ?_
  refine s_aload_n 1 d_Line_init_5 rfl rfl ?_
  obtain ⟨g2, h⟩ := h
  refine s_putf 0 rfl d_Line_init_6 fl_Line_7 (fun C T h => by cases h; exact Or.inr ⟨rfl, rfl, rfl, fk_Line_7⟩) rfl (Or.inr (Or.inr (Or.inr (Or.inr ⟨_, rfl⟩)))) (fun h => nomatch h) g2 ?_
  refine s_aload_n 0 d_Line_init_9 rfl rfl ?_
  refine s_iload_n 2 d_Line_init_10 rfl rfl ?_
  obtain ⟨g3, h⟩ := h
  obtain ⟨g4, h⟩ := h
  refine s_putf 1 rfl d_Line_init_11 fl_Line_13 (fun C T h => by cases h; exact Or.inr ⟨rfl, rfl, rfl, fk_Line_13⟩) rfl (Or.inr (Or.inr (Or.inl rfl))) (fun _ => g3) g4 ?_
  exact s_return d_Line_init_14 rfl h
theorem e_Line_init {E : EV} {d : Nat} {Q : Option AV → St → Prop} {σ : St} (x0 x1 x2 : Int) (h : (0 < x0) ∧ (sh σ x0 = some (3, 2)) ∧ (x2 = 0 ∨ x2 = 1) ∧ (sh (wr σ x0 0 x1) x0 = some (3, 2)) ∧ Q none (wr (wr σ x0 0 x1) x0 1 x2)) : WM E m_Line_init (d + 1) [aP x0, aP x1, aI x2] σ Q := s_meth (by decide) (Nat.le_of_ble_eq_true rfl) rfl (b_Line_init_0 x0 x1 x2 h)
theorem d_Line_get_0 : decode m_Line_get.2.1 0 = .ok (.aload_n 0, 1) := by decide +kernel
theorem d_Line_get_1 : decode m_Line_get.2.1 1 = .ok (.iload_n 1, 1) := by decide +kernel
theorem d_Line_get_2 : decode m_Line_get.2.1 2 = .ok (.invokevirtual 17, 3) := by decide +kernel
theorem d_Line_get_5 : decode m_Line_get.2.1 5 = .ok (.ifCond .eq 12, 3) := by decide +kernel
theorem d_Line_get_8 : decode m_Line_get.2.1 8 = .ok (.aload_n 0, 1) := by decide +kernel
theorem d_Line_get_9 : decode m_Line_get.2.1 9 = .ok (.getfield 7, 3) := by decide +kernel
theorem d_Line_get_12 : decode m_Line_get.2.1 12 = .ok (.iload_n 1, 1) := by decide +kernel
theorem d_Line_get_13 : decode m_Line_get.2.1 13 = .ok (.aaload, 1) := by decide +kernel
theorem d_Line_get_14 : decode m_Line_get.2.1 14 = .ok (.goto 4, 3) := by decide +kernel
theorem d_Line_get_17 : decode m_Line_get.2.1 17 = .ok (.aconst_null, 1) := by decide +kernel
theorem d_Line_get_18 : decode m_Line_get.2.1 18 = .ok (.areturn, 1) := by decide +kernel
theorem b_Line_get_0 {E : EV} {d : Nat} {Q : Option AV → St → Prop} {σ : St} (x0 x1 : Int) (h : (sh σ x0 = some (3, 2)) ∧ (WMi E m_Line_has d [aP x0, aI x1] σ (fun v1 σ1 => (rI v1) ∧ ((v1 = 0 → Q (some (aP 0)) σ1) ∧ (¬ v1 = 0 → (sh σ1 x0 = some (3, 2)) ∧ (inb σ1 (σ1.1 x0 0) 24 x1) ∧ Q (some (aP (σ1.1 (σ1.1 x0 0) x1))) σ1))))) : WP E m_Line_get (d + 1) 0 [(0, aP x0), (1, aI x1)] [] σ Q := by
  refine s_aload_n 0 d_Line_get_0 rfl rfl ?_
  refine s_iload_n 1 d_Line_get_1 rfl rfl ?_
  obtain ⟨g2, h⟩ := h
  refine s_callV (as := [aI x1]) (ci := 3) d_Line_get_2 ok_Line_has lk_Line_17 io_Line_has so_Line_has (by decide) rfl rfl rfl (Nat.le_of_ble_eq_true rfl) rfl g2 (WM.mono h ?_)
  rintro _ σ1 ⟨v1, rfl, hp, h⟩
  show WP E m_Line_get (d + 1) 5 [(0, aP x0), (1, aI x1)] [aI v1] σ1 Q
  obtain ⟨g3, h⟩ := h
  refine s_if_eq d_Line_get_5 rfl g3 (fun c => ?_) (fun c => ?_)
  · have h := h.1 c
    refine s_null d_Line_get_17 ?_
    exact s_areturn d_Line_get_18 rfl (Or.inl ⟨_, rfl⟩) h
  · have h := h.2 c
    refine s_aload_n 0 d_Line_get_8 rfl rfl ?_
    obtain ⟨g4, h⟩ := h
    refine s_getF (v := σ1.1 x0 0) d_Line_get_9 fl_Line_7 rfl g4 rfl ?_
    refine s_iload_n 1 d_Line_get_12 rfl rfl ?_
    obtain ⟨g5, h⟩ := h
    refine s_aaloadv (v := σ1.1 (σ1.1 x0 0) x1) (by decide) d_Line_get_13 g5 rfl ?_
    refine s_goto d_Line_get_14 rfl ?_
    exact s_areturn d_Line_get_18 rfl (Or.inl ⟨_, rfl⟩) h
theorem e_Line_get {E : EV} {d : Nat} {Q : Option AV → St → Prop} {σ : St} (x0 x1 : Int) (h : (sh σ x0 = some (3, 2)) ∧ (WMi E m_Line_has d [aP x0, aI x1] σ (fun v1 σ1 => (rI v1) ∧ ((v1 = 0 → Q (some (aP 0)) σ1) ∧ (¬ v1 = 0 → (sh σ1 x0 = some (3, 2)) ∧ (inb σ1 (σ1.1 x0 0) 24 x1) ∧ Q (some (aP (σ1.1 (σ1.1 x0 0) x1))) σ1))))) : WM E m_Line_get (d + 1) [aP x0, aI x1] σ Q := s_meth (by decide) (Nat.le_of_ble_eq_true rfl) rfl (b_Line_get_0 x0 x1 h)
theorem d_Line_has_0 : decode m_Line_has.2.1 0 = .ok (.iload_n 1, 1) := by decide +kernel
theorem d_Line_has_1 : decode m_Line_has.2.1 1 = .ok (.ifCond .lt 16, 3) := by decide +kernel
theorem d_Line_has_4 : decode m_Line_has.2.1 4 = .ok (.iload_n 1, 1) := by decide +kernel
theorem d_Line_has_5 : decode m_Line_has.2.1 5 = .ok (.aload_n 0, 1) := by decide +kernel
theorem d_Line_has_6 : decode m_Line_has.2.1 6 = .ok (.getfield 7, 3) := by decide +kernel
theorem d_Line_has_9 : decode m_Line_has.2.1 9 = .ok (.arraylength, 1) := by decide +kernel
theorem d_Line_has_10 : decode m_Line_has.2.1 10 = .ok (.if_icmp .ge 7, 3) := by decide +kernel
theorem d_Line_has_13 : decode m_Line_has.2.1 13 = .ok (.iconst 1, 1) := by decide +kernel
theorem d_Line_has_14 : decode m_Line_has.2.1 14 = .ok (.goto 4, 3) := by decide +kernel
theorem d_Line_has_17 : decode m_Line_has.2.1 17 = .ok (.iconst 0, 1) := by decide +kernel
theorem d_Line_has_18 : decode m_Line_has.2.1 18 = .ok (.ireturn, 1) := by decide +kernel
theorem b_Line_has_0 {E : EV} {d : Nat} {Q : Option AV → St → Prop} {σ : St} (x0 x1 : Int) (h : (rI x1) ∧ ((x1 < 0 → Q (some (aI 0)) σ) ∧ (¬ x1 < 0 → (sh σ x0 = some (3, 2)) ∧ (sa σ (σ.1 x0 0) 24) ∧ (rI x1) ∧ (rI (ln σ (σ.1 x0 0))) ∧ (((ln σ (σ.1 x0 0)) ≤ x1 → Q (some (aI 0)) σ) ∧ (¬ (ln σ (σ.1 x0 0)) ≤ x1 → Q (some (aI 1)) σ))))) : WP E m_Line_has d 0 [(0, aP x0), (1, aI x1)] [] σ Q := by
  refine s_iload_n 1 d_Line_has_0 rfl rfl ?_
  obtain ⟨g1, h⟩ := h
  refine s_if_lt d_Line_has_1 rfl g1 (fun c => ?_) (fun c => ?_)
  · have h := h.1 c
    refine s_iconst d_Line_has_17 ?_
    exact s_zreturn d_Line_has_18 rfl (by decide) h
  · have h := h.2 c
    refine s_iload_n 1 d_Line_has_4 rfl rfl ?_
    refine s_aload_n 0 d_Line_has_5 rfl rfl ?_
    obtain ⟨g2, h⟩ := h
    refine s_getF (v := σ.1 x0 0) d_Line_has_6 fl_Line_7 rfl g2 rfl ?_
    obtain ⟨g3, h⟩ := h
    refine s_alenS (by decide) d_Line_has_9 g3 ?_
    obtain ⟨g4, h⟩ := h
    obtain ⟨g5, h⟩ := h
    refine s_icmp_ge d_Line_has_10 rfl g4 g5 (fun c => ?_) (fun c => ?_)
    · have h := h.1 c
      refine s_iconst d_Line_has_17 ?_
      exact s_zreturn d_Line_has_18 rfl (by decide) h
    · have h := h.2 c
      refine s_iconst d_Line_has_13 ?_
      refine s_goto d_Line_has_14 rfl ?_
      exact s_zreturn d_Line_has_18 rfl (by decide) h
theorem e_Line_has {E : EV} {d : Nat} {Q : Option AV → St → Prop} {σ : St} (x0 x1 : Int) (h : (rI x1) ∧ ((x1 < 0 → Q (some (aI 0)) σ) ∧ (¬ x1 < 0 → (sh σ x0 = some (3, 2)) ∧ (sa σ (σ.1 x0 0) 24) ∧ (rI x1) ∧ (rI (ln σ (σ.1 x0 0))) ∧ (((ln σ (σ.1 x0 0)) ≤ x1 → Q (some (aI 0)) σ) ∧ (¬ (ln σ (σ.1 x0 0)) ≤ x1 → Q (some (aI 1)) σ))))) : WM E m_Line_has d [aP x0, aI x1] σ Q := s_meth (by decide) (Nat.le_of_ble_eq_true rfl) rfl (b_Line_has_0 x0 x1 h)
theorem d_Line_with_0 : decode m_Line_with.2.1 0 = .ok (.aload_n 0, 1) := by decide +kernel
theorem d_Line_with_1 : decode m_Line_with.2.1 1 = .ok (.getfield 7, 3) := by decide +kernel
theorem d_Line_with_4 : decode m_Line_with.2.1 4 = .ok (.arraylength, 1) := by decide +kernel
theorem d_Line_with_5 : decode m_Line_with.2.1 5 = .ok (.anewarray 22, 3) := by decide +kernel
theorem d_Line_with_8 : decode m_Line_with.2.1 8 = .ok (.astore_n 3, 1) := by decide +kernel
theorem d_Line_with_9 : decode m_Line_with.2.1 9 = .ok (.iconst 0, 1) := by decide +kernel
theorem d_Line_with_10 : decode m_Line_with.2.1 10 = .ok (.istore 4, 2) := by decide +kernel
theorem d_Line_with_12 : decode m_Line_with.2.1 12 = .ok (.iload 4, 2) := by decide +kernel
theorem d_Line_with_14 : decode m_Line_with.2.1 14 = .ok (.aload_n 3, 1) := by decide +kernel
theorem d_Line_with_15 : decode m_Line_with.2.1 15 = .ok (.arraylength, 1) := by decide +kernel
theorem d_Line_with_16 : decode m_Line_with.2.1 16 = .ok (.if_icmp .ge 29, 3) := by decide +kernel
theorem d_Line_with_19 : decode m_Line_with.2.1 19 = .ok (.aload_n 3, 1) := by decide +kernel
theorem d_Line_with_20 : decode m_Line_with.2.1 20 = .ok (.iload 4, 2) := by decide +kernel
theorem d_Line_with_22 : decode m_Line_with.2.1 22 = .ok (.iload 4, 2) := by decide +kernel
theorem d_Line_with_24 : decode m_Line_with.2.1 24 = .ok (.iload_n 1, 1) := by decide +kernel
theorem d_Line_with_25 : decode m_Line_with.2.1 25 = .ok (.if_icmp .ne 7, 3) := by decide +kernel
theorem d_Line_with_28 : decode m_Line_with.2.1 28 = .ok (.aload_n 2, 1) := by decide +kernel
theorem d_Line_with_29 : decode m_Line_with.2.1 29 = .ok (.goto 9, 3) := by decide +kernel
theorem d_Line_with_32 : decode m_Line_with.2.1 32 = .ok (.aload_n 0, 1) := by decide +kernel
theorem d_Line_with_33 : decode m_Line_with.2.1 33 = .ok (.iload 4, 2) := by decide +kernel
theorem d_Line_with_35 : decode m_Line_with.2.1 35 = .ok (.invokevirtual 31, 3) := by decide +kernel
theorem d_Line_with_38 : decode m_Line_with.2.1 38 = .ok (.aastore, 1) := by decide +kernel
theorem d_Line_with_39 : decode m_Line_with.2.1 39 = .ok (.iinc 4 1, 3) := by decide +kernel
theorem d_Line_with_42 : decode m_Line_with.2.1 42 = .ok (.goto (-30), 3) := by decide +kernel
theorem d_Line_with_45 : decode m_Line_with.2.1 45 = .ok (.new 8, 3) := by decide +kernel
theorem d_Line_with_48 : decode m_Line_with.2.1 48 = .ok (.dup, 1) := by decide +kernel
theorem d_Line_with_49 : decode m_Line_with.2.1 49 = .ok (.aload_n 3, 1) := by decide +kernel
theorem d_Line_with_50 : decode m_Line_with.2.1 50 = .ok (.aload_n 0, 1) := by decide +kernel
theorem d_Line_with_51 : decode m_Line_with.2.1 51 = .ok (.getfield 13, 3) := by decide +kernel
theorem d_Line_with_54 : decode m_Line_with.2.1 54 = .ok (.invokespecial 35, 3) := by decide +kernel
theorem d_Line_with_57 : decode m_Line_with.2.1 57 = .ok (.areturn, 1) := by decide +kernel
theorem b_Line_with_0 {E : EV} {d : Nat} {Q : Option AV → St → Prop} {σ : St} (x0 x1 x2 : Int) (h : (sh σ x0 = some (3, 2)) ∧ (sa σ (σ.1 x0 0) 24) ∧ (0 ≤ (ln σ (σ.1 x0 0)) ∧ (ln σ (σ.1 x0 0)) ≤ 1000000) ∧ WP E m_Line_with (d + 1) 12 [(0, aP x0), (1, aI x1), (2, aP x2), (3, aP (nx σ)), (4, aI 0)] [] (al σ 24 (Int.toNat (ln σ (σ.1 x0 0)))) Q) : WP E m_Line_with (d + 1) 0 [(0, aP x0), (1, aI x1), (2, aP x2)] [] σ Q := by
  refine s_aload_n 0 d_Line_with_0 rfl rfl ?_
  obtain ⟨g1, h⟩ := h
  refine s_getF (v := σ.1 x0 0) d_Line_with_1 fl_Line_7 rfl g1 rfl ?_
  obtain ⟨g2, h⟩ := h
  refine s_alenS (by decide) d_Line_with_4 g2 ?_
  obtain ⟨g3, h⟩ := h
  refine s_anewarray (kd := 24) d_Line_with_5 (by decide) rfl nw_Line_22 g3 ?_
  refine s_astore_n d_Line_with_8 rfl (by decide) rfl ?_
  refine s_iconst d_Line_with_9 ?_
  refine s_istore d_Line_with_10 (by decide) rfl ?_
  refine wp_drop [2, 3, 4, 1, 0] rfl ?_
  exact h
theorem e_Line_with {E : EV} {d : Nat} {Q : Option AV → St → Prop} {σ : St} (x0 x1 x2 : Int) (h : (sh σ x0 = some (3, 2)) ∧ (sa σ (σ.1 x0 0) 24) ∧ (0 ≤ (ln σ (σ.1 x0 0)) ∧ (ln σ (σ.1 x0 0)) ≤ 1000000) ∧ WP E m_Line_with (d + 1) 12 [(0, aP x0), (1, aI x1), (2, aP x2), (3, aP (nx σ)), (4, aI 0)] [] (al σ 24 (Int.toNat (ln σ (σ.1 x0 0)))) Q) : WM E m_Line_with (d + 1) [aP x0, aI x1, aP x2] σ Q := s_meth (by decide) (Nat.le_of_ble_eq_true rfl) rfl (b_Line_with_0 x0 x1 x2 h)
theorem b_Line_with_12 {E : EV} {d : Nat} {Q : Option AV → St → Prop} {σ : St} (x0 x1 x2 x3 x4 : Int) (h : (sa σ x3 24) ∧ (rI x4) ∧ (rI (ln σ x3)) ∧ (((ln σ x3) ≤ x4 → (sh (al σ 3 2) x0 = some (3, 2)) ∧ (0 < (nx σ)) ∧ (WMv E m_Line_init d [aP (nx σ), aP x3, aI ((al σ 3 2).1 x0 1)] (al σ 3 2) (fun σ5 => Q (some (aP (nx σ))) σ5))) ∧ (¬ (ln σ x3) ≤ x4 → (rI x4) ∧ (rI x1) ∧ ((¬ x4 = x1 → (sh σ x0 = some (3, 2)) ∧ (WMr E m_Line_get d [aP x0, aI x4] σ (fun v9 σ9 => WP E m_Line_with (d + 1) 38 [(0, aP x0), (1, aI x1), (2, aP x2), (3, aP x3), (4, aI x4)] [aP v9, aI x4, aP x3] σ9 Q))) ∧ (x4 = x1 → WP E m_Line_with (d + 1) 38 [(0, aP x0), (1, aI x1), (2, aP x2), (3, aP x3), (4, aI x4)] [aP x2, aI x4, aP x3] σ Q))))) : WP E m_Line_with (d + 1) 12 [(0, aP x0), (1, aI x1), (2, aP x2), (3, aP x3), (4, aI x4)] [] σ Q := by
  refine s_iload 4 d_Line_with_12 rfl ?_
  refine s_aload_n 3 d_Line_with_14 rfl rfl ?_
  obtain ⟨g1, h⟩ := h
  refine s_alenS (by decide) d_Line_with_15 g1 ?_
  obtain ⟨g2, h⟩ := h
  obtain ⟨g3, h⟩ := h
  refine s_icmp_ge d_Line_with_16 rfl g2 g3 (fun c => ?_) (fun c => ?_)
  · have h := h.1 c
    refine s_new (ci := 3) d_Line_with_45 (by decide) rfl inG3 tyX3_ok (df_3 E) nw_Line_8 in_3 ii_3 ?_
    refine s_dup d_Line_with_48 (Nat.ne_of_beq_eq_false rfl) ?_
    refine s_aload_n 3 d_Line_with_49 rfl rfl ?_
    refine s_aload_n 0 d_Line_with_50 rfl rfl ?_
    obtain ⟨g4, h⟩ := h
    refine s_getF (v := (al σ 3 2).1 x0 1) d_Line_with_51 fl_Line_13 rfl g4 rfl ?_
    obtain ⟨g6, h⟩ := h
    refine s_callI (as := [aP x3, aI ((al σ 3 2).1 x0 1)]) d_Line_with_54 ok_Line_init lk_Line_35 io_Line_init rfl rfl rfl (Nat.le_of_ble_eq_true rfl) rfl g6 (WM.mono h ?_)
    rintro _ σ5 ⟨rfl, hp, h⟩
    show WP E m_Line_with (d + 1) 57 [(0, aP x0), (1, aI x1), (2, aP x2), (3, aP x3), (4, aI x4)] [aP (nx σ)] σ5 Q
    exact s_areturn d_Line_with_57 rfl (Or.inl ⟨_, rfl⟩) h
  · have h := h.2 c
    refine s_aload_n 3 d_Line_with_19 rfl rfl ?_
    refine s_iload 4 d_Line_with_20 rfl ?_
    refine s_iload 4 d_Line_with_22 rfl ?_
    refine s_iload_n 1 d_Line_with_24 rfl rfl ?_
    obtain ⟨g7, h⟩ := h
    obtain ⟨g8, h⟩ := h
    refine s_icmp_ne d_Line_with_25 rfl g7 g8 (fun c => ?_) (fun c => ?_)
    · have h := h.1 c
      refine s_aload_n 0 d_Line_with_32 rfl rfl ?_
      refine s_iload 4 d_Line_with_33 rfl ?_
      obtain ⟨g10, h⟩ := h
      refine s_callV (as := [aI x4]) (ci := 3) d_Line_with_35 ok_Line_get lk_Line_31 io_Line_get so_Line_get (by decide) rfl rfl rfl (Nat.le_of_ble_eq_true rfl) rfl g10 (WM.mono h ?_)
      rintro _ σ9 ⟨v9, rfl, hp, h⟩
      show WP E m_Line_with (d + 1) 38 [(0, aP x0), (1, aI x1), (2, aP x2), (3, aP x3), (4, aI x4)] [aP v9, aI x4, aP x3] σ9 Q
      exact h
    · have h := h.2 c
      refine s_aload_n 2 d_Line_with_28 rfl rfl ?_
      refine s_goto d_Line_with_29 rfl ?_
      exact h
theorem b_Line_with_38 {E : EV} {d : Nat} {Q : Option AV → St → Prop} {σ : St} (x0 x1 x2 x3 x4 s0 s1 s2 : Int) (h : (inb σ s0 24 s1) ∧ (s2 = 0 ∨ sh σ s2 = some (7, 1)) ∧ WP E m_Line_with (d + 1) 12 [(0, aP x0), (1, aI x1), (2, aP x2), (3, aP x3), (4, aI (x4 + 1))] [] (wr σ s0 s1 s2) Q) : WP E m_Line_with (d + 1) 38 [(0, aP x0), (1, aI x1), (2, aP x2), (3, aP x3), (4, aI x4)] [aP s2, aI s1, aP s0] σ Q := by
  obtain ⟨g1, h⟩ := h
  obtain ⟨g2, h⟩ := h
  refine s_aastore (ci := 7) (N := 1) (by decide) d_Line_with_38 g1 g2 ?_
  refine s_iinc 4 d_Line_with_39 rfl (by decide) rfl ?_
  refine s_goto d_Line_with_42 rfl ?_
  refine wp_drop [1, 2, 3, 4, 0] rfl ?_
  exact h
theorem d_Line_withoutNext_0 : decode m_Line_withoutNext.2.1 0 = .ok (.iconst 0, 1) := by decide +kernel
theorem d_Line_withoutNext_1 : decode m_Line_withoutNext.2.1 1 = .ok (.aload_n 0, 1) := by decide +kernel
theorem d_Line_withoutNext_2 : decode m_Line_withoutNext.2.1 2 = .ok (.getfield 7, 3) := by decide +kernel
theorem d_Line_withoutNext_5 : decode m_Line_withoutNext.2.1 5 = .ok (.arraylength, 1) := by decide +kernel
theorem d_Line_withoutNext_6 : decode m_Line_withoutNext.2.1 6 = .ok (.iconst 1, 1) := by decide +kernel
theorem d_Line_withoutNext_7 : decode m_Line_withoutNext.2.1 7 = .ok (.isub, 1) := by decide +kernel
theorem d_Line_withoutNext_8 : decode m_Line_withoutNext.2.1 8 = .ok (.invokestatic 38, 3) := by decide +kernel
theorem d_Line_withoutNext_11 : decode m_Line_withoutNext.2.1 11 = .ok (.anewarray 22, 3) := by decide +kernel
theorem d_Line_withoutNext_14 : decode m_Line_withoutNext.2.1 14 = .ok (.astore_n 3, 1) := by decide +kernel
theorem d_Line_withoutNext_15 : decode m_Line_withoutNext.2.1 15 = .ok (.iconst 0, 1) := by decide +kernel
theorem d_Line_withoutNext_16 : decode m_Line_withoutNext.2.1 16 = .ok (.istore 4, 2) := by decide +kernel
theorem d_Line_withoutNext_18 : decode m_Line_withoutNext.2.1 18 = .ok (.iload 4, 2) := by decide +kernel
theorem d_Line_withoutNext_20 : decode m_Line_withoutNext.2.1 20 = .ok (.aload_n 3, 1) := by decide +kernel
theorem d_Line_withoutNext_21 : decode m_Line_withoutNext.2.1 21 = .ok (.arraylength, 1) := by decide +kernel
theorem d_Line_withoutNext_22 : decode m_Line_withoutNext.2.1 22 = .ok (.if_icmp .ge 42, 3) := by decide +kernel
theorem d_Line_withoutNext_25 : decode m_Line_withoutNext.2.1 25 = .ok (.aload_n 3, 1) := by decide +kernel
theorem d_Line_withoutNext_26 : decode m_Line_withoutNext.2.1 26 = .ok (.iload 4, 2) := by decide +kernel
theorem d_Line_withoutNext_28 : decode m_Line_withoutNext.2.1 28 = .ok (.iload 4, 2) := by decide +kernel
theorem d_Line_withoutNext_30 : decode m_Line_withoutNext.2.1 30 = .ok (.iload_n 1, 1) := by decide +kernel
theorem d_Line_withoutNext_31 : decode m_Line_withoutNext.2.1 31 = .ok (.if_icmp .ne 7, 3) := by decide +kernel
theorem d_Line_withoutNext_34 : decode m_Line_withoutNext.2.1 34 = .ok (.aload_n 2, 1) := by decide +kernel
theorem d_Line_withoutNext_35 : decode m_Line_withoutNext.2.1 35 = .ok (.goto 22, 3) := by decide +kernel
theorem d_Line_withoutNext_38 : decode m_Line_withoutNext.2.1 38 = .ok (.aload_n 0, 1) := by decide +kernel
theorem d_Line_withoutNext_39 : decode m_Line_withoutNext.2.1 39 = .ok (.iload 4, 2) := by decide +kernel
theorem d_Line_withoutNext_41 : decode m_Line_withoutNext.2.1 41 = .ok (.iload_n 1, 1) := by decide +kernel
theorem d_Line_withoutNext_42 : decode m_Line_withoutNext.2.1 42 = .ok (.if_icmp .ge 8, 3) := by decide +kernel
theorem d_Line_withoutNext_45 : decode m_Line_withoutNext.2.1 45 = .ok (.iload 4, 2) := by decide +kernel
theorem d_Line_withoutNext_47 : decode m_Line_withoutNext.2.1 47 = .ok (.goto 7, 3) := by decide +kernel
theorem d_Line_withoutNext_50 : decode m_Line_withoutNext.2.1 50 = .ok (.iload 4, 2) := by decide +kernel
theorem d_Line_withoutNext_52 : decode m_Line_withoutNext.2.1 52 = .ok (.iconst 1, 1) := by decide +kernel
theorem d_Line_withoutNext_53 : decode m_Line_withoutNext.2.1 53 = .ok (.iadd, 1) := by decide +kernel
theorem d_Line_withoutNext_54 : decode m_Line_withoutNext.2.1 54 = .ok (.invokevirtual 31, 3) := by decide +kernel
theorem d_Line_withoutNext_57 : decode m_Line_withoutNext.2.1 57 = .ok (.aastore, 1) := by decide +kernel
theorem d_Line_withoutNext_58 : decode m_Line_withoutNext.2.1 58 = .ok (.iinc 4 1, 3) := by decide +kernel
theorem d_Line_withoutNext_61 : decode m_Line_withoutNext.2.1 61 = .ok (.goto (-43), 3) := by decide +kernel
theorem d_Line_withoutNext_64 : decode m_Line_withoutNext.2.1 64 = .ok (.new 8, 3) := by decide +kernel
theorem d_Line_withoutNext_67 : decode m_Line_withoutNext.2.1 67 = .ok (.dup, 1) := by decide +kernel
theorem d_Line_withoutNext_68 : decode m_Line_withoutNext.2.1 68 = .ok (.aload_n 3, 1) := by decide +kernel
theorem d_Line_withoutNext_69 : decode m_Line_withoutNext.2.1 69 = .ok (.aload_n 0, 1) := by decide +kernel
theorem d_Line_withoutNext_70 : decode m_Line_withoutNext.2.1 70 = .ok (.getfield 13, 3) := by decide +kernel
theorem d_Line_withoutNext_73 : decode m_Line_withoutNext.2.1 73 = .ok (.invokespecial 35, 3) := by decide +kernel
theorem d_Line_withoutNext_76 : decode m_Line_withoutNext.2.1 76 = .ok (.areturn, 1) := by decide +kernel
theorem b_Line_withoutNext_0 {E : EV} {d : Nat} {Q : Option AV → St → Prop} {σ : St} (x0 x1 x2 : Int) (h : (sh σ x0 = some (3, 2)) ∧ (sa σ (σ.1 x0 0) 24) ∧ (rI ((ln σ (σ.1 x0 0)) - 1)) ∧ (0 ≤ (max 0 ((ln σ (σ.1 x0 0)) - 1)) ∧ (max 0 ((ln σ (σ.1 x0 0)) - 1)) ≤ 1000000) ∧ WP E m_Line_withoutNext (d + 1) 18 [(0, aP x0), (1, aI x1), (2, aP x2), (3, aP (nx σ)), (4, aI 0)] [] (al σ 24 (Int.toNat (max 0 ((ln σ (σ.1 x0 0)) - 1)))) Q) : WP E m_Line_withoutNext (d + 1) 0 [(0, aP x0), (1, aI x1), (2, aP x2)] [] σ Q := by
  refine s_iconst d_Line_withoutNext_0 ?_
  refine s_aload_n 0 d_Line_withoutNext_1 rfl rfl ?_
  obtain ⟨g1, h⟩ := h
  refine s_getF (v := σ.1 x0 0) d_Line_withoutNext_2 fl_Line_7 rfl g1 rfl ?_
  obtain ⟨g2, h⟩ := h
  refine s_alenS (by decide) d_Line_withoutNext_5 g2 ?_
  refine s_iconst d_Line_withoutNext_6 ?_
  refine s_isub d_Line_withoutNext_7 ?_
  obtain ⟨g3, h⟩ := h
  refine s_mmax d_Line_withoutNext_8 lm_Line_38 lm_max_s lm_i lm_max_c (Nat.le_of_ble_eq_true rfl) (by decide) g3 ?_
  obtain ⟨g4, h⟩ := h
  refine s_anewarray (kd := 24) d_Line_withoutNext_11 (by decide) rfl nw_Line_22 g4 ?_
  refine s_astore_n d_Line_withoutNext_14 rfl (by decide) rfl ?_
  refine s_iconst d_Line_withoutNext_15 ?_
  refine s_istore d_Line_withoutNext_16 (by decide) rfl ?_
  refine wp_drop [2, 3, 4, 1, 0] rfl ?_
  exact h
theorem e_Line_withoutNext {E : EV} {d : Nat} {Q : Option AV → St → Prop} {σ : St} (x0 x1 x2 : Int) (h : (sh σ x0 = some (3, 2)) ∧ (sa σ (σ.1 x0 0) 24) ∧ (rI ((ln σ (σ.1 x0 0)) - 1)) ∧ (0 ≤ (max 0 ((ln σ (σ.1 x0 0)) - 1)) ∧ (max 0 ((ln σ (σ.1 x0 0)) - 1)) ≤ 1000000) ∧ WP E m_Line_withoutNext (d + 1) 18 [(0, aP x0), (1, aI x1), (2, aP x2), (3, aP (nx σ)), (4, aI 0)] [] (al σ 24 (Int.toNat (max 0 ((ln σ (σ.1 x0 0)) - 1)))) Q) : WM E m_Line_withoutNext (d + 1) [aP x0, aI x1, aP x2] σ Q := s_meth (by decide) (Nat.le_of_ble_eq_true rfl) rfl (b_Line_withoutNext_0 x0 x1 x2 h)
theorem b_Line_withoutNext_18 {E : EV} {d : Nat} {Q : Option AV → St → Prop} {σ : St} (x0 x1 x2 x3 x4 : Int) (h : (sa σ x3 24) ∧ (rI x4) ∧ (rI (ln σ x3)) ∧ (((ln σ x3) ≤ x4 → (sh (al σ 3 2) x0 = some (3, 2)) ∧ (0 < (nx σ)) ∧ (WMv E m_Line_init d [aP (nx σ), aP x3, aI ((al σ 3 2).1 x0 1)] (al σ 3 2) (fun σ5 => Q (some (aP (nx σ))) σ5))) ∧ (¬ (ln σ x3) ≤ x4 → (rI x4) ∧ (rI x1) ∧ ((¬ x4 = x1 → (rI x4) ∧ (rI x1) ∧ ((x1 ≤ x4 → WP E m_Line_withoutNext (d + 1) 54 [(0, aP x0), (1, aI x1), (2, aP x2), (3, aP x3), (4, aI x4)] [aI (x4 + 1), aP x0, aI x4, aP x3] σ Q) ∧ (¬ x1 ≤ x4 → WP E m_Line_withoutNext (d + 1) 54 [(0, aP x0), (1, aI x1), (2, aP x2), (3, aP x3), (4, aI x4)] [aI x4, aP x0, aI x4, aP x3] σ Q))) ∧ (x4 = x1 → WP E m_Line_withoutNext (d + 1) 57 [(0, aP x0), (1, aI x1), (2, aP x2), (3, aP x3), (4, aI x4)] [aP x2, aI x4, aP x3] σ Q))))) : WP E m_Line_withoutNext (d + 1) 18 [(0, aP x0), (1, aI x1), (2, aP x2), (3, aP x3), (4, aI x4)] [] σ Q := by
  refine s_iload 4 d_Line_withoutNext_18 rfl ?_
  refine s_aload_n 3 d_Line_withoutNext_20 rfl rfl ?_
  obtain ⟨g1, h⟩ := h
  refine s_alenS (by decide) d_Line_withoutNext_21 g1 ?_
  obtain ⟨g2, h⟩ := h
  obtain ⟨g3, h⟩ := h
  refine s_icmp_ge d_Line_withoutNext_22 rfl g2 g3 (fun c => ?_) (fun c => ?_)
  · have h := h.1 c
    refine s_new (ci := 3) d_Line_withoutNext_64 (by decide) rfl inG3 tyX3_ok (df_3 E) nw_Line_8 in_3 ii_3 ?_
    refine s_dup d_Line_withoutNext_67 (Nat.ne_of_beq_eq_false rfl) ?_
    refine s_aload_n 3 d_Line_withoutNext_68 rfl rfl ?_
    refine s_aload_n 0 d_Line_withoutNext_69 rfl rfl ?_
    obtain ⟨g4, h⟩ := h
    refine s_getF (v := (al σ 3 2).1 x0 1) d_Line_withoutNext_70 fl_Line_13 rfl g4 rfl ?_
    obtain ⟨g6, h⟩ := h
    refine s_callI (as := [aP x3, aI ((al σ 3 2).1 x0 1)]) d_Line_withoutNext_73 ok_Line_init lk_Line_35 io_Line_init rfl rfl rfl (Nat.le_of_ble_eq_true rfl) rfl g6 (WM.mono h ?_)
    rintro _ σ5 ⟨rfl, hp, h⟩
    show WP E m_Line_withoutNext (d + 1) 76 [(0, aP x0), (1, aI x1), (2, aP x2), (3, aP x3), (4, aI x4)] [aP (nx σ)] σ5 Q
    exact s_areturn d_Line_withoutNext_76 rfl (Or.inl ⟨_, rfl⟩) h
  · have h := h.2 c
    refine s_aload_n 3 d_Line_withoutNext_25 rfl rfl ?_
    refine s_iload 4 d_Line_withoutNext_26 rfl ?_
    refine s_iload 4 d_Line_withoutNext_28 rfl ?_
    refine s_iload_n 1 d_Line_withoutNext_30 rfl rfl ?_
    obtain ⟨g7, h⟩ := h
    obtain ⟨g8, h⟩ := h
    refine s_icmp_ne d_Line_withoutNext_31 rfl g7 g8 (fun c => ?_) (fun c => ?_)
    · have h := h.1 c
      refine s_aload_n 0 d_Line_withoutNext_38 rfl rfl ?_
      refine s_iload 4 d_Line_withoutNext_39 rfl ?_
      refine s_iload_n 1 d_Line_withoutNext_41 rfl rfl ?_
      obtain ⟨g9, h⟩ := h
      obtain ⟨g10, h⟩ := h
      refine s_icmp_ge d_Line_withoutNext_42 rfl g9 g10 (fun c => ?_) (fun c => ?_)
      · have h := h.1 c
        refine s_iload 4 d_Line_withoutNext_50 rfl ?_
        refine s_iconst d_Line_withoutNext_52 ?_
        refine s_iadd d_Line_withoutNext_53 ?_
        exact h
      · have h := h.2 c
        refine s_iload 4 d_Line_withoutNext_45 rfl ?_
        refine s_goto d_Line_withoutNext_47 rfl ?_
        exact h
    · have h := h.2 c
      refine s_aload_n 2 d_Line_withoutNext_34 rfl rfl ?_
      refine s_goto d_Line_withoutNext_35 rfl ?_
      exact h
theorem b_Line_withoutNext_54 {E : EV} {d : Nat} {Q : Option AV → St → Prop} {σ : St} (x0 x1 x2 x3 x4 s0 s1 s2 s3 : Int) (h : (sh σ s2 = some (3, 2)) ∧ (WMr E m_Line_get d [aP s2, aI s3] σ (fun v1 σ1 => WP E m_Line_withoutNext (d + 1) 57 [(0, aP x0), (1, aI x1), (2, aP x2), (3, aP x3), (4, aI x4)] [aP v1, aI s1, aP s0] σ1 Q))) : WP E m_Line_withoutNext (d + 1) 54 [(0, aP x0), (1, aI x1), (2, aP x2), (3, aP x3), (4, aI x4)] [aI s3, aP s2, aI s1, aP s0] σ Q := by
  obtain ⟨g2, h⟩ := h
  refine s_callV (as := [aI s3]) (ci := 3) d_Line_withoutNext_54 ok_Line_get lk_Line_31 io_Line_get so_Line_get (by decide) rfl rfl rfl (Nat.le_of_ble_eq_true rfl) rfl g2 (WM.mono h ?_)
  rintro _ σ1 ⟨v1, rfl, hp, h⟩
  show WP E m_Line_withoutNext (d + 1) 57 [(0, aP x0), (1, aI x1), (2, aP x2), (3, aP x3), (4, aI x4)] [aP v1, aI s1, aP s0] σ1 Q
  exact h
theorem b_Line_withoutNext_57 {E : EV} {d : Nat} {Q : Option AV → St → Prop} {σ : St} (x0 x1 x2 x3 x4 s0 s1 s2 : Int) (h : (inb σ s0 24 s1) ∧ (s2 = 0 ∨ sh σ s2 = some (7, 1)) ∧ WP E m_Line_withoutNext (d + 1) 18 [(0, aP x0), (1, aI x1), (2, aP x2), (3, aP x3), (4, aI (x4 + 1))] [] (wr σ s0 s1 s2) Q) : WP E m_Line_withoutNext (d + 1) 57 [(0, aP x0), (1, aI x1), (2, aP x2), (3, aP x3), (4, aI x4)] [aP s2, aI s1, aP s0] σ Q := by
  obtain ⟨g1, h⟩ := h
  obtain ⟨g2, h⟩ := h
  refine s_aastore (ci := 7) (N := 1) (by decide) d_Line_withoutNext_57 g1 g2 ?_
  refine s_iinc 4 d_Line_withoutNext_58 rfl (by decide) rfl ?_
  refine s_goto d_Line_withoutNext_61 rfl ?_
  refine wp_drop [1, 2, 3, 4, 0] rfl ?_
  exact h
theorem d_Line_size_0 : decode m_Line_size.2.1 0 = .ok (.aload_n 0, 1) := by decide +kernel
theorem d_Line_size_1 : decode m_Line_size.2.1 1 = .ok (.getfield 7, 3) := by decide +kernel
theorem d_Line_size_4 : decode m_Line_size.2.1 4 = .ok (.arraylength, 1) := by decide +kernel
theorem d_Line_size_5 : decode m_Line_size.2.1 5 = .ok (.ireturn, 1) := by decide +kernel
theorem b_Line_size_0 {E : EV} {d : Nat} {Q : Option AV → St → Prop} {σ : St} (x0 : Int) (h : (sh σ x0 = some (3, 2)) ∧ (sa σ (σ.1 x0 0) 24) ∧ Q (some (aI (ln σ (σ.1 x0 0)))) σ) : WP E m_Line_size d 0 [(0, aP x0)] [] σ Q := by
  refine s_aload_n 0 d_Line_size_0 rfl rfl ?_
  obtain ⟨g1, h⟩ := h
  refine s_getF (v := σ.1 x0 0) d_Line_size_1 fl_Line_7 rfl g1 rfl ?_
  obtain ⟨g2, h⟩ := h
  refine s_alenS (by decide) d_Line_size_4 g2 ?_
  exact s_ireturn d_Line_size_5 rfl h
theorem e_Line_size {E : EV} {d : Nat} {Q : Option AV → St → Prop} {σ : St} (x0 : Int) (h : (sh σ x0 = some (3, 2)) ∧ (sa σ (σ.1 x0 0) 24) ∧ Q (some (aI (ln σ (σ.1 x0 0)))) σ) : WM E m_Line_size d [aP x0] σ Q := s_meth (by decide) (Nat.le_of_ble_eq_true rfl) rfl (b_Line_size_0 x0 h)
theorem d_Line_withNext_0 : decode m_Line_withNext.2.1 0 = .ok (.aload_n 0, 1) := by decide +kernel
theorem d_Line_withNext_1 : decode m_Line_withNext.2.1 1 = .ok (.getfield 7, 3) := by decide +kernel
theorem d_Line_withNext_4 : decode m_Line_withNext.2.1 4 = .ok (.arraylength, 1) := by decide +kernel
theorem d_Line_withNext_5 : decode m_Line_withNext.2.1 5 = .ok (.iconst 1, 1) := by decide +kernel
theorem d_Line_withNext_6 : decode m_Line_withNext.2.1 6 = .ok (.iadd, 1) := by decide +kernel
theorem d_Line_withNext_7 : decode m_Line_withNext.2.1 7 = .ok (.anewarray 22, 3) := by decide +kernel
theorem d_Line_withNext_10 : decode m_Line_withNext.2.1 10 = .ok (.astore 4, 2) := by decide +kernel
theorem d_Line_withNext_12 : decode m_Line_withNext.2.1 12 = .ok (.iconst 0, 1) := by decide +kernel
theorem d_Line_withNext_13 : decode m_Line_withNext.2.1 13 = .ok (.istore 5, 2) := by decide +kernel
theorem d_Line_withNext_15 : decode m_Line_withNext.2.1 15 = .ok (.iload 5, 2) := by decide +kernel
theorem d_Line_withNext_17 : decode m_Line_withNext.2.1 17 = .ok (.aload 4, 2) := by decide +kernel
theorem d_Line_withNext_19 : decode m_Line_withNext.2.1 19 = .ok (.arraylength, 1) := by decide +kernel
theorem d_Line_withNext_20 : decode m_Line_withNext.2.1 20 = .ok (.if_icmp .ge 55, 3) := by decide +kernel
theorem d_Line_withNext_23 : decode m_Line_withNext.2.1 23 = .ok (.aload 4, 2) := by decide +kernel
theorem d_Line_withNext_25 : decode m_Line_withNext.2.1 25 = .ok (.iload 5, 2) := by decide +kernel
theorem d_Line_withNext_27 : decode m_Line_withNext.2.1 27 = .ok (.iload 5, 2) := by decide +kernel
theorem d_Line_withNext_29 : decode m_Line_withNext.2.1 29 = .ok (.iload_n 1, 1) := by decide +kernel
theorem d_Line_withNext_30 : decode m_Line_withNext.2.1 30 = .ok (.if_icmp .ne 7, 3) := by decide +kernel
theorem d_Line_withNext_33 : decode m_Line_withNext.2.1 33 = .ok (.aload_n 2, 1) := by decide +kernel
theorem d_Line_withNext_34 : decode m_Line_withNext.2.1 34 = .ok (.goto 34, 3) := by decide +kernel
theorem d_Line_withNext_37 : decode m_Line_withNext.2.1 37 = .ok (.iload 5, 2) := by decide +kernel
theorem d_Line_withNext_39 : decode m_Line_withNext.2.1 39 = .ok (.iload_n 1, 1) := by decide +kernel
theorem d_Line_withNext_40 : decode m_Line_withNext.2.1 40 = .ok (.iconst 1, 1) := by decide +kernel
theorem d_Line_withNext_41 : decode m_Line_withNext.2.1 41 = .ok (.iadd, 1) := by decide +kernel
theorem d_Line_withNext_42 : decode m_Line_withNext.2.1 42 = .ok (.if_icmp .ne 7, 3) := by decide +kernel
theorem d_Line_withNext_45 : decode m_Line_withNext.2.1 45 = .ok (.aload_n 3, 1) := by decide +kernel
theorem d_Line_withNext_46 : decode m_Line_withNext.2.1 46 = .ok (.goto 22, 3) := by decide +kernel
theorem d_Line_withNext_49 : decode m_Line_withNext.2.1 49 = .ok (.aload_n 0, 1) := by decide +kernel
theorem d_Line_withNext_50 : decode m_Line_withNext.2.1 50 = .ok (.iload 5, 2) := by decide +kernel
theorem d_Line_withNext_52 : decode m_Line_withNext.2.1 52 = .ok (.iload_n 1, 1) := by decide +kernel
theorem d_Line_withNext_53 : decode m_Line_withNext.2.1 53 = .ok (.if_icmp .ge 8, 3) := by decide +kernel
theorem d_Line_withNext_56 : decode m_Line_withNext.2.1 56 = .ok (.iload 5, 2) := by decide +kernel
theorem d_Line_withNext_58 : decode m_Line_withNext.2.1 58 = .ok (.goto 7, 3) := by decide +kernel
theorem d_Line_withNext_61 : decode m_Line_withNext.2.1 61 = .ok (.iload 5, 2) := by decide +kernel
theorem d_Line_withNext_63 : decode m_Line_withNext.2.1 63 = .ok (.iconst 1, 1) := by decide +kernel
theorem d_Line_withNext_64 : decode m_Line_withNext.2.1 64 = .ok (.isub, 1) := by decide +kernel
theorem d_Line_withNext_65 : decode m_Line_withNext.2.1 65 = .ok (.invokevirtual 31, 3) := by decide +kernel
theorem d_Line_withNext_68 : decode m_Line_withNext.2.1 68 = .ok (.aastore, 1) := by decide +kernel
theorem d_Line_withNext_69 : decode m_Line_withNext.2.1 69 = .ok (.iinc 5 1, 3) := by decide +kernel
theorem d_Line_withNext_72 : decode m_Line_withNext.2.1 72 = .ok (.goto (-57), 3) := by decide +kernel
theorem d_Line_withNext_75 : decode m_Line_withNext.2.1 75 = .ok (.new 8, 3) := by decide +kernel
theorem d_Line_withNext_78 : decode m_Line_withNext.2.1 78 = .ok (.dup, 1) := by decide +kernel
theorem d_Line_withNext_79 : decode m_Line_withNext.2.1 79 = .ok (.aload 4, 2) := by decide +kernel
theorem d_Line_withNext_81 : decode m_Line_withNext.2.1 81 = .ok (.aload_n 0, 1) := by decide +kernel
theorem d_Line_withNext_82 : decode m_Line_withNext.2.1 82 = .ok (.getfield 13, 3) := by decide +kernel
theorem d_Line_withNext_85 : decode m_Line_withNext.2.1 85 = .ok (.invokespecial 35, 3) := by decide +kernel
theorem d_Line_withNext_88 : decode m_Line_withNext.2.1 88 = .ok (.areturn, 1) := by decide +kernel
theorem b_Line_withNext_0 {E : EV} {d : Nat} {Q : Option AV → St → Prop} {σ : St} (x0 x1 x2 x3 : Int) (h : (sh σ x0 = some (3, 2)) ∧ (sa σ (σ.1 x0 0) 24) ∧ (0 ≤ ((ln σ (σ.1 x0 0)) + 1) ∧ ((ln σ (σ.1 x0 0)) + 1) ≤ 1000000) ∧ WP E m_Line_withNext (d + 1) 15 [(0, aP x0), (1, aI x1), (2, aP x2), (3, aP x3), (4, aP (nx σ)), (5, aI 0)] [] (al σ 24 (Int.toNat ((ln σ (σ.1 x0 0)) + 1))) Q) : WP E m_Line_withNext (d + 1) 0 [(0, aP x0), (1, aI x1), (2, aP x2), (3, aP x3)] [] σ Q := by
  refine s_aload_n 0 d_Line_withNext_0 rfl rfl ?_
  obtain ⟨g1, h⟩ := h
  refine s_getF (v := σ.1 x0 0) d_Line_withNext_1 fl_Line_7 rfl g1 rfl ?_
  obtain ⟨g2, h⟩ := h
  refine s_alenS (by decide) d_Line_withNext_4 g2 ?_
  refine s_iconst d_Line_withNext_5 ?_
  refine s_iadd d_Line_withNext_6 ?_
  obtain ⟨g3, h⟩ := h
  refine s_anewarray (kd := 24) d_Line_withNext_7 (by decide) rfl nw_Line_22 g3 ?_
  refine s_astore d_Line_withNext_10 (by decide) rfl ?_
  refine s_iconst d_Line_withNext_12 ?_
  refine s_istore d_Line_withNext_13 (by decide) rfl ?_
  refine wp_drop [2, 3, 4, 5, 1, 0] rfl ?_
  exact h
theorem e_Line_withNext {E : EV} {d : Nat} {Q : Option AV → St → Prop} {σ : St} (x0 x1 x2 x3 : Int) (h : (sh σ x0 = some (3, 2)) ∧ (sa σ (σ.1 x0 0) 24) ∧ (0 ≤ ((ln σ (σ.1 x0 0)) + 1) ∧ ((ln σ (σ.1 x0 0)) + 1) ≤ 1000000) ∧ WP E m_Line_withNext (d + 1) 15 [(0, aP x0), (1, aI x1), (2, aP x2), (3, aP x3), (4, aP (nx σ)), (5, aI 0)] [] (al σ 24 (Int.toNat ((ln σ (σ.1 x0 0)) + 1))) Q) : WM E m_Line_withNext (d + 1) [aP x0, aI x1, aP x2, aP x3] σ Q := s_meth (by decide) (Nat.le_of_ble_eq_true rfl) rfl (b_Line_withNext_0 x0 x1 x2 x3 h)
theorem b_Line_withNext_15 {E : EV} {d : Nat} {Q : Option AV → St → Prop} {σ : St} (x0 x1 x2 x3 x4 x5 : Int) (h : (sa σ x4 24) ∧ (rI x5) ∧ (rI (ln σ x4)) ∧ (((ln σ x4) ≤ x5 → (sh (al σ 3 2) x0 = some (3, 2)) ∧ (0 < (nx σ)) ∧ (WMv E m_Line_init d [aP (nx σ), aP x4, aI ((al σ 3 2).1 x0 1)] (al σ 3 2) (fun σ5 => Q (some (aP (nx σ))) σ5))) ∧ (¬ (ln σ x4) ≤ x5 → (rI x5) ∧ (rI x1) ∧ ((¬ x5 = x1 → (rI x5) ∧ (rI (x1 + 1)) ∧ ((¬ x5 = (x1 + 1) → (rI x5) ∧ (rI x1) ∧ ((x1 ≤ x5 → WP E m_Line_withNext (d + 1) 65 [(0, aP x0), (1, aI x1), (2, aP x2), (3, aP x3), (4, aP x4), (5, aI x5)] [aI (x5 - 1), aP x0, aI x5, aP x4] σ Q) ∧ (¬ x1 ≤ x5 → WP E m_Line_withNext (d + 1) 65 [(0, aP x0), (1, aI x1), (2, aP x2), (3, aP x3), (4, aP x4), (5, aI x5)] [aI x5, aP x0, aI x5, aP x4] σ Q))) ∧ (x5 = (x1 + 1) → WP E m_Line_withNext (d + 1) 68 [(0, aP x0), (1, aI x1), (2, aP x2), (3, aP x3), (4, aP x4), (5, aI x5)] [aP x3, aI x5, aP x4] σ Q))) ∧ (x5 = x1 → WP E m_Line_withNext (d + 1) 68 [(0, aP x0), (1, aI x1), (2, aP x2), (3, aP x3), (4, aP x4), (5, aI x5)] [aP x2, aI x5, aP x4] σ Q))))) : WP E m_Line_withNext (d + 1) 15 [(0, aP x0), (1, aI x1), (2, aP x2), (3, aP x3), (4, aP x4), (5, aI x5)] [] σ Q := by
  refine s_iload 5 d_Line_withNext_15 rfl ?_
  refine s_aload 4 d_Line_withNext_17 rfl ?_
  obtain ⟨g1, h⟩ := h
  refine s_alenS (by decide) d_Line_withNext_19 g1 ?_
  obtain ⟨g2, h⟩ := h
  obtain ⟨g3, h⟩ := h
  refine s_icmp_ge d_Line_withNext_20 rfl g2 g3 (fun c => ?_) (fun c => ?_)
  · have h := h.1 c
    refine s_new (ci := 3) d_Line_withNext_75 (by decide) rfl inG3 tyX3_ok (df_3 E) nw_Line_8 in_3 ii_3 ?_
    refine s_dup d_Line_withNext_78 (Nat.ne_of_beq_eq_false rfl) ?_
    refine s_aload 4 d_Line_withNext_79 rfl ?_
    refine s_aload_n 0 d_Line_withNext_81 rfl rfl ?_
    obtain ⟨g4, h⟩ := h
    refine s_getF (v := (al σ 3 2).1 x0 1) d_Line_withNext_82 fl_Line_13 rfl g4 rfl ?_
    obtain ⟨g6, h⟩ := h
    refine s_callI (as := [aP x4, aI ((al σ 3 2).1 x0 1)]) d_Line_withNext_85 ok_Line_init lk_Line_35 io_Line_init rfl rfl rfl (Nat.le_of_ble_eq_true rfl) rfl g6 (WM.mono h ?_)
    rintro _ σ5 ⟨rfl, hp, h⟩
    show WP E m_Line_withNext (d + 1) 88 [(0, aP x0), (1, aI x1), (2, aP x2), (3, aP x3), (4, aP x4), (5, aI x5)] [aP (nx σ)] σ5 Q
    exact s_areturn d_Line_withNext_88 rfl (Or.inl ⟨_, rfl⟩) h
  · have h := h.2 c
    refine s_aload 4 d_Line_withNext_23 rfl ?_
    refine s_iload 5 d_Line_withNext_25 rfl ?_
    refine s_iload 5 d_Line_withNext_27 rfl ?_
    refine s_iload_n 1 d_Line_withNext_29 rfl rfl ?_
    obtain ⟨g7, h⟩ := h
    obtain ⟨g8, h⟩ := h
    refine s_icmp_ne d_Line_withNext_30 rfl g7 g8 (fun c => ?_) (fun c => ?_)
    · have h := h.1 c
      refine s_iload 5 d_Line_withNext_37 rfl ?_
      refine s_iload_n 1 d_Line_withNext_39 rfl rfl ?_
      refine s_iconst d_Line_withNext_40 ?_
      refine s_iadd d_Line_withNext_41 ?_
      obtain ⟨g9, h⟩ := h
      obtain ⟨g10, h⟩ := h
      refine s_icmp_ne d_Line_withNext_42 rfl g9 g10 (fun c => ?_) (fun c => ?_)
      · have h := h.1 c
        refine s_aload_n 0 d_Line_withNext_49 rfl rfl ?_
        refine s_iload 5 d_Line_withNext_50 rfl ?_
        refine s_iload_n 1 d_Line_withNext_52 rfl rfl ?_
        obtain ⟨g11, h⟩ := h
        obtain ⟨g12, h⟩ := h
        refine s_icmp_ge d_Line_withNext_53 rfl g11 g12 (fun c => ?_) (fun c => ?_)
        · have h := h.1 c
          refine s_iload 5 d_Line_withNext_61 rfl ?_
          refine s_iconst d_Line_withNext_63 ?_
          refine s_isub d_Line_withNext_64 ?_
          exact h
        · have h := h.2 c
          refine s_iload 5 d_Line_withNext_56 rfl ?_
          refine s_goto d_Line_withNext_58 rfl ?_
          exact h
      · have h := h.2 c
        refine s_aload_n 3 d_Line_withNext_45 rfl rfl ?_
        refine s_goto d_Line_withNext_46 rfl ?_
        exact h
    · have h := h.2 c
      refine s_aload_n 2 d_Line_withNext_33 rfl rfl ?_
      refine s_goto d_Line_withNext_34 rfl ?_
      exact h
theorem b_Line_withNext_65 {E : EV} {d : Nat} {Q : Option AV → St → Prop} {σ : St} (x0 x1 x2 x3 x4 x5 s0 s1 s2 s3 : Int) (h : (sh σ s2 = some (3, 2)) ∧ (WMr E m_Line_get d [aP s2, aI s3] σ (fun v1 σ1 => WP E m_Line_withNext (d + 1) 68 [(0, aP x0), (1, aI x1), (2, aP x2), (3, aP x3), (4, aP x4), (5, aI x5)] [aP v1, aI s1, aP s0] σ1 Q))) : WP E m_Line_withNext (d + 1) 65 [(0, aP x0), (1, aI x1), (2, aP x2), (3, aP x3), (4, aP x4), (5, aI x5)] [aI s3, aP s2, aI s1, aP s0] σ Q := by
  obtain ⟨g2, h⟩ := h
  refine s_callV (as := [aI s3]) (ci := 3) d_Line_withNext_65 ok_Line_get lk_Line_31 io_Line_get so_Line_get (by decide) rfl rfl rfl (Nat.le_of_ble_eq_true rfl) rfl g2 (WM.mono h ?_)
  rintro _ σ1 ⟨v1, rfl, hp, h⟩
  show WP E m_Line_withNext (d + 1) 68 [(0, aP x0), (1, aI x1), (2, aP x2), (3, aP x3), (4, aP x4), (5, aI x5)] [aP v1, aI s1, aP s0] σ1 Q
  exact h
theorem b_Line_withNext_68 {E : EV} {d : Nat} {Q : Option AV → St → Prop} {σ : St} (x0 x1 x2 x3 x4 x5 s0 s1 s2 : Int) (h : (inb σ s0 24 s1) ∧ (s2 = 0 ∨ sh σ s2 = some (7, 1)) ∧ WP E m_Line_withNext (d + 1) 15 [(0, aP x0), (1, aI x1), (2, aP x2), (3, aP x3), (4, aP x4), (5, aI (x5 + 1))] [] (wr σ s0 s1 s2) Q) : WP E m_Line_withNext (d + 1) 68 [(0, aP x0), (1, aI x1), (2, aP x2), (3, aP x3), (4, aP x4), (5, aI x5)] [aP s2, aI s1, aP s0] σ Q := by
  obtain ⟨g1, h⟩ := h
  obtain ⟨g2, h⟩ := h
  refine s_aastore (ci := 7) (N := 1) (by decide) d_Line_withNext_68 g1 g2 ?_
  refine s_iinc 5 d_Line_withNext_69 rfl (by decide) rfl ?_
  refine s_goto d_Line_withNext_72 rfl ?_
  refine wp_drop [1, 2, 3, 4, 5, 0] rfl ?_
  exact h
theorem d_Line_moved_0 : decode m_Line_moved.2.1 0 = .ok (.aload_n 0, 1) := by decide +kernel
theorem d_Line_moved_1 : decode m_Line_moved.2.1 1 = .ok (.getfield 7, 3) := by decide +kernel
theorem d_Line_moved_4 : decode m_Line_moved.2.1 4 = .ok (.arraylength, 1) := by decide +kernel
theorem d_Line_moved_5 : decode m_Line_moved.2.1 5 = .ok (.anewarray 22, 3) := by decide +kernel
theorem d_Line_moved_8 : decode m_Line_moved.2.1 8 = .ok (.astore_n 3, 1) := by decide +kernel
theorem d_Line_moved_9 : decode m_Line_moved.2.1 9 = .ok (.iconst 0, 1) := by decide +kernel
theorem d_Line_moved_10 : decode m_Line_moved.2.1 10 = .ok (.istore 4, 2) := by decide +kernel
theorem d_Line_moved_12 : decode m_Line_moved.2.1 12 = .ok (.iconst 0, 1) := by decide +kernel
theorem d_Line_moved_13 : decode m_Line_moved.2.1 13 = .ok (.istore 5, 2) := by decide +kernel
theorem d_Line_moved_15 : decode m_Line_moved.2.1 15 = .ok (.iload 5, 2) := by decide +kernel
theorem d_Line_moved_17 : decode m_Line_moved.2.1 17 = .ok (.aload_n 3, 1) := by decide +kernel
theorem d_Line_moved_18 : decode m_Line_moved.2.1 18 = .ok (.arraylength, 1) := by decide +kernel
theorem d_Line_moved_19 : decode m_Line_moved.2.1 19 = .ok (.if_icmp .ge 61, 3) := by decide +kernel
theorem d_Line_moved_22 : decode m_Line_moved.2.1 22 = .ok (.iload 4, 2) := by decide +kernel
theorem d_Line_moved_24 : decode m_Line_moved.2.1 24 = .ok (.iload 4, 2) := by decide +kernel
theorem d_Line_moved_26 : decode m_Line_moved.2.1 26 = .ok (.iload_n 1, 1) := by decide +kernel
theorem d_Line_moved_27 : decode m_Line_moved.2.1 27 = .ok (.if_icmp .ne 7, 3) := by decide +kernel
theorem d_Line_moved_30 : decode m_Line_moved.2.1 30 = .ok (.iconst 1, 1) := by decide +kernel
theorem d_Line_moved_31 : decode m_Line_moved.2.1 31 = .ok (.goto 4, 3) := by decide +kernel
theorem d_Line_moved_34 : decode m_Line_moved.2.1 34 = .ok (.iconst 0, 1) := by decide +kernel
theorem d_Line_moved_35 : decode m_Line_moved.2.1 35 = .ok (.iadd, 1) := by decide +kernel
theorem d_Line_moved_36 : decode m_Line_moved.2.1 36 = .ok (.istore 4, 2) := by decide +kernel
theorem d_Line_moved_38 : decode m_Line_moved.2.1 38 = .ok (.aload_n 3, 1) := by decide +kernel
theorem d_Line_moved_39 : decode m_Line_moved.2.1 39 = .ok (.iload 5, 2) := by decide +kernel
theorem d_Line_moved_41 : decode m_Line_moved.2.1 41 = .ok (.aload_n 0, 1) := by decide +kernel
theorem d_Line_moved_42 : decode m_Line_moved.2.1 42 = .ok (.iload 5, 2) := by decide +kernel
theorem d_Line_moved_44 : decode m_Line_moved.2.1 44 = .ok (.iload_n 2, 1) := by decide +kernel
theorem d_Line_moved_45 : decode m_Line_moved.2.1 45 = .ok (.if_icmp .ne 7, 3) := by decide +kernel
theorem d_Line_moved_48 : decode m_Line_moved.2.1 48 = .ok (.iload_n 1, 1) := by decide +kernel
theorem d_Line_moved_49 : decode m_Line_moved.2.1 49 = .ok (.goto 5, 3) := by decide +kernel
theorem d_Line_moved_52 : decode m_Line_moved.2.1 52 = .ok (.iload 4, 2) := by decide +kernel
theorem d_Line_moved_54 : decode m_Line_moved.2.1 54 = .ok (.invokevirtual 31, 3) := by decide +kernel
theorem d_Line_moved_57 : decode m_Line_moved.2.1 57 = .ok (.aastore, 1) := by decide +kernel
theorem d_Line_moved_58 : decode m_Line_moved.2.1 58 = .ok (.iload 4, 2) := by decide +kernel
theorem d_Line_moved_60 : decode m_Line_moved.2.1 60 = .ok (.iload 5, 2) := by decide +kernel
theorem d_Line_moved_62 : decode m_Line_moved.2.1 62 = .ok (.iload_n 2, 1) := by decide +kernel
theorem d_Line_moved_63 : decode m_Line_moved.2.1 63 = .ok (.if_icmp .ne 7, 3) := by decide +kernel
theorem d_Line_moved_66 : decode m_Line_moved.2.1 66 = .ok (.iconst 0, 1) := by decide +kernel
theorem d_Line_moved_67 : decode m_Line_moved.2.1 67 = .ok (.goto 4, 3) := by decide +kernel
theorem d_Line_moved_70 : decode m_Line_moved.2.1 70 = .ok (.iconst 1, 1) := by decide +kernel
theorem d_Line_moved_71 : decode m_Line_moved.2.1 71 = .ok (.iadd, 1) := by decide +kernel
theorem d_Line_moved_72 : decode m_Line_moved.2.1 72 = .ok (.istore 4, 2) := by decide +kernel
theorem d_Line_moved_74 : decode m_Line_moved.2.1 74 = .ok (.iinc 5 1, 3) := by decide +kernel
theorem d_Line_moved_77 : decode m_Line_moved.2.1 77 = .ok (.goto (-62), 3) := by decide +kernel
theorem d_Line_moved_80 : decode m_Line_moved.2.1 80 = .ok (.new 8, 3) := by decide +kernel
theorem d_Line_moved_83 : decode m_Line_moved.2.1 83 = .ok (.dup, 1) := by decide +kernel
theorem d_Line_moved_84 : decode m_Line_moved.2.1 84 = .ok (.aload_n 3, 1) := by decide +kernel
theorem d_Line_moved_85 : decode m_Line_moved.2.1 85 = .ok (.aload_n 0, 1) := by decide +kernel
theorem d_Line_moved_86 : decode m_Line_moved.2.1 86 = .ok (.getfield 13, 3) := by decide +kernel
theorem d_Line_moved_89 : decode m_Line_moved.2.1 89 = .ok (.invokespecial 35, 3) := by decide +kernel
theorem d_Line_moved_92 : decode m_Line_moved.2.1 92 = .ok (.areturn, 1) := by decide +kernel
theorem b_Line_moved_0 {E : EV} {d : Nat} {Q : Option AV → St → Prop} {σ : St} (x0 x1 x2 : Int) (h : (sh σ x0 = some (3, 2)) ∧ (sa σ (σ.1 x0 0) 24) ∧ (0 ≤ (ln σ (σ.1 x0 0)) ∧ (ln σ (σ.1 x0 0)) ≤ 1000000) ∧ WP E m_Line_moved (d + 1) 15 [(0, aP x0), (1, aI x1), (2, aI x2), (3, aP (nx σ)), (4, aI 0), (5, aI 0)] [] (al σ 24 (Int.toNat (ln σ (σ.1 x0 0)))) Q) : WP E m_Line_moved (d + 1) 0 [(0, aP x0), (1, aI x1), (2, aI x2)] [] σ Q := by
  refine s_aload_n 0 d_Line_moved_0 rfl rfl ?_
  obtain ⟨g1, h⟩ := h
  refine s_getF (v := σ.1 x0 0) d_Line_moved_1 fl_Line_7 rfl g1 rfl ?_
  obtain ⟨g2, h⟩ := h
  refine s_alenS (by decide) d_Line_moved_4 g2 ?_
  obtain ⟨g3, h⟩ := h
  refine s_anewarray (kd := 24) d_Line_moved_5 (by decide) rfl nw_Line_22 g3 ?_
  refine s_astore_n d_Line_moved_8 rfl (by decide) rfl ?_
  refine s_iconst d_Line_moved_9 ?_
  refine s_istore d_Line_moved_10 (by decide) rfl ?_
  refine s_iconst d_Line_moved_12 ?_
  refine s_istore d_Line_moved_13 (by decide) rfl ?_
  refine wp_drop [3, 4, 5, 2, 1, 0] rfl ?_
  exact h
theorem e_Line_moved {E : EV} {d : Nat} {Q : Option AV → St → Prop} {σ : St} (x0 x1 x2 : Int) (h : (sh σ x0 = some (3, 2)) ∧ (sa σ (σ.1 x0 0) 24) ∧ (0 ≤ (ln σ (σ.1 x0 0)) ∧ (ln σ (σ.1 x0 0)) ≤ 1000000) ∧ WP E m_Line_moved (d + 1) 15 [(0, aP x0), (1, aI x1), (2, aI x2), (3, aP (nx σ)), (4, aI 0), (5, aI 0)] [] (al σ 24 (Int.toNat (ln σ (σ.1 x0 0)))) Q) : WM E m_Line_moved (d + 1) [aP x0, aI x1, aI x2] σ Q := s_meth (by decide) (Nat.le_of_ble_eq_true rfl) rfl (b_Line_moved_0 x0 x1 x2 h)
theorem b_Line_moved_15 {E : EV} {d : Nat} {Q : Option AV → St → Prop} {σ : St} (x0 x1 x2 x3 x4 x5 : Int) (h : (sa σ x3 24) ∧ (rI x5) ∧ (rI (ln σ x3)) ∧ (((ln σ x3) ≤ x5 → (sh (al σ 3 2) x0 = some (3, 2)) ∧ (0 < (nx σ)) ∧ (WMv E m_Line_init d [aP (nx σ), aP x3, aI ((al σ 3 2).1 x0 1)] (al σ 3 2) (fun σ5 => Q (some (aP (nx σ))) σ5))) ∧ (¬ (ln σ x3) ≤ x5 → (rI x4) ∧ (rI x1) ∧ ((¬ x4 = x1 → WP E m_Line_moved (d + 1) 35 [(0, aP x0), (1, aI x1), (2, aI x2), (3, aP x3), (5, aI x5)] [aI 0, aI x4] σ Q) ∧ (x4 = x1 → WP E m_Line_moved (d + 1) 35 [(0, aP x0), (1, aI x1), (2, aI x2), (3, aP x3), (5, aI x5)] [aI 1, aI x4] σ Q))))) : WP E m_Line_moved (d + 1) 15 [(0, aP x0), (1, aI x1), (2, aI x2), (3, aP x3), (4, aI x4), (5, aI x5)] [] σ Q := by
  refine s_iload 5 d_Line_moved_15 rfl ?_
  refine s_aload_n 3 d_Line_moved_17 rfl rfl ?_
  obtain ⟨g1, h⟩ := h
  refine s_alenS (by decide) d_Line_moved_18 g1 ?_
  obtain ⟨g2, h⟩ := h
  obtain ⟨g3, h⟩ := h
  refine s_icmp_ge d_Line_moved_19 rfl g2 g3 (fun c => ?_) (fun c => ?_)
  · have h := h.1 c
    refine s_new (ci := 3) d_Line_moved_80 (by decide) rfl inG3 tyX3_ok (df_3 E) nw_Line_8 in_3 ii_3 ?_
    refine s_dup d_Line_moved_83 (Nat.ne_of_beq_eq_false rfl) ?_
    refine s_aload_n 3 d_Line_moved_84 rfl rfl ?_
    refine s_aload_n 0 d_Line_moved_85 rfl rfl ?_
    obtain ⟨g4, h⟩ := h
    refine s_getF (v := (al σ 3 2).1 x0 1) d_Line_moved_86 fl_Line_13 rfl g4 rfl ?_
    obtain ⟨g6, h⟩ := h
    refine s_callI (as := [aP x3, aI ((al σ 3 2).1 x0 1)]) d_Line_moved_89 ok_Line_init lk_Line_35 io_Line_init rfl rfl rfl (Nat.le_of_ble_eq_true rfl) rfl g6 (WM.mono h ?_)
    rintro _ σ5 ⟨rfl, hp, h⟩
    show WP E m_Line_moved (d + 1) 92 [(0, aP x0), (1, aI x1), (2, aI x2), (3, aP x3), (4, aI x4), (5, aI x5)] [aP (nx σ)] σ5 Q
    exact s_areturn d_Line_moved_92 rfl (Or.inl ⟨_, rfl⟩) h
  · have h := h.2 c
    refine s_iload 4 d_Line_moved_22 rfl ?_
    refine s_iload 4 d_Line_moved_24 rfl ?_
    refine s_iload_n 1 d_Line_moved_26 rfl rfl ?_
    obtain ⟨g7, h⟩ := h
    obtain ⟨g8, h⟩ := h
    refine s_icmp_ne d_Line_moved_27 rfl g7 g8 (fun c => ?_) (fun c => ?_)
    · have h := h.1 c
      refine s_iconst d_Line_moved_34 ?_
      refine wp_drop [0, 1, 2, 3, 5] rfl ?_
      exact h
    · have h := h.2 c
      refine s_iconst d_Line_moved_30 ?_
      refine s_goto d_Line_moved_31 rfl ?_
      refine wp_drop [0, 1, 2, 3, 5] rfl ?_
      exact h
theorem b_Line_moved_35 {E : EV} {d : Nat} {Q : Option AV → St → Prop} {σ : St} (x0 x1 x2 x3 x5 s0 s1 : Int) (h : (rI x5) ∧ (rI x2) ∧ ((¬ x5 = x2 → WP E m_Line_moved (d + 1) 54 [(0, aP x0), (1, aI x1), (2, aI x2), (3, aP x3), (4, aI (s0 + s1)), (5, aI x5)] [aI (s0 + s1), aP x0, aI x5, aP x3] σ Q) ∧ (x5 = x2 → WP E m_Line_moved (d + 1) 54 [(0, aP x0), (1, aI x1), (2, aI x2), (3, aP x3), (4, aI (s0 + s1)), (5, aI x5)] [aI x1, aP x0, aI x5, aP x3] σ Q))) : WP E m_Line_moved (d + 1) 35 [(0, aP x0), (1, aI x1), (2, aI x2), (3, aP x3), (5, aI x5)] [aI s1, aI s0] σ Q := by
  refine s_iadd d_Line_moved_35 ?_
  refine s_istore d_Line_moved_36 (by decide) rfl ?_
  refine s_aload_n 4 d_Line_moved_38 rfl rfl ?_
  refine s_iload 5 d_Line_moved_39 rfl ?_
  refine s_aload_n 1 d_Line_moved_41 rfl rfl ?_
  refine s_iload 5 d_Line_moved_42 rfl ?_
  refine s_iload_n 3 d_Line_moved_44 rfl rfl ?_
  obtain ⟨g1, h⟩ := h
  obtain ⟨g2, h⟩ := h
  refine s_icmp_ne d_Line_moved_45 rfl g1 g2 (fun c => ?_) (fun c => ?_)
  · have h := h.1 c
    refine s_iload 0 d_Line_moved_52 rfl ?_
    refine wp_drop [1, 2, 3, 4, 0, 5] rfl ?_
    exact h
  · have h := h.2 c
    refine s_iload_n 2 d_Line_moved_48 rfl rfl ?_
    refine s_goto d_Line_moved_49 rfl ?_
    refine wp_drop [1, 2, 3, 4, 0, 5] rfl ?_
    exact h
theorem b_Line_moved_54 {E : EV} {d : Nat} {Q : Option AV → St → Prop} {σ : St} (x0 x1 x2 x3 x4 x5 s0 s1 s2 s3 : Int) (h : (sh σ s2 = some (3, 2)) ∧ (WMr E m_Line_get d [aP s2, aI s3] σ (fun v1 σ1 => (inb σ1 s0 24 s1) ∧ (v1 = 0 ∨ sh σ1 v1 = some (7, 1)) ∧ (rI x5) ∧ (rI x2) ∧ ((¬ x5 = x2 → WP E m_Line_moved (d + 1) 71 [(0, aP x0), (1, aI x1), (2, aI x2), (3, aP x3), (5, aI x5)] [aI 1, aI x4] (wr σ1 s0 s1 v1) Q) ∧ (x5 = x2 → WP E m_Line_moved (d + 1) 71 [(0, aP x0), (1, aI x1), (2, aI x2), (3, aP x3), (5, aI x5)] [aI 0, aI x4] (wr σ1 s0 s1 v1) Q))))) : WP E m_Line_moved (d + 1) 54 [(0, aP x0), (1, aI x1), (2, aI x2), (3, aP x3), (4, aI x4), (5, aI x5)] [aI s3, aP s2, aI s1, aP s0] σ Q := by
  obtain ⟨g2, h⟩ := h
  refine s_callV (as := [aI s3]) (ci := 3) d_Line_moved_54 ok_Line_get lk_Line_31 io_Line_get so_Line_get (by decide) rfl rfl rfl (Nat.le_of_ble_eq_true rfl) rfl g2 (WM.mono h ?_)
  rintro _ σ1 ⟨v1, rfl, hp, h⟩
  show WP E m_Line_moved (d + 1) 57 [(0, aP x0), (1, aI x1), (2, aI x2), (3, aP x3), (4, aI x4), (5, aI x5)] [aP v1, aI s1, aP s0] σ1 Q
  obtain ⟨g3, h⟩ := h
  obtain ⟨g4, h⟩ := h
  refine s_aastore (ci := 7) (N := 1) (by decide) d_Line_moved_57 g3 g4 ?_
  refine s_iload 4 d_Line_moved_58 rfl ?_
  refine s_iload 5 d_Line_moved_60 rfl ?_
  refine s_iload_n 2 d_Line_moved_62 rfl rfl ?_
  obtain ⟨g5, h⟩ := h
  obtain ⟨g6, h⟩ := h
  refine s_icmp_ne d_Line_moved_63 rfl g5 g6 (fun c => ?_) (fun c => ?_)
  · have h := h.1 c
    refine s_iconst d_Line_moved_70 ?_
    refine wp_drop [0, 1, 2, 3, 5] rfl ?_
    exact h
  · have h := h.2 c
    refine s_iconst d_Line_moved_66 ?_
    refine s_goto d_Line_moved_67 rfl ?_
    refine wp_drop [0, 1, 2, 3, 5] rfl ?_
    exact h
theorem b_Line_moved_71 {E : EV} {d : Nat} {Q : Option AV → St → Prop} {σ : St} (x0 x1 x2 x3 x5 s0 s1 : Int) (h : WP E m_Line_moved (d + 1) 15 [(0, aP x0), (1, aI x1), (2, aI x2), (3, aP x3), (4, aI (s0 + s1)), (5, aI (x5 + 1))] [] σ Q) : WP E m_Line_moved (d + 1) 71 [(0, aP x0), (1, aI x1), (2, aI x2), (3, aP x3), (5, aI x5)] [aI s1, aI s0] σ Q := by
  refine s_iadd d_Line_moved_71 ?_
  refine s_istore d_Line_moved_72 (by decide) rfl ?_
  refine s_iinc 5 d_Line_moved_74 rfl (by decide) rfl ?_
  refine s_goto d_Line_moved_77 rfl ?_
  refine wp_drop [2, 3, 4, 5, 1, 0] rfl ?_
  exact h
theorem d_Line_timesOf_0 : decode m_Line_timesOf.2.1 0 = .ok (.iconst 0, 1) := by decide +kernel
theorem d_Line_timesOf_1 : decode m_Line_timesOf.2.1 1 = .ok (.istore_n 2, 1) := by decide +kernel
theorem d_Line_timesOf_2 : decode m_Line_timesOf.2.1 2 = .ok (.aload_n 0, 1) := by decide +kernel
theorem d_Line_timesOf_3 : decode m_Line_timesOf.2.1 3 = .ok (.getfield 7, 3) := by decide +kernel
theorem d_Line_timesOf_6 : decode m_Line_timesOf.2.1 6 = .ok (.astore_n 3, 1) := by decide +kernel
theorem d_Line_timesOf_7 : decode m_Line_timesOf.2.1 7 = .ok (.aload_n 3, 1) := by decide +kernel
theorem d_Line_timesOf_8 : decode m_Line_timesOf.2.1 8 = .ok (.arraylength, 1) := by decide +kernel
theorem d_Line_timesOf_9 : decode m_Line_timesOf.2.1 9 = .ok (.istore 4, 2) := by decide +kernel
theorem d_Line_timesOf_11 : decode m_Line_timesOf.2.1 11 = .ok (.iconst 0, 1) := by decide +kernel
theorem d_Line_timesOf_12 : decode m_Line_timesOf.2.1 12 = .ok (.istore 5, 2) := by decide +kernel
theorem d_Line_timesOf_14 : decode m_Line_timesOf.2.1 14 = .ok (.iload 5, 2) := by decide +kernel
theorem d_Line_timesOf_16 : decode m_Line_timesOf.2.1 16 = .ok (.iload 4, 2) := by decide +kernel
theorem d_Line_timesOf_18 : decode m_Line_timesOf.2.1 18 = .ok (.if_icmp .ge 33, 3) := by decide +kernel
theorem d_Line_timesOf_21 : decode m_Line_timesOf.2.1 21 = .ok (.aload_n 3, 1) := by decide +kernel
theorem d_Line_timesOf_22 : decode m_Line_timesOf.2.1 22 = .ok (.iload 5, 2) := by decide +kernel
theorem d_Line_timesOf_24 : decode m_Line_timesOf.2.1 24 = .ok (.aaload, 1) := by decide +kernel
theorem d_Line_timesOf_25 : decode m_Line_timesOf.2.1 25 = .ok (.astore 6, 2) := by decide +kernel
theorem d_Line_timesOf_27 : decode m_Line_timesOf.2.1 27 = .ok (.iload_n 2, 1) := by decide +kernel
theorem d_Line_timesOf_28 : decode m_Line_timesOf.2.1 28 = .ok (.aload 6, 2) := by decide +kernel
theorem d_Line_timesOf_30 : decode m_Line_timesOf.2.1 30 = .ok (.ifnonnull 7, 3) := by decide +kernel
theorem d_Line_timesOf_33 : decode m_Line_timesOf.2.1 33 = .ok (.iconst 0, 1) := by decide +kernel
theorem d_Line_timesOf_34 : decode m_Line_timesOf.2.1 34 = .ok (.goto 9, 3) := by decide +kernel
theorem d_Line_timesOf_37 : decode m_Line_timesOf.2.1 37 = .ok (.aload 6, 2) := by decide +kernel
theorem d_Line_timesOf_39 : decode m_Line_timesOf.2.1 39 = .ok (.iload_n 1, 1) := by decide +kernel
theorem d_Line_timesOf_40 : decode m_Line_timesOf.2.1 40 = .ok (.invokevirtual 27, 3) := by decide +kernel
theorem d_Line_timesOf_43 : decode m_Line_timesOf.2.1 43 = .ok (.iadd, 1) := by decide +kernel
theorem d_Line_timesOf_44 : decode m_Line_timesOf.2.1 44 = .ok (.istore_n 2, 1) := by decide +kernel
theorem d_Line_timesOf_45 : decode m_Line_timesOf.2.1 45 = .ok (.iinc 5 1, 3) := by decide +kernel
theorem d_Line_timesOf_48 : decode m_Line_timesOf.2.1 48 = .ok (.goto (-34), 3) := by decide +kernel
theorem d_Line_timesOf_51 : decode m_Line_timesOf.2.1 51 = .ok (.iload_n 2, 1) := by decide +kernel
theorem d_Line_timesOf_52 : decode m_Line_timesOf.2.1 52 = .ok (.ireturn, 1) := by decide +kernel
theorem b_Line_timesOf_0 {E : EV} {d : Nat} {Q : Option AV → St → Prop} {σ : St} (x0 x1 : Int) (h : (sh σ x0 = some (3, 2)) ∧ (sa σ (σ.1 x0 0) 24) ∧ WP E m_Line_timesOf (d + 1) 14 [(1, aI x1), (2, aI 0), (3, aP (σ.1 x0 0)), (4, aI (ln σ (σ.1 x0 0))), (5, aI 0)] [] σ Q) : WP E m_Line_timesOf (d + 1) 0 [(0, aP x0), (1, aI x1)] [] σ Q := by
  refine s_iconst d_Line_timesOf_0 ?_
  refine s_istore_n d_Line_timesOf_1 rfl (by decide) rfl ?_
  refine s_aload_n 1 d_Line_timesOf_2 rfl rfl ?_
  obtain ⟨g1, h⟩ := h
  refine s_getF (v := σ.1 x0 0) d_Line_timesOf_3 fl_Line_7 rfl g1 rfl ?_
  refine s_astore_n d_Line_timesOf_6 rfl (by decide) rfl ?_
  refine s_aload_n 0 d_Line_timesOf_7 rfl rfl ?_
  obtain ⟨g2, h⟩ := h
  refine s_alenS (by decide) d_Line_timesOf_8 g2 ?_
  refine s_istore d_Line_timesOf_9 (by decide) rfl ?_
  refine s_iconst d_Line_timesOf_11 ?_
  refine s_istore d_Line_timesOf_12 (by decide) rfl ?_
  refine wp_drop [5, 3, 2, 1, 0] rfl ?_
  exact h
theorem e_Line_timesOf {E : EV} {d : Nat} {Q : Option AV → St → Prop} {σ : St} (x0 x1 : Int) (h : (sh σ x0 = some (3, 2)) ∧ (sa σ (σ.1 x0 0) 24) ∧ WP E m_Line_timesOf (d + 1) 14 [(1, aI x1), (2, aI 0), (3, aP (σ.1 x0 0)), (4, aI (ln σ (σ.1 x0 0))), (5, aI 0)] [] σ Q) : WM E m_Line_timesOf (d + 1) [aP x0, aI x1] σ Q := s_meth (by decide) (Nat.le_of_ble_eq_true rfl) rfl (b_Line_timesOf_0 x0 x1 h)
theorem b_Line_timesOf_14 {E : EV} {d : Nat} {Q : Option AV → St → Prop} {σ : St} (x1 x2 x3 x4 x5 : Int) (h : (rI x5) ∧ (rI x4) ∧ ((x4 ≤ x5 → Q (some (aI x2)) σ) ∧ (¬ x4 ≤ x5 → (inb σ x3 24 x5) ∧ ((¬ (σ.1 x3 x5) = 0 → (sh σ (σ.1 x3 x5) = some (7, 1)) ∧ (WMi E m_Sq_timesOf d [aP (σ.1 x3 x5), aI x1] σ (fun v4 σ4 => WP E m_Line_timesOf (d + 1) 43 [(1, aI x1), (3, aP x3), (4, aI x4), (5, aI x5)] [aI v4, aI x2] σ4 Q))) ∧ ((σ.1 x3 x5) = 0 → WP E m_Line_timesOf (d + 1) 43 [(1, aI x1), (3, aP x3), (4, aI x4), (5, aI x5)] [aI 0, aI x2] σ Q))))) : WP E m_Line_timesOf (d + 1) 14 [(1, aI x1), (2, aI x2), (3, aP x3), (4, aI x4), (5, aI x5)] [] σ Q := by
  refine s_iload 4 d_Line_timesOf_14 rfl ?_
  refine s_iload 3 d_Line_timesOf_16 rfl ?_
  obtain ⟨g1, h⟩ := h
  obtain ⟨g2, h⟩ := h
  refine s_icmp_ge d_Line_timesOf_18 rfl g1 g2 (fun c => ?_) (fun c => ?_)
  · have h := h.1 c
    refine s_iload_n 1 d_Line_timesOf_51 rfl rfl ?_
    exact s_ireturn d_Line_timesOf_52 rfl h
  · have h := h.2 c
    refine s_aload_n 2 d_Line_timesOf_21 rfl rfl ?_
    refine s_iload 4 d_Line_timesOf_22 rfl ?_
    obtain ⟨g3, h⟩ := h
    refine s_aaloadv (v := σ.1 x3 x5) (by decide) d_Line_timesOf_24 g3 rfl ?_
    refine s_astore d_Line_timesOf_25 (by decide) rfl ?_
    refine s_iload_n 2 d_Line_timesOf_27 rfl rfl ?_
    refine s_aload 0 d_Line_timesOf_28 rfl ?_
    refine s_ifnonnull d_Line_timesOf_30 rfl (fun c => ?_) (fun c => ?_)
    · have h := h.1 c
      refine s_aload 0 d_Line_timesOf_37 rfl ?_
      refine s_iload_n 1 d_Line_timesOf_39 rfl rfl ?_
      obtain ⟨g5, h⟩ := h
      refine s_callV (as := [aI x1]) (ci := 7) d_Line_timesOf_40 ok_Sq_timesOf lk_Line_27 io_Sq_timesOf so_Sq_timesOf (by decide) rfl rfl rfl (Nat.le_of_ble_eq_true rfl) rfl g5 (WM.mono h ?_)
      rintro _ σ4 ⟨v4, rfl, hp, h⟩
      show WP E m_Line_timesOf (d + 1) 43 [(6, aP (σ.1 x3 x5)), (1, aI x1), (2, aI x2), (3, aP x3), (4, aI x4), (5, aI x5)] [aI v4, aI x2] σ4 Q
      refine wp_drop [1, 3, 4, 5] rfl ?_
      exact h
    · have h := h.2 c
      refine s_iconst d_Line_timesOf_33 ?_
      refine s_goto d_Line_timesOf_34 rfl ?_
      refine wp_drop [1, 3, 4, 5] rfl ?_
      exact h
theorem b_Line_timesOf_43 {E : EV} {d : Nat} {Q : Option AV → St → Prop} {σ : St} (x1 x3 x4 x5 s0 s1 : Int) (h : WP E m_Line_timesOf (d + 1) 14 [(1, aI x1), (2, aI (s0 + s1)), (3, aP x3), (4, aI x4), (5, aI (x5 + 1))] [] σ Q) : WP E m_Line_timesOf (d + 1) 43 [(1, aI x1), (3, aP x3), (4, aI x4), (5, aI x5)] [aI s1, aI s0] σ Q := by
  refine s_iadd d_Line_timesOf_43 ?_
  refine s_istore_n d_Line_timesOf_44 rfl (by decide) rfl ?_
  refine s_iinc 4 d_Line_timesOf_45 rfl (by decide) rfl ?_
  refine s_goto d_Line_timesOf_48 rfl ?_
  refine wp_drop [2, 1, 3, 4, 0] rfl ?_
  exact h
theorem d_Line_signs_0 : decode m_Line_signs.2.1 0 = .ok (.iconst 0, 1) := by decide +kernel
theorem d_Line_signs_1 : decode m_Line_signs.2.1 1 = .ok (.istore_n 1, 1) := by decide +kernel
theorem d_Line_signs_2 : decode m_Line_signs.2.1 2 = .ok (.aload_n 0, 1) := by decide +kernel
theorem d_Line_signs_3 : decode m_Line_signs.2.1 3 = .ok (.getfield 7, 3) := by decide +kernel
theorem d_Line_signs_6 : decode m_Line_signs.2.1 6 = .ok (.astore_n 2, 1) := by decide +kernel
theorem d_Line_signs_7 : decode m_Line_signs.2.1 7 = .ok (.aload_n 2, 1) := by decide +kernel
theorem d_Line_signs_8 : decode m_Line_signs.2.1 8 = .ok (.arraylength, 1) := by decide +kernel
theorem d_Line_signs_9 : decode m_Line_signs.2.1 9 = .ok (.istore_n 3, 1) := by decide +kernel
theorem d_Line_signs_10 : decode m_Line_signs.2.1 10 = .ok (.iconst 0, 1) := by decide +kernel
theorem d_Line_signs_11 : decode m_Line_signs.2.1 11 = .ok (.istore 4, 2) := by decide +kernel
theorem d_Line_signs_13 : decode m_Line_signs.2.1 13 = .ok (.iload 4, 2) := by decide +kernel
theorem d_Line_signs_15 : decode m_Line_signs.2.1 15 = .ok (.iload_n 3, 1) := by decide +kernel
theorem d_Line_signs_16 : decode m_Line_signs.2.1 16 = .ok (.if_icmp .ge 32, 3) := by decide +kernel
theorem d_Line_signs_19 : decode m_Line_signs.2.1 19 = .ok (.aload_n 2, 1) := by decide +kernel
theorem d_Line_signs_20 : decode m_Line_signs.2.1 20 = .ok (.iload 4, 2) := by decide +kernel
theorem d_Line_signs_22 : decode m_Line_signs.2.1 22 = .ok (.aaload, 1) := by decide +kernel
theorem d_Line_signs_23 : decode m_Line_signs.2.1 23 = .ok (.astore 5, 2) := by decide +kernel
theorem d_Line_signs_25 : decode m_Line_signs.2.1 25 = .ok (.iload_n 1, 1) := by decide +kernel
theorem d_Line_signs_26 : decode m_Line_signs.2.1 26 = .ok (.aload 5, 2) := by decide +kernel
theorem d_Line_signs_28 : decode m_Line_signs.2.1 28 = .ok (.ifnonnull 7, 3) := by decide +kernel
theorem d_Line_signs_31 : decode m_Line_signs.2.1 31 = .ok (.iconst 0, 1) := by decide +kernel
theorem d_Line_signs_32 : decode m_Line_signs.2.1 32 = .ok (.goto 8, 3) := by decide +kernel
theorem d_Line_signs_35 : decode m_Line_signs.2.1 35 = .ok (.aload 5, 2) := by decide +kernel
theorem d_Line_signs_37 : decode m_Line_signs.2.1 37 = .ok (.invokevirtual 21, 3) := by decide +kernel
theorem d_Line_signs_40 : decode m_Line_signs.2.1 40 = .ok (.iadd, 1) := by decide +kernel
theorem d_Line_signs_41 : decode m_Line_signs.2.1 41 = .ok (.istore_n 1, 1) := by decide +kernel
theorem d_Line_signs_42 : decode m_Line_signs.2.1 42 = .ok (.iinc 4 1, 3) := by decide +kernel
theorem d_Line_signs_45 : decode m_Line_signs.2.1 45 = .ok (.goto (-32), 3) := by decide +kernel
theorem d_Line_signs_48 : decode m_Line_signs.2.1 48 = .ok (.iload_n 1, 1) := by decide +kernel
theorem d_Line_signs_49 : decode m_Line_signs.2.1 49 = .ok (.ireturn, 1) := by decide +kernel
theorem b_Line_signs_0 {E : EV} {d : Nat} {Q : Option AV → St → Prop} {σ : St} (x0 : Int) (h : (sh σ x0 = some (3, 2)) ∧ (sa σ (σ.1 x0 0) 24) ∧ WP E m_Line_signs (d + 1) 13 [(1, aI 0), (2, aP (σ.1 x0 0)), (3, aI (ln σ (σ.1 x0 0))), (4, aI 0)] [] σ Q) : WP E m_Line_signs (d + 1) 0 [(0, aP x0)] [] σ Q := by
  refine s_iconst d_Line_signs_0 ?_
  refine s_istore_n d_Line_signs_1 rfl (by decide) rfl ?_
  refine s_aload_n 1 d_Line_signs_2 rfl rfl ?_
  obtain ⟨g1, h⟩ := h
  refine s_getF (v := σ.1 x0 0) d_Line_signs_3 fl_Line_7 rfl g1 rfl ?_
  refine s_astore_n d_Line_signs_6 rfl (by decide) rfl ?_
  refine s_aload_n 0 d_Line_signs_7 rfl rfl ?_
  obtain ⟨g2, h⟩ := h
  refine s_alenS (by decide) d_Line_signs_8 g2 ?_
  refine s_istore_n d_Line_signs_9 rfl (by decide) rfl ?_
  refine s_iconst d_Line_signs_10 ?_
  refine s_istore d_Line_signs_11 (by decide) rfl ?_
  refine wp_drop [3, 2, 1, 0] rfl ?_
  exact h
theorem e_Line_signs {E : EV} {d : Nat} {Q : Option AV → St → Prop} {σ : St} (x0 : Int) (h : (sh σ x0 = some (3, 2)) ∧ (sa σ (σ.1 x0 0) 24) ∧ WP E m_Line_signs (d + 1) 13 [(1, aI 0), (2, aP (σ.1 x0 0)), (3, aI (ln σ (σ.1 x0 0))), (4, aI 0)] [] σ Q) : WM E m_Line_signs (d + 1) [aP x0] σ Q := s_meth (by decide) (Nat.le_of_ble_eq_true rfl) rfl (b_Line_signs_0 x0 h)
theorem b_Line_signs_13 {E : EV} {d : Nat} {Q : Option AV → St → Prop} {σ : St} (x1 x2 x3 x4 : Int) (h : (rI x4) ∧ (rI x3) ∧ ((x3 ≤ x4 → Q (some (aI x1)) σ) ∧ (¬ x3 ≤ x4 → (inb σ x2 24 x4) ∧ ((¬ (σ.1 x2 x4) = 0 → (sh σ (σ.1 x2 x4) = some (7, 1)) ∧ (WMi E m_Sq_signs d [aP (σ.1 x2 x4)] σ (fun v4 σ4 => WP E m_Line_signs (d + 1) 40 [(2, aP x2), (3, aI x3), (4, aI x4)] [aI v4, aI x1] σ4 Q))) ∧ ((σ.1 x2 x4) = 0 → WP E m_Line_signs (d + 1) 40 [(2, aP x2), (3, aI x3), (4, aI x4)] [aI 0, aI x1] σ Q))))) : WP E m_Line_signs (d + 1) 13 [(1, aI x1), (2, aP x2), (3, aI x3), (4, aI x4)] [] σ Q := by
  refine s_iload 3 d_Line_signs_13 rfl ?_
  refine s_iload_n 2 d_Line_signs_15 rfl rfl ?_
  obtain ⟨g1, h⟩ := h
  obtain ⟨g2, h⟩ := h
  refine s_icmp_ge d_Line_signs_16 rfl g1 g2 (fun c => ?_) (fun c => ?_)
  · have h := h.1 c
    refine s_iload_n 0 d_Line_signs_48 rfl rfl ?_
    exact s_ireturn d_Line_signs_49 rfl h
  · have h := h.2 c
    refine s_aload_n 1 d_Line_signs_19 rfl rfl ?_
    refine s_iload 3 d_Line_signs_20 rfl ?_
    obtain ⟨g3, h⟩ := h
    refine s_aaloadv (v := σ.1 x2 x4) (by decide) d_Line_signs_22 g3 rfl ?_
    refine s_astore d_Line_signs_23 (by decide) rfl ?_
    refine s_iload_n 1 d_Line_signs_25 rfl rfl ?_
    refine s_aload 0 d_Line_signs_26 rfl ?_
    refine s_ifnonnull d_Line_signs_28 rfl (fun c => ?_) (fun c => ?_)
    · have h := h.1 c
      refine s_aload 0 d_Line_signs_35 rfl ?_
      obtain ⟨g5, h⟩ := h
      refine s_callV (as := []) (ci := 7) d_Line_signs_37 ok_Sq_signs lk_Line_21 io_Sq_signs so_Sq_signs (by decide) rfl rfl rfl (Nat.le_of_ble_eq_true rfl) rfl g5 (WM.mono h ?_)
      rintro _ σ4 ⟨v4, rfl, hp, h⟩
      show WP E m_Line_signs (d + 1) 40 [(5, aP (σ.1 x2 x4)), (1, aI x1), (2, aP x2), (3, aI x3), (4, aI x4)] [aI v4, aI x1] σ4 Q
      refine wp_drop [2, 3, 4] rfl ?_
      exact h
    · have h := h.2 c
      refine s_iconst d_Line_signs_31 ?_
      refine s_goto d_Line_signs_32 rfl ?_
      refine wp_drop [2, 3, 4] rfl ?_
      exact h
theorem b_Line_signs_40 {E : EV} {d : Nat} {Q : Option AV → St → Prop} {σ : St} (x2 x3 x4 s0 s1 : Int) (h : WP E m_Line_signs (d + 1) 13 [(1, aI (s0 + s1)), (2, aP x2), (3, aI x3), (4, aI (x4 + 1))] [] σ Q) : WP E m_Line_signs (d + 1) 40 [(2, aP x2), (3, aI x3), (4, aI x4)] [aI s1, aI s0] σ Q := by
  refine s_iadd d_Line_signs_40 ?_
  refine s_istore_n d_Line_signs_41 rfl (by decide) rfl ?_
  refine s_iinc 3 d_Line_signs_42 rfl (by decide) rfl ?_
  refine s_goto d_Line_signs_45 rfl ?_
  refine wp_drop [1, 2, 3, 0] rfl ?_
  exact h
theorem d_Moment_init_0 : decode m_Moment_init.2.1 0 = .ok (.aload_n 0, 1) := by decide +kernel
theorem d_Moment_init_1 : decode m_Moment_init.2.1 1 = .ok (.invokespecial 1, 3) := by decide +kernel
theorem d_Moment_init_4 : decode m_Moment_init.2.1 4 = .ok (.aload_n 0, 1) := by decide +kernel
theorem d_Moment_init_5 : decode m_Moment_init.2.1 5 = .ok (.aload_n 1, 1) := by decide +kernel
theorem d_Moment_init_6 : decode m_Moment_init.2.1 6 = .ok (.putfield 7, 3) := by decide +kernel
theorem d_Moment_init_9 : decode m_Moment_init.2.1 9 = .ok (.aload_n 0, 1) := by decide +kernel
theorem d_Moment_init_10 : decode m_Moment_init.2.1 10 = .ok (.iload_n 2, 1) := by decide +kernel
theorem d_Moment_init_11 : decode m_Moment_init.2.1 11 = .ok (.putfield 13, 3) := by decide +kernel
theorem d_Moment_init_14 : decode m_Moment_init.2.1 14 = .ok (.aload_n 0, 1) := by decide +kernel
theorem d_Moment_init_15 : decode m_Moment_init.2.1 15 = .ok (.iload_n 3, 1) := by decide +kernel
theorem d_Moment_init_16 : decode m_Moment_init.2.1 16 = .ok (.putfield 17, 3) := by decide +kernel
theorem d_Moment_init_19 : decode m_Moment_init.2.1 19 = .ok (.return_, 1) := by decide +kernel
theorem b_Moment_init_0 {E : EV} {d : Nat} {Q : Option AV → St → Prop} {σ : St} (x0 x1 x2 x3 : Int) (h : (0 < x0) ∧ (sh σ x0 = some (4, 3)) ∧ (sh (wr σ x0 0 x1) x0 = some (4, 3)) ∧ (sh (wr (wr σ x0 0 x1) x0 1 x2) x0 = some (4, 3)) ∧ Q none (wr (wr (wr σ x0 0 x1) x0 1 x2) x0 2 x3)) : WP E m_Moment_init (d + 1) 0 [(0, aP x0), (1, aP x1), (2, aI x2), (3, aI x3)] [] σ Q := by
  refine s_aload_n 0 d_Moment_init_0 rfl rfl ?_
  obtain ⟨g1, h⟩ := h
  refine s_objInit d_Moment_init_1 lo_Moment_1 lo_inst lo_code g1 (Nat.le_of_ble_eq_true rfl) ?_
  refine s_aload_n 0 d_Moment_init_4 rfl rfl ?_
  refine s_aload_n 1 d_Moment_init_5 rfl rfl ?_
  obtain ⟨g2, h⟩ := h
  refine s_putf 0 rfl d_Moment_init_6 fl_Moment_7 (fun C T h => by cases h; exact Or.inr ⟨rfl, rfl, rfl, fk_Moment_7⟩) rfl (Or.inr (Or.inr (Or.inr (Or.inr ⟨_, rfl⟩)))) (fun h => nomatch h) g2 ?_
  refine s_aload_n 0 d_Moment_init_9 rfl rfl ?_
  refine s_iload_n 2 d_Moment_init_10 rfl rfl ?_
  obtain ⟨g3, h⟩ := h
  refine s_putf 1 rfl d_Moment_init_11 fl_Moment_13 (fun C T h => by cases h; exact Or.inr ⟨rfl, rfl, rfl, fk_Moment_13⟩) rfl (Or.inl rfl) (fun h => nomatch h) g3 ?_
  refine s_aload_n 0 d_Moment_init_14 rfl rfl ?_
  refine s_iload_n 3 d_Moment_init_15 rfl rfl ?_
  obtain ⟨g4, h⟩ := h
  refine s_putf 2 rfl d_Moment_init_16 fl_Moment_17 (fun C T h => by cases h; exact Or.inr ⟨rfl, rfl, rfl, fk_Moment_17⟩) rfl (Or.inl rfl) (fun h => nomatch h) g4 ?_
  exact s_return d_Moment_init_19 rfl h
theorem e_Moment_init {E : EV} {d : Nat} {Q : Option AV → St → Prop} {σ : St} (x0 x1 x2 x3 : Int) (h : (0 < x0) ∧ (sh σ x0 = some (4, 3)) ∧ (sh (wr σ x0 0 x1) x0 = some (4, 3)) ∧ (sh (wr (wr σ x0 0 x1) x0 1 x2) x0 = some (4, 3)) ∧ Q none (wr (wr (wr σ x0 0 x1) x0 1 x2) x0 2 x3)) : WM E m_Moment_init (d + 1) [aP x0, aP x1, aI x2, aI x3] σ Q := s_meth (by decide) (Nat.le_of_ble_eq_true rfl) rfl (b_Moment_init_0 x0 x1 x2 x3 h)
theorem d_Moment_get_0 : decode m_Moment_get.2.1 0 = .ok (.iload_n 1, 1) := by decide +kernel
theorem d_Moment_get_1 : decode m_Moment_get.2.1 1 = .ok (.ifCond .lt 21, 3) := by decide +kernel
theorem d_Moment_get_4 : decode m_Moment_get.2.1 4 = .ok (.iload_n 1, 1) := by decide +kernel
theorem d_Moment_get_5 : decode m_Moment_get.2.1 5 = .ok (.aload_n 0, 1) := by decide +kernel
theorem d_Moment_get_6 : decode m_Moment_get.2.1 6 = .ok (.getfield 7, 3) := by decide +kernel
theorem d_Moment_get_9 : decode m_Moment_get.2.1 9 = .ok (.arraylength, 1) := by decide +kernel
theorem d_Moment_get_10 : decode m_Moment_get.2.1 10 = .ok (.if_icmp .ge 12, 3) := by decide +kernel
theorem d_Moment_get_13 : decode m_Moment_get.2.1 13 = .ok (.aload_n 0, 1) := by decide +kernel
theorem d_Moment_get_14 : decode m_Moment_get.2.1 14 = .ok (.getfield 7, 3) := by decide +kernel
theorem d_Moment_get_17 : decode m_Moment_get.2.1 17 = .ok (.iload_n 1, 1) := by decide +kernel
theorem d_Moment_get_18 : decode m_Moment_get.2.1 18 = .ok (.aaload, 1) := by decide +kernel
theorem d_Moment_get_19 : decode m_Moment_get.2.1 19 = .ok (.goto 4, 3) := by decide +kernel
theorem d_Moment_get_22 : decode m_Moment_get.2.1 22 = .ok (.aconst_null, 1) := by decide +kernel
theorem d_Moment_get_23 : decode m_Moment_get.2.1 23 = .ok (.areturn, 1) := by decide +kernel
theorem b_Moment_get_0 {E : EV} {d : Nat} {Q : Option AV → St → Prop} {σ : St} (x0 x1 : Int) (h : (rI x1) ∧ ((x1 < 0 → Q (some (aP 0)) σ) ∧ (¬ x1 < 0 → (sh σ x0 = some (4, 3)) ∧ (sa σ (σ.1 x0 0) 25) ∧ (rI x1) ∧ (rI (ln σ (σ.1 x0 0))) ∧ (((ln σ (σ.1 x0 0)) ≤ x1 → Q (some (aP 0)) σ) ∧ (¬ (ln σ (σ.1 x0 0)) ≤ x1 → (sh σ x0 = some (4, 3)) ∧ (inb σ (σ.1 x0 0) 25 x1) ∧ Q (some (aP (σ.1 (σ.1 x0 0) x1))) σ))))) : WP E m_Moment_get d 0 [(0, aP x0), (1, aI x1)] [] σ Q := by
  refine s_iload_n 1 d_Moment_get_0 rfl rfl ?_
  obtain ⟨g1, h⟩ := h
  refine s_if_lt d_Moment_get_1 rfl g1 (fun c => ?_) (fun c => ?_)
  · have h := h.1 c
    refine s_null d_Moment_get_22 ?_
    exact s_areturn d_Moment_get_23 rfl (Or.inl ⟨_, rfl⟩) h
  · have h := h.2 c
    refine s_iload_n 1 d_Moment_get_4 rfl rfl ?_
    refine s_aload_n 0 d_Moment_get_5 rfl rfl ?_
    obtain ⟨g2, h⟩ := h
    refine s_getF (v := σ.1 x0 0) d_Moment_get_6 fl_Moment_7 rfl g2 rfl ?_
    obtain ⟨g3, h⟩ := h
    refine s_alenS (by decide) d_Moment_get_9 g3 ?_
    obtain ⟨g4, h⟩ := h
    obtain ⟨g5, h⟩ := h
    refine s_icmp_ge d_Moment_get_10 rfl g4 g5 (fun c => ?_) (fun c => ?_)
    · have h := h.1 c
      refine s_null d_Moment_get_22 ?_
      exact s_areturn d_Moment_get_23 rfl (Or.inl ⟨_, rfl⟩) h
    · have h := h.2 c
      refine s_aload_n 0 d_Moment_get_13 rfl rfl ?_
      obtain ⟨g6, h⟩ := h
      refine s_getF (v := σ.1 x0 0) d_Moment_get_14 fl_Moment_7 rfl g6 rfl ?_
      refine s_iload_n 1 d_Moment_get_17 rfl rfl ?_
      obtain ⟨g7, h⟩ := h
      refine s_aaloadv (v := σ.1 (σ.1 x0 0) x1) (by decide) d_Moment_get_18 g7 rfl ?_
      refine s_goto d_Moment_get_19 rfl ?_
      exact s_areturn d_Moment_get_23 rfl (Or.inl ⟨_, rfl⟩) h
theorem e_Moment_get {E : EV} {d : Nat} {Q : Option AV → St → Prop} {σ : St} (x0 x1 : Int) (h : (rI x1) ∧ ((x1 < 0 → Q (some (aP 0)) σ) ∧ (¬ x1 < 0 → (sh σ x0 = some (4, 3)) ∧ (sa σ (σ.1 x0 0) 25) ∧ (rI x1) ∧ (rI (ln σ (σ.1 x0 0))) ∧ (((ln σ (σ.1 x0 0)) ≤ x1 → Q (some (aP 0)) σ) ∧ (¬ (ln σ (σ.1 x0 0)) ≤ x1 → (sh σ x0 = some (4, 3)) ∧ (inb σ (σ.1 x0 0) 25 x1) ∧ Q (some (aP (σ.1 (σ.1 x0 0) x1))) σ))))) : WM E m_Moment_get d [aP x0, aI x1] σ Q := s_meth (by decide) (Nat.le_of_ble_eq_true rfl) rfl (b_Moment_get_0 x0 x1 h)
theorem d_Moment_with_0 : decode m_Moment_with.2.1 0 = .ok (.aload_n 0, 1) := by decide +kernel
theorem d_Moment_with_1 : decode m_Moment_with.2.1 1 = .ok (.getfield 7, 3) := by decide +kernel
theorem d_Moment_with_4 : decode m_Moment_with.2.1 4 = .ok (.arraylength, 1) := by decide +kernel
theorem d_Moment_with_5 : decode m_Moment_with.2.1 5 = .ok (.anewarray 21, 3) := by decide +kernel
theorem d_Moment_with_8 : decode m_Moment_with.2.1 8 = .ok (.astore_n 3, 1) := by decide +kernel
theorem d_Moment_with_9 : decode m_Moment_with.2.1 9 = .ok (.iconst 0, 1) := by decide +kernel
theorem d_Moment_with_10 : decode m_Moment_with.2.1 10 = .ok (.istore 4, 2) := by decide +kernel
theorem d_Moment_with_12 : decode m_Moment_with.2.1 12 = .ok (.iload 4, 2) := by decide +kernel
theorem d_Moment_with_14 : decode m_Moment_with.2.1 14 = .ok (.aload_n 3, 1) := by decide +kernel
theorem d_Moment_with_15 : decode m_Moment_with.2.1 15 = .ok (.arraylength, 1) := by decide +kernel
theorem d_Moment_with_16 : decode m_Moment_with.2.1 16 = .ok (.if_icmp .ge 29, 3) := by decide +kernel
theorem d_Moment_with_19 : decode m_Moment_with.2.1 19 = .ok (.aload_n 3, 1) := by decide +kernel
theorem d_Moment_with_20 : decode m_Moment_with.2.1 20 = .ok (.iload 4, 2) := by decide +kernel
theorem d_Moment_with_22 : decode m_Moment_with.2.1 22 = .ok (.iload 4, 2) := by decide +kernel
theorem d_Moment_with_24 : decode m_Moment_with.2.1 24 = .ok (.iload_n 1, 1) := by decide +kernel
theorem d_Moment_with_25 : decode m_Moment_with.2.1 25 = .ok (.if_icmp .ne 7, 3) := by decide +kernel
theorem d_Moment_with_28 : decode m_Moment_with.2.1 28 = .ok (.aload_n 2, 1) := by decide +kernel
theorem d_Moment_with_29 : decode m_Moment_with.2.1 29 = .ok (.goto 9, 3) := by decide +kernel
theorem d_Moment_with_32 : decode m_Moment_with.2.1 32 = .ok (.aload_n 0, 1) := by decide +kernel
theorem d_Moment_with_33 : decode m_Moment_with.2.1 33 = .ok (.iload 4, 2) := by decide +kernel
theorem d_Moment_with_35 : decode m_Moment_with.2.1 35 = .ok (.invokevirtual 29, 3) := by decide +kernel
theorem d_Moment_with_38 : decode m_Moment_with.2.1 38 = .ok (.aastore, 1) := by decide +kernel
theorem d_Moment_with_39 : decode m_Moment_with.2.1 39 = .ok (.iinc 4 1, 3) := by decide +kernel
theorem d_Moment_with_42 : decode m_Moment_with.2.1 42 = .ok (.goto (-30), 3) := by decide +kernel
theorem d_Moment_with_45 : decode m_Moment_with.2.1 45 = .ok (.new 8, 3) := by decide +kernel
theorem d_Moment_with_48 : decode m_Moment_with.2.1 48 = .ok (.dup, 1) := by decide +kernel
theorem d_Moment_with_49 : decode m_Moment_with.2.1 49 = .ok (.aload_n 3, 1) := by decide +kernel
theorem d_Moment_with_50 : decode m_Moment_with.2.1 50 = .ok (.aload_n 0, 1) := by decide +kernel
theorem d_Moment_with_51 : decode m_Moment_with.2.1 51 = .ok (.getfield 13, 3) := by decide +kernel
theorem d_Moment_with_54 : decode m_Moment_with.2.1 54 = .ok (.aload_n 0, 1) := by decide +kernel
theorem d_Moment_with_55 : decode m_Moment_with.2.1 55 = .ok (.getfield 17, 3) := by decide +kernel
theorem d_Moment_with_58 : decode m_Moment_with.2.1 58 = .ok (.invokespecial 33, 3) := by decide +kernel
theorem d_Moment_with_61 : decode m_Moment_with.2.1 61 = .ok (.areturn, 1) := by decide +kernel
theorem b_Moment_with_0 {E : EV} {d : Nat} {Q : Option AV → St → Prop} {σ : St} (x0 x1 x2 : Int) (h : (sh σ x0 = some (4, 3)) ∧ (sa σ (σ.1 x0 0) 25) ∧ (0 ≤ (ln σ (σ.1 x0 0)) ∧ (ln σ (σ.1 x0 0)) ≤ 1000000) ∧ WP E m_Moment_with (d + 1) 12 [(0, aP x0), (1, aI x1), (2, aP x2), (3, aP (nx σ)), (4, aI 0)] [] (al σ 25 (Int.toNat (ln σ (σ.1 x0 0)))) Q) : WP E m_Moment_with (d + 1) 0 [(0, aP x0), (1, aI x1), (2, aP x2)] [] σ Q := by
  refine s_aload_n 0 d_Moment_with_0 rfl rfl ?_
  obtain ⟨g1, h⟩ := h
  refine s_getF (v := σ.1 x0 0) d_Moment_with_1 fl_Moment_7 rfl g1 rfl ?_
  obtain ⟨g2, h⟩ := h
  refine s_alenS (by decide) d_Moment_with_4 g2 ?_
  obtain ⟨g3, h⟩ := h
  refine s_anewarray (kd := 25) d_Moment_with_5 (by decide) rfl nw_Moment_21 g3 ?_
  refine s_astore_n d_Moment_with_8 rfl (by decide) rfl ?_
  refine s_iconst d_Moment_with_9 ?_
  refine s_istore d_Moment_with_10 (by decide) rfl ?_
  refine wp_drop [2, 3, 4, 1, 0] rfl ?_
  exact h
theorem e_Moment_with {E : EV} {d : Nat} {Q : Option AV → St → Prop} {σ : St} (x0 x1 x2 : Int) (h : (sh σ x0 = some (4, 3)) ∧ (sa σ (σ.1 x0 0) 25) ∧ (0 ≤ (ln σ (σ.1 x0 0)) ∧ (ln σ (σ.1 x0 0)) ≤ 1000000) ∧ WP E m_Moment_with (d + 1) 12 [(0, aP x0), (1, aI x1), (2, aP x2), (3, aP (nx σ)), (4, aI 0)] [] (al σ 25 (Int.toNat (ln σ (σ.1 x0 0)))) Q) : WM E m_Moment_with (d + 1) [aP x0, aI x1, aP x2] σ Q := s_meth (by decide) (Nat.le_of_ble_eq_true rfl) rfl (b_Moment_with_0 x0 x1 x2 h)
theorem b_Moment_with_12 {E : EV} {d : Nat} {Q : Option AV → St → Prop} {σ : St} (x0 x1 x2 x3 x4 : Int) (h : (sa σ x3 25) ∧ (rI x4) ∧ (rI (ln σ x3)) ∧ (((ln σ x3) ≤ x4 → (sh (al σ 4 3) x0 = some (4, 3)) ∧ (sh (al σ 4 3) x0 = some (4, 3)) ∧ (0 < (nx σ)) ∧ (WMv E m_Moment_init d [aP (nx σ), aP x3, aI ((al σ 4 3).1 x0 1), aI ((al σ 4 3).1 x0 2)] (al σ 4 3) (fun σ6 => Q (some (aP (nx σ))) σ6))) ∧ (¬ (ln σ x3) ≤ x4 → (rI x4) ∧ (rI x1) ∧ ((¬ x4 = x1 → (sh σ x0 = some (4, 3)) ∧ (WMr E m_Moment_get d [aP x0, aI x4] σ (fun v10 σ10 => WP E m_Moment_with (d + 1) 38 [(0, aP x0), (1, aI x1), (2, aP x2), (3, aP x3), (4, aI x4)] [aP v10, aI x4, aP x3] σ10 Q))) ∧ (x4 = x1 → WP E m_Moment_with (d + 1) 38 [(0, aP x0), (1, aI x1), (2, aP x2), (3, aP x3), (4, aI x4)] [aP x2, aI x4, aP x3] σ Q))))) : WP E m_Moment_with (d + 1) 12 [(0, aP x0), (1, aI x1), (2, aP x2), (3, aP x3), (4, aI x4)] [] σ Q := by
  refine s_iload 4 d_Moment_with_12 rfl ?_
  refine s_aload_n 3 d_Moment_with_14 rfl rfl ?_
  obtain ⟨g1, h⟩ := h
  refine s_alenS (by decide) d_Moment_with_15 g1 ?_
  obtain ⟨g2, h⟩ := h
  obtain ⟨g3, h⟩ := h
  refine s_icmp_ge d_Moment_with_16 rfl g2 g3 (fun c => ?_) (fun c => ?_)
  · have h := h.1 c
    refine s_new (ci := 4) d_Moment_with_45 (by decide) rfl inG4 tyX4_ok (df_4 E) nw_Moment_8 in_4 ii_4 ?_
    refine s_dup d_Moment_with_48 (Nat.ne_of_beq_eq_false rfl) ?_
    refine s_aload_n 3 d_Moment_with_49 rfl rfl ?_
    refine s_aload_n 0 d_Moment_with_50 rfl rfl ?_
    obtain ⟨g4, h⟩ := h
    refine s_getF (v := (al σ 4 3).1 x0 1) d_Moment_with_51 fl_Moment_13 rfl g4 rfl ?_
    refine s_aload_n 0 d_Moment_with_54 rfl rfl ?_
    obtain ⟨g5, h⟩ := h
    refine s_getF (v := (al σ 4 3).1 x0 2) d_Moment_with_55 fl_Moment_17 rfl g5 rfl ?_
    obtain ⟨g7, h⟩ := h
    refine s_callI (as := [aP x3, aI ((al σ 4 3).1 x0 1), aI ((al σ 4 3).1 x0 2)]) d_Moment_with_58 ok_Moment_init lk_Moment_33 io_Moment_init rfl rfl rfl (Nat.le_of_ble_eq_true rfl) rfl g7 (WM.mono h ?_)
    rintro _ σ6 ⟨rfl, hp, h⟩
    show WP E m_Moment_with (d + 1) 61 [(0, aP x0), (1, aI x1), (2, aP x2), (3, aP x3), (4, aI x4)] [aP (nx σ)] σ6 Q
    exact s_areturn d_Moment_with_61 rfl (Or.inl ⟨_, rfl⟩) h
  · have h := h.2 c
    refine s_aload_n 3 d_Moment_with_19 rfl rfl ?_
    refine s_iload 4 d_Moment_with_20 rfl ?_
    refine s_iload 4 d_Moment_with_22 rfl ?_
    refine s_iload_n 1 d_Moment_with_24 rfl rfl ?_
    obtain ⟨g8, h⟩ := h
    obtain ⟨g9, h⟩ := h
    refine s_icmp_ne d_Moment_with_25 rfl g8 g9 (fun c => ?_) (fun c => ?_)
    · have h := h.1 c
      refine s_aload_n 0 d_Moment_with_32 rfl rfl ?_
      refine s_iload 4 d_Moment_with_33 rfl ?_
      obtain ⟨g11, h⟩ := h
      refine s_callV (as := [aI x4]) (ci := 4) d_Moment_with_35 ok_Moment_get lk_Moment_29 io_Moment_get so_Moment_get (by decide) rfl rfl rfl (Nat.le_of_ble_eq_true rfl) rfl g11 (WM.mono h ?_)
      rintro _ σ10 ⟨v10, rfl, hp, h⟩
      show WP E m_Moment_with (d + 1) 38 [(0, aP x0), (1, aI x1), (2, aP x2), (3, aP x3), (4, aI x4)] [aP v10, aI x4, aP x3] σ10 Q
      exact h
    · have h := h.2 c
      refine s_aload_n 2 d_Moment_with_28 rfl rfl ?_
      refine s_goto d_Moment_with_29 rfl ?_
      exact h
theorem b_Moment_with_38 {E : EV} {d : Nat} {Q : Option AV → St → Prop} {σ : St} (x0 x1 x2 x3 x4 s0 s1 s2 : Int) (h : (inb σ s0 25 s1) ∧ (s2 = 0 ∨ sh σ s2 = some (3, 2)) ∧ WP E m_Moment_with (d + 1) 12 [(0, aP x0), (1, aI x1), (2, aP x2), (3, aP x3), (4, aI (x4 + 1))] [] (wr σ s0 s1 s2) Q) : WP E m_Moment_with (d + 1) 38 [(0, aP x0), (1, aI x1), (2, aP x2), (3, aP x3), (4, aI x4)] [aP s2, aI s1, aP s0] σ Q := by
  obtain ⟨g1, h⟩ := h
  obtain ⟨g2, h⟩ := h
  refine s_aastore (ci := 3) (N := 2) (by decide) d_Moment_with_38 g1 g2 ?_
  refine s_iinc 4 d_Moment_with_39 rfl (by decide) rfl ?_
  refine s_goto d_Moment_with_42 rfl ?_
  refine wp_drop [1, 2, 3, 4, 0] rfl ?_
  exact h
theorem d_Moment_squares_0 : decode m_Moment_squares.2.1 0 = .ok (.iconst 0, 1) := by decide +kernel
theorem d_Moment_squares_1 : decode m_Moment_squares.2.1 1 = .ok (.istore_n 1, 1) := by decide +kernel
theorem d_Moment_squares_2 : decode m_Moment_squares.2.1 2 = .ok (.aload_n 0, 1) := by decide +kernel
theorem d_Moment_squares_3 : decode m_Moment_squares.2.1 3 = .ok (.getfield 7, 3) := by decide +kernel
theorem d_Moment_squares_6 : decode m_Moment_squares.2.1 6 = .ok (.astore_n 2, 1) := by decide +kernel
theorem d_Moment_squares_7 : decode m_Moment_squares.2.1 7 = .ok (.aload_n 2, 1) := by decide +kernel
theorem d_Moment_squares_8 : decode m_Moment_squares.2.1 8 = .ok (.arraylength, 1) := by decide +kernel
theorem d_Moment_squares_9 : decode m_Moment_squares.2.1 9 = .ok (.istore_n 3, 1) := by decide +kernel
theorem d_Moment_squares_10 : decode m_Moment_squares.2.1 10 = .ok (.iconst 0, 1) := by decide +kernel
theorem d_Moment_squares_11 : decode m_Moment_squares.2.1 11 = .ok (.istore 4, 2) := by decide +kernel
theorem d_Moment_squares_13 : decode m_Moment_squares.2.1 13 = .ok (.iload 4, 2) := by decide +kernel
theorem d_Moment_squares_15 : decode m_Moment_squares.2.1 15 = .ok (.iload_n 3, 1) := by decide +kernel
theorem d_Moment_squares_16 : decode m_Moment_squares.2.1 16 = .ok (.if_icmp .ge 32, 3) := by decide +kernel
theorem d_Moment_squares_19 : decode m_Moment_squares.2.1 19 = .ok (.aload_n 2, 1) := by decide +kernel
theorem d_Moment_squares_20 : decode m_Moment_squares.2.1 20 = .ok (.iload 4, 2) := by decide +kernel
theorem d_Moment_squares_22 : decode m_Moment_squares.2.1 22 = .ok (.aaload, 1) := by decide +kernel
theorem d_Moment_squares_23 : decode m_Moment_squares.2.1 23 = .ok (.astore 5, 2) := by decide +kernel
theorem d_Moment_squares_25 : decode m_Moment_squares.2.1 25 = .ok (.iload_n 1, 1) := by decide +kernel
theorem d_Moment_squares_26 : decode m_Moment_squares.2.1 26 = .ok (.aload 5, 2) := by decide +kernel
theorem d_Moment_squares_28 : decode m_Moment_squares.2.1 28 = .ok (.ifnonnull 7, 3) := by decide +kernel
theorem d_Moment_squares_31 : decode m_Moment_squares.2.1 31 = .ok (.iconst 0, 1) := by decide +kernel
theorem d_Moment_squares_32 : decode m_Moment_squares.2.1 32 = .ok (.goto 8, 3) := by decide +kernel
theorem d_Moment_squares_35 : decode m_Moment_squares.2.1 35 = .ok (.aload 5, 2) := by decide +kernel
theorem d_Moment_squares_37 : decode m_Moment_squares.2.1 37 = .ok (.invokevirtual 20, 3) := by decide +kernel
theorem d_Moment_squares_40 : decode m_Moment_squares.2.1 40 = .ok (.iadd, 1) := by decide +kernel
theorem d_Moment_squares_41 : decode m_Moment_squares.2.1 41 = .ok (.istore_n 1, 1) := by decide +kernel
theorem d_Moment_squares_42 : decode m_Moment_squares.2.1 42 = .ok (.iinc 4 1, 3) := by decide +kernel
theorem d_Moment_squares_45 : decode m_Moment_squares.2.1 45 = .ok (.goto (-32), 3) := by decide +kernel
theorem d_Moment_squares_48 : decode m_Moment_squares.2.1 48 = .ok (.iload_n 1, 1) := by decide +kernel
theorem d_Moment_squares_49 : decode m_Moment_squares.2.1 49 = .ok (.ireturn, 1) := by decide +kernel
theorem b_Moment_squares_0 {E : EV} {d : Nat} {Q : Option AV → St → Prop} {σ : St} (x0 : Int) (h : (sh σ x0 = some (4, 3)) ∧ (sa σ (σ.1 x0 0) 25) ∧ WP E m_Moment_squares (d + 1) 13 [(1, aI 0), (2, aP (σ.1 x0 0)), (3, aI (ln σ (σ.1 x0 0))), (4, aI 0)] [] σ Q) : WP E m_Moment_squares (d + 1) 0 [(0, aP x0)] [] σ Q := by
  refine s_iconst d_Moment_squares_0 ?_
  refine s_istore_n d_Moment_squares_1 rfl (by decide) rfl ?_
  refine s_aload_n 1 d_Moment_squares_2 rfl rfl ?_
  obtain ⟨g1, h⟩ := h
  refine s_getF (v := σ.1 x0 0) d_Moment_squares_3 fl_Moment_7 rfl g1 rfl ?_
  refine s_astore_n d_Moment_squares_6 rfl (by decide) rfl ?_
  refine s_aload_n 0 d_Moment_squares_7 rfl rfl ?_
  obtain ⟨g2, h⟩ := h
  refine s_alenS (by decide) d_Moment_squares_8 g2 ?_
  refine s_istore_n d_Moment_squares_9 rfl (by decide) rfl ?_
  refine s_iconst d_Moment_squares_10 ?_
  refine s_istore d_Moment_squares_11 (by decide) rfl ?_
  refine wp_drop [3, 2, 1, 0] rfl ?_
  exact h
theorem e_Moment_squares {E : EV} {d : Nat} {Q : Option AV → St → Prop} {σ : St} (x0 : Int) (h : (sh σ x0 = some (4, 3)) ∧ (sa σ (σ.1 x0 0) 25) ∧ WP E m_Moment_squares (d + 1) 13 [(1, aI 0), (2, aP (σ.1 x0 0)), (3, aI (ln σ (σ.1 x0 0))), (4, aI 0)] [] σ Q) : WM E m_Moment_squares (d + 1) [aP x0] σ Q := s_meth (by decide) (Nat.le_of_ble_eq_true rfl) rfl (b_Moment_squares_0 x0 h)
theorem b_Moment_squares_13 {E : EV} {d : Nat} {Q : Option AV → St → Prop} {σ : St} (x1 x2 x3 x4 : Int) (h : (rI x4) ∧ (rI x3) ∧ ((x3 ≤ x4 → Q (some (aI x1)) σ) ∧ (¬ x3 ≤ x4 → (inb σ x2 25 x4) ∧ ((¬ (σ.1 x2 x4) = 0 → (sh σ (σ.1 x2 x4) = some (3, 2)) ∧ (WMi E m_Line_size d [aP (σ.1 x2 x4)] σ (fun v4 σ4 => WP E m_Moment_squares (d + 1) 40 [(2, aP x2), (3, aI x3), (4, aI x4)] [aI v4, aI x1] σ4 Q))) ∧ ((σ.1 x2 x4) = 0 → WP E m_Moment_squares (d + 1) 40 [(2, aP x2), (3, aI x3), (4, aI x4)] [aI 0, aI x1] σ Q))))) : WP E m_Moment_squares (d + 1) 13 [(1, aI x1), (2, aP x2), (3, aI x3), (4, aI x4)] [] σ Q := by
  refine s_iload 3 d_Moment_squares_13 rfl ?_
  refine s_iload_n 2 d_Moment_squares_15 rfl rfl ?_
  obtain ⟨g1, h⟩ := h
  obtain ⟨g2, h⟩ := h
  refine s_icmp_ge d_Moment_squares_16 rfl g1 g2 (fun c => ?_) (fun c => ?_)
  · have h := h.1 c
    refine s_iload_n 0 d_Moment_squares_48 rfl rfl ?_
    exact s_ireturn d_Moment_squares_49 rfl h
  · have h := h.2 c
    refine s_aload_n 1 d_Moment_squares_19 rfl rfl ?_
    refine s_iload 3 d_Moment_squares_20 rfl ?_
    obtain ⟨g3, h⟩ := h
    refine s_aaloadv (v := σ.1 x2 x4) (by decide) d_Moment_squares_22 g3 rfl ?_
    refine s_astore d_Moment_squares_23 (by decide) rfl ?_
    refine s_iload_n 1 d_Moment_squares_25 rfl rfl ?_
    refine s_aload 0 d_Moment_squares_26 rfl ?_
    refine s_ifnonnull d_Moment_squares_28 rfl (fun c => ?_) (fun c => ?_)
    · have h := h.1 c
      refine s_aload 0 d_Moment_squares_35 rfl ?_
      obtain ⟨g5, h⟩ := h
      refine s_callV (as := []) (ci := 3) d_Moment_squares_37 ok_Line_size lk_Moment_20 io_Line_size so_Line_size (by decide) rfl rfl rfl (Nat.le_of_ble_eq_true rfl) rfl g5 (WM.mono h ?_)
      rintro _ σ4 ⟨v4, rfl, hp, h⟩
      show WP E m_Moment_squares (d + 1) 40 [(5, aP (σ.1 x2 x4)), (1, aI x1), (2, aP x2), (3, aI x3), (4, aI x4)] [aI v4, aI x1] σ4 Q
      refine wp_drop [2, 3, 4] rfl ?_
      exact h
    · have h := h.2 c
      refine s_iconst d_Moment_squares_31 ?_
      refine s_goto d_Moment_squares_32 rfl ?_
      refine wp_drop [2, 3, 4] rfl ?_
      exact h
theorem b_Moment_squares_40 {E : EV} {d : Nat} {Q : Option AV → St → Prop} {σ : St} (x2 x3 x4 s0 s1 : Int) (h : WP E m_Moment_squares (d + 1) 13 [(1, aI (s0 + s1)), (2, aP x2), (3, aI x3), (4, aI (x4 + 1))] [] σ Q) : WP E m_Moment_squares (d + 1) 40 [(2, aP x2), (3, aI x3), (4, aI x4)] [aI s1, aI s0] σ Q := by
  refine s_iadd d_Moment_squares_40 ?_
  refine s_istore_n d_Moment_squares_41 rfl (by decide) rfl ?_
  refine s_iinc 3 d_Moment_squares_42 rfl (by decide) rfl ?_
  refine s_goto d_Moment_squares_45 rfl ?_
  refine wp_drop [1, 2, 3, 0] rfl ?_
  exact h
theorem d_Moment_signs_0 : decode m_Moment_signs.2.1 0 = .ok (.iconst 0, 1) := by decide +kernel
theorem d_Moment_signs_1 : decode m_Moment_signs.2.1 1 = .ok (.istore_n 1, 1) := by decide +kernel
theorem d_Moment_signs_2 : decode m_Moment_signs.2.1 2 = .ok (.aload_n 0, 1) := by decide +kernel
theorem d_Moment_signs_3 : decode m_Moment_signs.2.1 3 = .ok (.getfield 7, 3) := by decide +kernel
theorem d_Moment_signs_6 : decode m_Moment_signs.2.1 6 = .ok (.astore_n 2, 1) := by decide +kernel
theorem d_Moment_signs_7 : decode m_Moment_signs.2.1 7 = .ok (.aload_n 2, 1) := by decide +kernel
theorem d_Moment_signs_8 : decode m_Moment_signs.2.1 8 = .ok (.arraylength, 1) := by decide +kernel
theorem d_Moment_signs_9 : decode m_Moment_signs.2.1 9 = .ok (.istore_n 3, 1) := by decide +kernel
theorem d_Moment_signs_10 : decode m_Moment_signs.2.1 10 = .ok (.iconst 0, 1) := by decide +kernel
theorem d_Moment_signs_11 : decode m_Moment_signs.2.1 11 = .ok (.istore 4, 2) := by decide +kernel
theorem d_Moment_signs_13 : decode m_Moment_signs.2.1 13 = .ok (.iload 4, 2) := by decide +kernel
theorem d_Moment_signs_15 : decode m_Moment_signs.2.1 15 = .ok (.iload_n 3, 1) := by decide +kernel
theorem d_Moment_signs_16 : decode m_Moment_signs.2.1 16 = .ok (.if_icmp .ge 32, 3) := by decide +kernel
theorem d_Moment_signs_19 : decode m_Moment_signs.2.1 19 = .ok (.aload_n 2, 1) := by decide +kernel
theorem d_Moment_signs_20 : decode m_Moment_signs.2.1 20 = .ok (.iload 4, 2) := by decide +kernel
theorem d_Moment_signs_22 : decode m_Moment_signs.2.1 22 = .ok (.aaload, 1) := by decide +kernel
theorem d_Moment_signs_23 : decode m_Moment_signs.2.1 23 = .ok (.astore 5, 2) := by decide +kernel
theorem d_Moment_signs_25 : decode m_Moment_signs.2.1 25 = .ok (.iload_n 1, 1) := by decide +kernel
theorem d_Moment_signs_26 : decode m_Moment_signs.2.1 26 = .ok (.aload 5, 2) := by decide +kernel
theorem d_Moment_signs_28 : decode m_Moment_signs.2.1 28 = .ok (.ifnonnull 7, 3) := by decide +kernel
theorem d_Moment_signs_31 : decode m_Moment_signs.2.1 31 = .ok (.iconst 0, 1) := by decide +kernel
theorem d_Moment_signs_32 : decode m_Moment_signs.2.1 32 = .ok (.goto 8, 3) := by decide +kernel
theorem d_Moment_signs_35 : decode m_Moment_signs.2.1 35 = .ok (.aload 5, 2) := by decide +kernel
theorem d_Moment_signs_37 : decode m_Moment_signs.2.1 37 = .ok (.invokevirtual 26, 3) := by decide +kernel
theorem d_Moment_signs_40 : decode m_Moment_signs.2.1 40 = .ok (.iadd, 1) := by decide +kernel
theorem d_Moment_signs_41 : decode m_Moment_signs.2.1 41 = .ok (.istore_n 1, 1) := by decide +kernel
theorem d_Moment_signs_42 : decode m_Moment_signs.2.1 42 = .ok (.iinc 4 1, 3) := by decide +kernel
theorem d_Moment_signs_45 : decode m_Moment_signs.2.1 45 = .ok (.goto (-32), 3) := by decide +kernel
theorem d_Moment_signs_48 : decode m_Moment_signs.2.1 48 = .ok (.iload_n 1, 1) := by decide +kernel
theorem d_Moment_signs_49 : decode m_Moment_signs.2.1 49 = .ok (.ireturn, 1) := by decide +kernel
theorem b_Moment_signs_0 {E : EV} {d : Nat} {Q : Option AV → St → Prop} {σ : St} (x0 : Int) (h : (sh σ x0 = some (4, 3)) ∧ (sa σ (σ.1 x0 0) 25) ∧ WP E m_Moment_signs (d + 1) 13 [(1, aI 0), (2, aP (σ.1 x0 0)), (3, aI (ln σ (σ.1 x0 0))), (4, aI 0)] [] σ Q) : WP E m_Moment_signs (d + 1) 0 [(0, aP x0)] [] σ Q := by
  refine s_iconst d_Moment_signs_0 ?_
  refine s_istore_n d_Moment_signs_1 rfl (by decide) rfl ?_
  refine s_aload_n 1 d_Moment_signs_2 rfl rfl ?_
  obtain ⟨g1, h⟩ := h
  refine s_getF (v := σ.1 x0 0) d_Moment_signs_3 fl_Moment_7 rfl g1 rfl ?_
  refine s_astore_n d_Moment_signs_6 rfl (by decide) rfl ?_
  refine s_aload_n 0 d_Moment_signs_7 rfl rfl ?_
  obtain ⟨g2, h⟩ := h
  refine s_alenS (by decide) d_Moment_signs_8 g2 ?_
  refine s_istore_n d_Moment_signs_9 rfl (by decide) rfl ?_
  refine s_iconst d_Moment_signs_10 ?_
  refine s_istore d_Moment_signs_11 (by decide) rfl ?_
  refine wp_drop [3, 2, 1, 0] rfl ?_
  exact h
theorem e_Moment_signs {E : EV} {d : Nat} {Q : Option AV → St → Prop} {σ : St} (x0 : Int) (h : (sh σ x0 = some (4, 3)) ∧ (sa σ (σ.1 x0 0) 25) ∧ WP E m_Moment_signs (d + 1) 13 [(1, aI 0), (2, aP (σ.1 x0 0)), (3, aI (ln σ (σ.1 x0 0))), (4, aI 0)] [] σ Q) : WM E m_Moment_signs (d + 1) [aP x0] σ Q := s_meth (by decide) (Nat.le_of_ble_eq_true rfl) rfl (b_Moment_signs_0 x0 h)
theorem b_Moment_signs_13 {E : EV} {d : Nat} {Q : Option AV → St → Prop} {σ : St} (x1 x2 x3 x4 : Int) (h : (rI x4) ∧ (rI x3) ∧ ((x3 ≤ x4 → Q (some (aI x1)) σ) ∧ (¬ x3 ≤ x4 → (inb σ x2 25 x4) ∧ ((¬ (σ.1 x2 x4) = 0 → (sh σ (σ.1 x2 x4) = some (3, 2)) ∧ (WMi E m_Line_signs d [aP (σ.1 x2 x4)] σ (fun v4 σ4 => WP E m_Moment_signs (d + 1) 40 [(2, aP x2), (3, aI x3), (4, aI x4)] [aI v4, aI x1] σ4 Q))) ∧ ((σ.1 x2 x4) = 0 → WP E m_Moment_signs (d + 1) 40 [(2, aP x2), (3, aI x3), (4, aI x4)] [aI 0, aI x1] σ Q))))) : WP E m_Moment_signs (d + 1) 13 [(1, aI x1), (2, aP x2), (3, aI x3), (4, aI x4)] [] σ Q := by
  refine s_iload 3 d_Moment_signs_13 rfl ?_
  refine s_iload_n 2 d_Moment_signs_15 rfl rfl ?_
  obtain ⟨g1, h⟩ := h
  obtain ⟨g2, h⟩ := h
  refine s_icmp_ge d_Moment_signs_16 rfl g1 g2 (fun c => ?_) (fun c => ?_)
  · have h := h.1 c
    refine s_iload_n 0 d_Moment_signs_48 rfl rfl ?_
    exact s_ireturn d_Moment_signs_49 rfl h
  · have h := h.2 c
    refine s_aload_n 1 d_Moment_signs_19 rfl rfl ?_
    refine s_iload 3 d_Moment_signs_20 rfl ?_
    obtain ⟨g3, h⟩ := h
    refine s_aaloadv (v := σ.1 x2 x4) (by decide) d_Moment_signs_22 g3 rfl ?_
    refine s_astore d_Moment_signs_23 (by decide) rfl ?_
    refine s_iload_n 1 d_Moment_signs_25 rfl rfl ?_
    refine s_aload 0 d_Moment_signs_26 rfl ?_
    refine s_ifnonnull d_Moment_signs_28 rfl (fun c => ?_) (fun c => ?_)
    · have h := h.1 c
      refine s_aload 0 d_Moment_signs_35 rfl ?_
      obtain ⟨g5, h⟩ := h
      refine s_callV (as := []) (ci := 3) d_Moment_signs_37 ok_Line_signs lk_Moment_26 io_Line_signs so_Line_signs (by decide) rfl rfl rfl (Nat.le_of_ble_eq_true rfl) rfl g5 (WM.mono h ?_)
      rintro _ σ4 ⟨v4, rfl, hp, h⟩
      show WP E m_Moment_signs (d + 1) 40 [(5, aP (σ.1 x2 x4)), (1, aI x1), (2, aP x2), (3, aI x3), (4, aI x4)] [aI v4, aI x1] σ4 Q
      refine wp_drop [2, 3, 4] rfl ?_
      exact h
    · have h := h.2 c
      refine s_iconst d_Moment_signs_31 ?_
      refine s_goto d_Moment_signs_32 rfl ?_
      refine wp_drop [2, 3, 4] rfl ?_
      exact h
theorem b_Moment_signs_40 {E : EV} {d : Nat} {Q : Option AV → St → Prop} {σ : St} (x2 x3 x4 s0 s1 : Int) (h : WP E m_Moment_signs (d + 1) 13 [(1, aI (s0 + s1)), (2, aP x2), (3, aI x3), (4, aI (x4 + 1))] [] σ Q) : WP E m_Moment_signs (d + 1) 40 [(2, aP x2), (3, aI x3), (4, aI x4)] [aI s1, aI s0] σ Q := by
  refine s_iadd d_Moment_signs_40 ?_
  refine s_istore_n d_Moment_signs_41 rfl (by decide) rfl ?_
  refine s_iinc 3 d_Moment_signs_42 rfl (by decide) rfl ?_
  refine s_goto d_Moment_signs_45 rfl ?_
  refine wp_drop [1, 2, 3, 0] rfl ?_
  exact h
