theorem d_Table_init_0 : decode m_Table_init.2.1 0 = .ok (.aload_n 0, 1) := by decide +kernel
theorem d_Table_init_1 : decode m_Table_init.2.1 1 = .ok (.invokespecial 3, 3) := by decide +kernel
theorem d_Table_init_4 : decode m_Table_init.2.1 4 = .ok (.aload_n 0, 1) := by decide +kernel
theorem d_Table_init_5 : decode m_Table_init.2.1 5 = .ok (.bipush 26, 2) := by decide +kernel
theorem d_Table_init_7 : decode m_Table_init.2.1 7 = .ok (.newarray .byte, 2) := by decide +kernel
theorem d_Table_init_9 : decode m_Table_init.2.1 9 = .ok (.putfield 9, 3) := by decide +kernel
theorem d_Table_init_12 : decode m_Table_init.2.1 12 = .ok (.aload_n 0, 1) := by decide +kernel
theorem d_Table_init_13 : decode m_Table_init.2.1 13 = .ok (.bipush 26, 2) := by decide +kernel
theorem d_Table_init_15 : decode m_Table_init.2.1 15 = .ok (.newarray .byte, 2) := by decide +kernel
theorem d_Table_init_17 : decode m_Table_init.2.1 17 = .ok (.putfield 15, 3) := by decide +kernel
theorem d_Table_init_20 : decode m_Table_init.2.1 20 = .ok (.aload_n 0, 1) := by decide +kernel
theorem d_Table_init_21 : decode m_Table_init.2.1 21 = .ok (.bipush 26, 2) := by decide +kernel
theorem d_Table_init_23 : decode m_Table_init.2.1 23 = .ok (.newarray .byte, 2) := by decide +kernel
theorem d_Table_init_25 : decode m_Table_init.2.1 25 = .ok (.putfield 18, 3) := by decide +kernel
theorem d_Table_init_28 : decode m_Table_init.2.1 28 = .ok (.aload_n 0, 1) := by decide +kernel
theorem d_Table_init_29 : decode m_Table_init.2.1 29 = .ok (.bipush 26, 2) := by decide +kernel
theorem d_Table_init_31 : decode m_Table_init.2.1 31 = .ok (.newarray .byte, 2) := by decide +kernel
theorem d_Table_init_33 : decode m_Table_init.2.1 33 = .ok (.putfield 21, 3) := by decide +kernel
theorem d_Table_init_36 : decode m_Table_init.2.1 36 = .ok (.return_, 1) := by decide +kernel
theorem b_Table_init_0 {E : EV} {d : Nat} {Q : Option AV → St → Prop} {σ : St} (x0 : Int) (h : (0 < x0) ∧ (sh (al σ 21 26) x0 = some (8, 4)) ∧ WP E m_Table_init (d + 1) 12 [(0, aP x0)] [] (wr (al σ 21 26) x0 0 (nx σ)) Q) : WP E m_Table_init (d + 1) 0 [(0, aP x0)] [] σ Q := by
  refine s_aload_n 0 d_Table_init_0 rfl rfl ?_
  obtain ⟨g1, h⟩ := h
  refine s_objInit d_Table_init_1 lo_Table_3 lo_inst lo_code g1 (Nat.le_of_ble_eq_true rfl) ?_
  refine s_aload_n 0 d_Table_init_4 rfl rfl ?_
  refine s_bipush d_Table_init_5 (by decide) ?_
  refine s_newarray (kd := 21) d_Table_init_7 (by decide) ac_21 (by decide) ?_
  obtain ⟨g2, h⟩ := h
  refine s_putf 0 rfl d_Table_init_9 fl_Table_9 (fun C T h => by cases h; exact Or.inr ⟨rfl, rfl, rfl, fk_Table_9⟩) rfl (Or.inr (Or.inr (Or.inr (Or.inr ⟨_, rfl⟩)))) (fun h => nomatch h) g2 ?_
  exact h
theorem e_Table_init {E : EV} {d : Nat} {Q : Option AV → St → Prop} {σ : St} (x0 : Int) (h : (0 < x0) ∧ (sh (al σ 21 26) x0 = some (8, 4)) ∧ WP E m_Table_init (d + 1) 12 [(0, aP x0)] [] (wr (al σ 21 26) x0 0 (nx σ)) Q) : WM E m_Table_init (d + 1) [aP x0] σ Q := s_meth (by decide) (Nat.le_of_ble_eq_true rfl) rfl (b_Table_init_0 x0 h)
theorem b_Table_init_12 {E : EV} {d : Nat} {Q : Option AV → St → Prop} {σ : St} (x0 : Int) (h : (sh (al σ 21 26) x0 = some (8, 4)) ∧ WP E m_Table_init (d + 1) 20 [(0, aP x0)] [] (wr (al σ 21 26) x0 1 (nx σ)) Q) : WP E m_Table_init (d + 1) 12 [(0, aP x0)] [] σ Q := by
  refine s_aload_n 0 d_Table_init_12 rfl rfl ?_
  refine s_bipush d_Table_init_13 (by decide) ?_
  refine s_newarray (kd := 21) d_Table_init_15 (by decide) ac_21 (by decide) ?_
  obtain ⟨g1, h⟩ := h
  refine s_putf 1 rfl d_Table_init_17 fl_Table_15 (fun C T h => by cases h; exact Or.inr ⟨rfl, rfl, rfl, fk_Table_15⟩) rfl (Or.inr (Or.inr (Or.inr (Or.inr ⟨_, rfl⟩)))) (fun h => nomatch h) g1 ?_
  exact h
theorem b_Table_init_20 {E : EV} {d : Nat} {Q : Option AV → St → Prop} {σ : St} (x0 : Int) (h : (sh (al σ 21 26) x0 = some (8, 4)) ∧ WP E m_Table_init (d + 1) 28 [(0, aP x0)] [] (wr (al σ 21 26) x0 2 (nx σ)) Q) : WP E m_Table_init (d + 1) 20 [(0, aP x0)] [] σ Q := by
  refine s_aload_n 0 d_Table_init_20 rfl rfl ?_
  refine s_bipush d_Table_init_21 (by decide) ?_
  refine s_newarray (kd := 21) d_Table_init_23 (by decide) ac_21 (by decide) ?_
  obtain ⟨g1, h⟩ := h
  refine s_putf 2 rfl d_Table_init_25 fl_Table_18 (fun C T h => by cases h; exact Or.inr ⟨rfl, rfl, rfl, fk_Table_18⟩) rfl (Or.inr (Or.inr (Or.inr (Or.inr ⟨_, rfl⟩)))) (fun h => nomatch h) g1 ?_
  exact h
theorem b_Table_init_28 {E : EV} {d : Nat} {Q : Option AV → St → Prop} {σ : St} (x0 : Int) (h : (sh (al σ 21 26) x0 = some (8, 4)) ∧ WP E m_Table_init (d + 1) 36 [] [] (wr (al σ 21 26) x0 3 (nx σ)) Q) : WP E m_Table_init (d + 1) 28 [(0, aP x0)] [] σ Q := by
  refine s_aload_n 0 d_Table_init_28 rfl rfl ?_
  refine s_bipush d_Table_init_29 (by decide) ?_
  refine s_newarray (kd := 21) d_Table_init_31 (by decide) ac_21 (by decide) ?_
  obtain ⟨g1, h⟩ := h
  refine s_putf 3 rfl d_Table_init_33 fl_Table_21 (fun C T h => by cases h; exact Or.inr ⟨rfl, rfl, rfl, fk_Table_21⟩) rfl (Or.inr (Or.inr (Or.inr (Or.inr ⟨_, rfl⟩)))) (fun h => nomatch h) g1 ?_
  refine wp_drop [] rfl ?_
  exact h
theorem b_Table_init_36 {E : EV} {d : Nat} {Q : Option AV → St → Prop} {σ : St} (h : Q none σ) : WP E m_Table_init (d + 1) 36 [] [] σ Q := by
  exact s_return d_Table_init_36 rfl h
theorem d_Table_has_0 : decode m_Table_has.2.1 0 = .ok (.aload_n 0, 1) := by decide +kernel
theorem d_Table_has_1 : decode m_Table_has.2.1 1 = .ok (.getfield 9, 3) := by decide +kernel
theorem d_Table_has_4 : decode m_Table_has.2.1 4 = .ok (.iload_n 1, 1) := by decide +kernel
theorem d_Table_has_5 : decode m_Table_has.2.1 5 = .ok (.invokestatic 24, 3) := by decide +kernel
theorem d_Table_has_8 : decode m_Table_has.2.1 8 = .ok (.ifCond .le 7, 3) := by decide +kernel
theorem d_Table_has_11 : decode m_Table_has.2.1 11 = .ok (.iconst 1, 1) := by decide +kernel
theorem d_Table_has_12 : decode m_Table_has.2.1 12 = .ok (.goto 4, 3) := by decide +kernel
theorem d_Table_has_15 : decode m_Table_has.2.1 15 = .ok (.iconst 0, 1) := by decide +kernel
theorem d_Table_has_16 : decode m_Table_has.2.1 16 = .ok (.ireturn, 1) := by decide +kernel
theorem b_Table_has_0 {E : EV} {d : Nat} {Q : Option AV → St → Prop} {σ : St} (x0 x1 : Int) (h : (sh σ x0 = some (8, 4)) ∧ (WMi E m_Table_sizeIn d [aP (σ.1 x0 0), aI x1] σ (fun v2 σ2 => (rI v2) ∧ ((v2 ≤ 0 → Q (some (aI 0)) σ2) ∧ (¬ v2 ≤ 0 → Q (some (aI 1)) σ2))))) : WP E m_Table_has (d + 1) 0 [(0, aP x0), (1, aI x1)] [] σ Q := by
  refine s_aload_n 0 d_Table_has_0 rfl rfl ?_
  obtain ⟨g1, h⟩ := h
  refine s_getF (v := σ.1 x0 0) d_Table_has_1 fl_Table_9 rfl g1 rfl ?_
  refine s_iload_n 1 d_Table_has_4 rfl rfl ?_
  refine s_callS (as := [aP (σ.1 x0 0), aI x1]) d_Table_has_5 ok_Table_sizeIn lk_Table_24 to_Table_sizeIn rfl (Nat.le_of_ble_eq_true rfl) rfl (WM.mono h ?_)
  rintro _ σ2 ⟨v2, rfl, hp, h⟩
  show WP E m_Table_has (d + 1) 8 [(0, aP x0), (1, aI x1)] [aI v2] σ2 Q
  obtain ⟨g3, h⟩ := h
  refine s_if_le d_Table_has_8 rfl g3 (fun c => ?_) (fun c => ?_)
  · have h := h.1 c
    refine s_iconst d_Table_has_15 ?_
    exact s_zreturn d_Table_has_16 rfl (by decide) h
  · have h := h.2 c
    refine s_iconst d_Table_has_11 ?_
    refine s_goto d_Table_has_12 rfl ?_
    exact s_zreturn d_Table_has_16 rfl (by decide) h
theorem e_Table_has {E : EV} {d : Nat} {Q : Option AV → St → Prop} {σ : St} (x0 x1 : Int) (h : (sh σ x0 = some (8, 4)) ∧ (WMi E m_Table_sizeIn d [aP (σ.1 x0 0), aI x1] σ (fun v2 σ2 => (rI v2) ∧ ((v2 ≤ 0 → Q (some (aI 0)) σ2) ∧ (¬ v2 ≤ 0 → Q (some (aI 1)) σ2))))) : WM E m_Table_has (d + 1) [aP x0, aI x1] σ Q := s_meth (by decide) (Nat.le_of_ble_eq_true rfl) rfl (b_Table_has_0 x0 x1 h)
theorem d_Table_sizeIn_0 : decode m_Table_sizeIn.2.1 0 = .ok (.iload_n 1, 1) := by decide +kernel
theorem d_Table_sizeIn_1 : decode m_Table_sizeIn.2.1 1 = .ok (.ifCond .lt 15, 3) := by decide +kernel
theorem d_Table_sizeIn_4 : decode m_Table_sizeIn.2.1 4 = .ok (.iload_n 1, 1) := by decide +kernel
theorem d_Table_sizeIn_5 : decode m_Table_sizeIn.2.1 5 = .ok (.aload_n 0, 1) := by decide +kernel
theorem d_Table_sizeIn_6 : decode m_Table_sizeIn.2.1 6 = .ok (.arraylength, 1) := by decide +kernel
theorem d_Table_sizeIn_7 : decode m_Table_sizeIn.2.1 7 = .ok (.if_icmp .ge 9, 3) := by decide +kernel
theorem d_Table_sizeIn_10 : decode m_Table_sizeIn.2.1 10 = .ok (.aload_n 0, 1) := by decide +kernel
theorem d_Table_sizeIn_11 : decode m_Table_sizeIn.2.1 11 = .ok (.iload_n 1, 1) := by decide +kernel
theorem d_Table_sizeIn_12 : decode m_Table_sizeIn.2.1 12 = .ok (.baload, 1) := by decide +kernel
theorem d_Table_sizeIn_13 : decode m_Table_sizeIn.2.1 13 = .ok (.goto 4, 3) := by decide +kernel
theorem d_Table_sizeIn_16 : decode m_Table_sizeIn.2.1 16 = .ok (.iconst 0, 1) := by decide +kernel
theorem d_Table_sizeIn_17 : decode m_Table_sizeIn.2.1 17 = .ok (.ireturn, 1) := by decide +kernel
theorem b_Table_sizeIn_0 {E : EV} {d : Nat} {Q : Option AV → St → Prop} {σ : St} (x0 x1 : Int) (h : (rI x1) ∧ ((x1 < 0 → Q (some (aI 0)) σ) ∧ (¬ x1 < 0 → (sa σ x0 21) ∧ (rI x1) ∧ (rI (ln σ x0)) ∧ (((ln σ x0) ≤ x1 → Q (some (aI 0)) σ) ∧ (¬ (ln σ x0) ≤ x1 → (inb σ x0 21 x1) ∧ Q (some (aI (σ.1 x0 x1))) σ))))) : WP E m_Table_sizeIn d 0 [(0, aP x0), (1, aI x1)] [] σ Q := by
  refine s_iload_n 1 d_Table_sizeIn_0 rfl rfl ?_
  obtain ⟨g1, h⟩ := h
  refine s_if_lt d_Table_sizeIn_1 rfl g1 (fun c => ?_) (fun c => ?_)
  · have h := h.1 c
    refine s_iconst d_Table_sizeIn_16 ?_
    exact s_ireturn d_Table_sizeIn_17 rfl h
  · have h := h.2 c
    refine s_iload_n 1 d_Table_sizeIn_4 rfl rfl ?_
    refine s_aload_n 0 d_Table_sizeIn_5 rfl rfl ?_
    obtain ⟨g2, h⟩ := h
    refine s_alenS (by decide) d_Table_sizeIn_6 g2 ?_
    obtain ⟨g3, h⟩ := h
    obtain ⟨g4, h⟩ := h
    refine s_icmp_ge d_Table_sizeIn_7 rfl g3 g4 (fun c => ?_) (fun c => ?_)
    · have h := h.1 c
      refine s_iconst d_Table_sizeIn_16 ?_
      exact s_ireturn d_Table_sizeIn_17 rfl h
    · have h := h.2 c
      refine s_aload_n 0 d_Table_sizeIn_10 rfl rfl ?_
      refine s_iload_n 1 d_Table_sizeIn_11 rfl rfl ?_
      obtain ⟨g5, h⟩ := h
      refine s_baloadv (v := σ.1 x0 x1) (by decide) d_Table_sizeIn_12 g5 rfl ?_
      refine s_goto d_Table_sizeIn_13 rfl ?_
      exact s_ireturn d_Table_sizeIn_17 rfl h
theorem e_Table_sizeIn {E : EV} {d : Nat} {Q : Option AV → St → Prop} {σ : St} (x0 x1 : Int) (h : (rI x1) ∧ ((x1 < 0 → Q (some (aI 0)) σ) ∧ (¬ x1 < 0 → (sa σ x0 21) ∧ (rI x1) ∧ (rI (ln σ x0)) ∧ (((ln σ x0) ≤ x1 → Q (some (aI 0)) σ) ∧ (¬ (ln σ x0) ≤ x1 → (inb σ x0 21 x1) ∧ Q (some (aI (σ.1 x0 x1))) σ))))) : WM E m_Table_sizeIn d [aP x0, aI x1] σ Q := s_meth (by decide) (Nat.le_of_ble_eq_true rfl) rfl (b_Table_sizeIn_0 x0 x1 h)
theorem d_Table_told_0 : decode m_Table_told.2.1 0 = .ok (.aload_n 0, 1) := by decide +kernel
theorem d_Table_told_1 : decode m_Table_told.2.1 1 = .ok (.getfield 9, 3) := by decide +kernel
theorem d_Table_told_4 : decode m_Table_told.2.1 4 = .ok (.invokestatic 28, 3) := by decide +kernel
theorem d_Table_told_7 : decode m_Table_told.2.1 7 = .ok (.ireturn, 1) := by decide +kernel
theorem b_Table_told_0 {E : EV} {d : Nat} {Q : Option AV → St → Prop} {σ : St} (x0 : Int) (h : (sh σ x0 = some (8, 4)) ∧ (WMi E m_Table_filled d [aP (σ.1 x0 0)] σ (fun v2 σ2 => Q (some (aI v2)) σ2))) : WP E m_Table_told (d + 1) 0 [(0, aP x0)] [] σ Q := by
  refine s_aload_n 0 d_Table_told_0 rfl rfl ?_
  obtain ⟨g1, h⟩ := h
  refine s_getF (v := σ.1 x0 0) d_Table_told_1 fl_Table_9 rfl g1 rfl ?_
  refine s_callS (as := [aP (σ.1 x0 0)]) d_Table_told_4 ok_Table_filled lk_Table_28 to_Table_filled rfl (Nat.le_of_ble_eq_true rfl) rfl (WM.mono h ?_)
  rintro _ σ2 ⟨v2, rfl, hp, h⟩
  show WP E m_Table_told (d + 1) 7 [(0, aP x0)] [aI v2] σ2 Q
  exact s_ireturn d_Table_told_7 rfl h
theorem e_Table_told {E : EV} {d : Nat} {Q : Option AV → St → Prop} {σ : St} (x0 : Int) (h : (sh σ x0 = some (8, 4)) ∧ (WMi E m_Table_filled d [aP (σ.1 x0 0)] σ (fun v2 σ2 => Q (some (aI v2)) σ2))) : WM E m_Table_told (d + 1) [aP x0] σ Q := s_meth (by decide) (Nat.le_of_ble_eq_true rfl) rfl (b_Table_told_0 x0 h)
theorem d_Table_filled_0 : decode m_Table_filled.2.1 0 = .ok (.iconst 0, 1) := by decide +kernel
theorem d_Table_filled_1 : decode m_Table_filled.2.1 1 = .ok (.istore_n 1, 1) := by decide +kernel
theorem d_Table_filled_2 : decode m_Table_filled.2.1 2 = .ok (.aload_n 0, 1) := by decide +kernel
theorem d_Table_filled_3 : decode m_Table_filled.2.1 3 = .ok (.astore_n 2, 1) := by decide +kernel
theorem d_Table_filled_4 : decode m_Table_filled.2.1 4 = .ok (.aload_n 2, 1) := by decide +kernel
theorem d_Table_filled_5 : decode m_Table_filled.2.1 5 = .ok (.arraylength, 1) := by decide +kernel
theorem d_Table_filled_6 : decode m_Table_filled.2.1 6 = .ok (.istore_n 3, 1) := by decide +kernel
theorem d_Table_filled_7 : decode m_Table_filled.2.1 7 = .ok (.iconst 0, 1) := by decide +kernel
theorem d_Table_filled_8 : decode m_Table_filled.2.1 8 = .ok (.istore 4, 2) := by decide +kernel
theorem d_Table_filled_10 : decode m_Table_filled.2.1 10 = .ok (.iload 4, 2) := by decide +kernel
theorem d_Table_filled_12 : decode m_Table_filled.2.1 12 = .ok (.iload_n 3, 1) := by decide +kernel
theorem d_Table_filled_13 : decode m_Table_filled.2.1 13 = .ok (.if_icmp .ge 28, 3) := by decide +kernel
theorem d_Table_filled_16 : decode m_Table_filled.2.1 16 = .ok (.aload_n 2, 1) := by decide +kernel
theorem d_Table_filled_17 : decode m_Table_filled.2.1 17 = .ok (.iload 4, 2) := by decide +kernel
theorem d_Table_filled_19 : decode m_Table_filled.2.1 19 = .ok (.baload, 1) := by decide +kernel
theorem d_Table_filled_20 : decode m_Table_filled.2.1 20 = .ok (.istore 5, 2) := by decide +kernel
theorem d_Table_filled_22 : decode m_Table_filled.2.1 22 = .ok (.iload_n 1, 1) := by decide +kernel
theorem d_Table_filled_23 : decode m_Table_filled.2.1 23 = .ok (.iload 5, 2) := by decide +kernel
theorem d_Table_filled_25 : decode m_Table_filled.2.1 25 = .ok (.ifCond .le 7, 3) := by decide +kernel
theorem d_Table_filled_28 : decode m_Table_filled.2.1 28 = .ok (.iconst 1, 1) := by decide +kernel
theorem d_Table_filled_29 : decode m_Table_filled.2.1 29 = .ok (.goto 4, 3) := by decide +kernel
theorem d_Table_filled_32 : decode m_Table_filled.2.1 32 = .ok (.iconst 0, 1) := by decide +kernel
theorem d_Table_filled_33 : decode m_Table_filled.2.1 33 = .ok (.iadd, 1) := by decide +kernel
theorem d_Table_filled_34 : decode m_Table_filled.2.1 34 = .ok (.istore_n 1, 1) := by decide +kernel
theorem d_Table_filled_35 : decode m_Table_filled.2.1 35 = .ok (.iinc 4 1, 3) := by decide +kernel
theorem d_Table_filled_38 : decode m_Table_filled.2.1 38 = .ok (.goto (-28), 3) := by decide +kernel
theorem d_Table_filled_41 : decode m_Table_filled.2.1 41 = .ok (.iload_n 1, 1) := by decide +kernel
theorem d_Table_filled_42 : decode m_Table_filled.2.1 42 = .ok (.ireturn, 1) := by decide +kernel
theorem b_Table_filled_0 {E : EV} {d : Nat} {Q : Option AV → St → Prop} {σ : St} (x0 : Int) (h : (sa σ x0 21) ∧ WP E m_Table_filled d 10 [(1, aI 0), (2, aP x0), (3, aI (ln σ x0)), (4, aI 0)] [] σ Q) : WP E m_Table_filled d 0 [(0, aP x0)] [] σ Q := by
  refine s_iconst d_Table_filled_0 ?_
  refine s_istore_n d_Table_filled_1 rfl (by decide) rfl ?_
  refine s_aload_n 1 d_Table_filled_2 rfl rfl ?_
  refine s_astore_n d_Table_filled_3 rfl (by decide) rfl ?_
  refine s_aload_n 0 d_Table_filled_4 rfl rfl ?_
  obtain ⟨g1, h⟩ := h
  refine s_alenS (by decide) d_Table_filled_5 g1 ?_
  refine s_istore_n d_Table_filled_6 rfl (by decide) rfl ?_
  refine s_iconst d_Table_filled_7 ?_
  refine s_istore d_Table_filled_8 (by decide) rfl ?_
  refine wp_drop [3, 2, 1, 0] rfl ?_
  exact h
theorem e_Table_filled {E : EV} {d : Nat} {Q : Option AV → St → Prop} {σ : St} (x0 : Int) (h : (sa σ x0 21) ∧ WP E m_Table_filled d 10 [(1, aI 0), (2, aP x0), (3, aI (ln σ x0)), (4, aI 0)] [] σ Q) : WM E m_Table_filled d [aP x0] σ Q := s_meth (by decide) (Nat.le_of_ble_eq_true rfl) rfl (b_Table_filled_0 x0 h)
theorem b_Table_filled_10 {E : EV} {d : Nat} {Q : Option AV → St → Prop} {σ : St} (x1 x2 x3 x4 : Int) (h : (rI x4) ∧ (rI x3) ∧ ((x3 ≤ x4 → Q (some (aI x1)) σ) ∧ (¬ x3 ≤ x4 → (inb σ x2 21 x4) ∧ (rI (σ.1 x2 x4)) ∧ (((σ.1 x2 x4) ≤ 0 → WP E m_Table_filled d 33 [(2, aP x2), (3, aI x3), (4, aI x4)] [aI 0, aI x1] σ Q) ∧ (¬ (σ.1 x2 x4) ≤ 0 → WP E m_Table_filled d 33 [(2, aP x2), (3, aI x3), (4, aI x4)] [aI 1, aI x1] σ Q))))) : WP E m_Table_filled d 10 [(1, aI x1), (2, aP x2), (3, aI x3), (4, aI x4)] [] σ Q := by
  refine s_iload 3 d_Table_filled_10 rfl ?_
  refine s_iload_n 2 d_Table_filled_12 rfl rfl ?_
  obtain ⟨g1, h⟩ := h
  obtain ⟨g2, h⟩ := h
  refine s_icmp_ge d_Table_filled_13 rfl g1 g2 (fun c => ?_) (fun c => ?_)
  · have h := h.1 c
    refine s_iload_n 0 d_Table_filled_41 rfl rfl ?_
    exact s_ireturn d_Table_filled_42 rfl h
  · have h := h.2 c
    refine s_aload_n 1 d_Table_filled_16 rfl rfl ?_
    refine s_iload 3 d_Table_filled_17 rfl ?_
    obtain ⟨g3, h⟩ := h
    refine s_baloadv (v := σ.1 x2 x4) (by decide) d_Table_filled_19 g3 rfl ?_
    refine s_istore d_Table_filled_20 (by decide) rfl ?_
    refine s_iload_n 1 d_Table_filled_22 rfl rfl ?_
    refine s_iload 0 d_Table_filled_23 rfl ?_
    obtain ⟨g4, h⟩ := h
    refine s_if_le d_Table_filled_25 rfl g4 (fun c => ?_) (fun c => ?_)
    · have h := h.1 c
      refine s_iconst d_Table_filled_32 ?_
      refine wp_drop [2, 3, 4] rfl ?_
      exact h
    · have h := h.2 c
      refine s_iconst d_Table_filled_28 ?_
      refine s_goto d_Table_filled_29 rfl ?_
      refine wp_drop [2, 3, 4] rfl ?_
      exact h
theorem b_Table_filled_33 {E : EV} {d : Nat} {Q : Option AV → St → Prop} {σ : St} (x2 x3 x4 s0 s1 : Int) (h : WP E m_Table_filled d 10 [(1, aI (s0 + s1)), (2, aP x2), (3, aI x3), (4, aI (x4 + 1))] [] σ Q) : WP E m_Table_filled d 33 [(2, aP x2), (3, aI x3), (4, aI x4)] [aI s1, aI s0] σ Q := by
  refine s_iadd d_Table_filled_33 ?_
  refine s_istore_n d_Table_filled_34 rfl (by decide) rfl ?_
  refine s_iinc 3 d_Table_filled_35 rfl (by decide) rfl ?_
  refine s_goto d_Table_filled_38 rfl ?_
  refine wp_drop [1, 2, 3, 0] rfl ?_
  exact h
theorem d_Table_tell_0 : decode m_Table_tell.2.1 0 = .ok (.iload_n 1, 1) := by decide +kernel
theorem d_Table_tell_1 : decode m_Table_tell.2.1 1 = .ok (.ifCond .lt 25, 3) := by decide +kernel
theorem d_Table_tell_4 : decode m_Table_tell.2.1 4 = .ok (.iload_n 1, 1) := by decide +kernel
theorem d_Table_tell_5 : decode m_Table_tell.2.1 5 = .ok (.bipush 26, 2) := by decide +kernel
theorem d_Table_tell_7 : decode m_Table_tell.2.1 7 = .ok (.if_icmp .ge 19, 3) := by decide +kernel
theorem d_Table_tell_10 : decode m_Table_tell.2.1 10 = .ok (.aload_n 0, 1) := by decide +kernel
theorem d_Table_tell_11 : decode m_Table_tell.2.1 11 = .ok (.getfield 9, 3) := by decide +kernel
theorem d_Table_tell_14 : decode m_Table_tell.2.1 14 = .ok (.iload_n 1, 1) := by decide +kernel
theorem d_Table_tell_15 : decode m_Table_tell.2.1 15 = .ok (.iload_n 2, 1) := by decide +kernel
theorem d_Table_tell_16 : decode m_Table_tell.2.1 16 = .ok (.i2b, 1) := by decide +kernel
theorem d_Table_tell_17 : decode m_Table_tell.2.1 17 = .ok (.bastore, 1) := by decide +kernel
theorem d_Table_tell_18 : decode m_Table_tell.2.1 18 = .ok (.aload_n 0, 1) := by decide +kernel
theorem d_Table_tell_19 : decode m_Table_tell.2.1 19 = .ok (.getfield 15, 3) := by decide +kernel
theorem d_Table_tell_22 : decode m_Table_tell.2.1 22 = .ok (.iload_n 1, 1) := by decide +kernel
theorem d_Table_tell_23 : decode m_Table_tell.2.1 23 = .ok (.iload_n 3, 1) := by decide +kernel
theorem d_Table_tell_24 : decode m_Table_tell.2.1 24 = .ok (.i2b, 1) := by decide +kernel
theorem d_Table_tell_25 : decode m_Table_tell.2.1 25 = .ok (.bastore, 1) := by decide +kernel
theorem d_Table_tell_26 : decode m_Table_tell.2.1 26 = .ok (.return_, 1) := by decide +kernel
theorem b_Table_tell_0 {E : EV} {d : Nat} {Q : Option AV → St → Prop} {σ : St} (x0 x1 x2 x3 : Int) (h : (rI x1) ∧ ((x1 < 0 → Q none σ) ∧ (¬ x1 < 0 → (rI x1) ∧ ((26 ≤ x1 → Q none σ) ∧ (¬ 26 ≤ x1 → (sh σ x0 = some (8, 4)) ∧ (inb σ (σ.1 x0 0) 21 x1) ∧ (-128 ≤ (Int.bmod x2 256) ∧ (Int.bmod x2 256) ≤ 127) ∧ (sh (wr σ (σ.1 x0 0) x1 (Int.bmod x2 256)) x0 = some (8, 4)) ∧ (inb (wr σ (σ.1 x0 0) x1 (Int.bmod x2 256)) ((wr σ (σ.1 x0 0) x1 (Int.bmod x2 256)).1 x0 1) 21 x1) ∧ (-128 ≤ (Int.bmod x3 256) ∧ (Int.bmod x3 256) ≤ 127) ∧ Q none (wr (wr σ (σ.1 x0 0) x1 (Int.bmod x2 256)) ((wr σ (σ.1 x0 0) x1 (Int.bmod x2 256)).1 x0 1) x1 (Int.bmod x3 256))))))) : WP E m_Table_tell d 0 [(0, aP x0), (1, aI x1), (2, aI x2), (3, aI x3)] [] σ Q := by
  refine s_iload_n 1 d_Table_tell_0 rfl rfl ?_
  obtain ⟨g1, h⟩ := h
  refine s_if_lt d_Table_tell_1 rfl g1 (fun c => ?_) (fun c => ?_)
  · have h := h.1 c
    exact s_return d_Table_tell_26 rfl h
  · have h := h.2 c
    refine s_iload_n 1 d_Table_tell_4 rfl rfl ?_
    refine s_bipush d_Table_tell_5 (by decide) ?_
    obtain ⟨g2, h⟩ := h
    refine s_icmp_ge d_Table_tell_7 rfl g2 (by decide) (fun c => ?_) (fun c => ?_)
    · have h := h.1 c
      exact s_return d_Table_tell_26 rfl h
    · have h := h.2 c
      refine s_aload_n 0 d_Table_tell_10 rfl rfl ?_
      obtain ⟨g3, h⟩ := h
      refine s_getF (v := σ.1 x0 0) d_Table_tell_11 fl_Table_9 rfl g3 rfl ?_
      refine s_iload_n 1 d_Table_tell_14 rfl rfl ?_
      refine s_iload_n 2 d_Table_tell_15 rfl rfl ?_
      refine s_i2b d_Table_tell_16 ?_
      obtain ⟨g4, h⟩ := h
      obtain ⟨g5, h⟩ := h
      refine s_bastore (Or.inl ⟨rfl, g5⟩) d_Table_tell_17 g4 ?_
      refine s_aload_n 0 d_Table_tell_18 rfl rfl ?_
      obtain ⟨g6, h⟩ := h
      refine s_getF (v := (wr σ (σ.1 x0 0) x1 (Int.bmod x2 256)).1 x0 1) d_Table_tell_19 fl_Table_15 rfl g6 rfl ?_
      refine s_iload_n 1 d_Table_tell_22 rfl rfl ?_
      refine s_iload_n 3 d_Table_tell_23 rfl rfl ?_
      refine s_i2b d_Table_tell_24 ?_
      obtain ⟨g7, h⟩ := h
      obtain ⟨g8, h⟩ := h
      refine s_bastore (Or.inl ⟨rfl, g8⟩) d_Table_tell_25 g7 ?_
      exact s_return d_Table_tell_26 rfl h
theorem e_Table_tell {E : EV} {d : Nat} {Q : Option AV → St → Prop} {σ : St} (x0 x1 x2 x3 : Int) (h : (rI x1) ∧ ((x1 < 0 → Q none σ) ∧ (¬ x1 < 0 → (rI x1) ∧ ((26 ≤ x1 → Q none σ) ∧ (¬ 26 ≤ x1 → (sh σ x0 = some (8, 4)) ∧ (inb σ (σ.1 x0 0) 21 x1) ∧ (-128 ≤ (Int.bmod x2 256) ∧ (Int.bmod x2 256) ≤ 127) ∧ (sh (wr σ (σ.1 x0 0) x1 (Int.bmod x2 256)) x0 = some (8, 4)) ∧ (inb (wr σ (σ.1 x0 0) x1 (Int.bmod x2 256)) ((wr σ (σ.1 x0 0) x1 (Int.bmod x2 256)).1 x0 1) 21 x1) ∧ (-128 ≤ (Int.bmod x3 256) ∧ (Int.bmod x3 256) ≤ 127) ∧ Q none (wr (wr σ (σ.1 x0 0) x1 (Int.bmod x2 256)) ((wr σ (σ.1 x0 0) x1 (Int.bmod x2 256)).1 x0 1) x1 (Int.bmod x3 256))))))) : WM E m_Table_tell d [aP x0, aI x1, aI x2, aI x3] σ Q := s_meth (by decide) (Nat.le_of_ble_eq_true rfl) rfl (b_Table_tell_0 x0 x1 x2 x3 h)
theorem d_Table_tellCore_0 : decode m_Table_tellCore.2.1 0 = .ok (.iload_n 1, 1) := by decide +kernel
theorem d_Table_tellCore_1 : decode m_Table_tellCore.2.1 1 = .ok (.ifCond .lt 25, 3) := by decide +kernel
theorem d_Table_tellCore_4 : decode m_Table_tellCore.2.1 4 = .ok (.iload_n 1, 1) := by decide +kernel
theorem d_Table_tellCore_5 : decode m_Table_tellCore.2.1 5 = .ok (.bipush 26, 2) := by decide +kernel
theorem d_Table_tellCore_7 : decode m_Table_tellCore.2.1 7 = .ok (.if_icmp .ge 19, 3) := by decide +kernel
theorem d_Table_tellCore_10 : decode m_Table_tellCore.2.1 10 = .ok (.aload_n 0, 1) := by decide +kernel
theorem d_Table_tellCore_11 : decode m_Table_tellCore.2.1 11 = .ok (.getfield 18, 3) := by decide +kernel
theorem d_Table_tellCore_14 : decode m_Table_tellCore.2.1 14 = .ok (.iload_n 1, 1) := by decide +kernel
theorem d_Table_tellCore_15 : decode m_Table_tellCore.2.1 15 = .ok (.iload_n 2, 1) := by decide +kernel
theorem d_Table_tellCore_16 : decode m_Table_tellCore.2.1 16 = .ok (.i2b, 1) := by decide +kernel
theorem d_Table_tellCore_17 : decode m_Table_tellCore.2.1 17 = .ok (.bastore, 1) := by decide +kernel
theorem d_Table_tellCore_18 : decode m_Table_tellCore.2.1 18 = .ok (.aload_n 0, 1) := by decide +kernel
theorem d_Table_tellCore_19 : decode m_Table_tellCore.2.1 19 = .ok (.getfield 21, 3) := by decide +kernel
theorem d_Table_tellCore_22 : decode m_Table_tellCore.2.1 22 = .ok (.iload_n 1, 1) := by decide +kernel
theorem d_Table_tellCore_23 : decode m_Table_tellCore.2.1 23 = .ok (.iload_n 3, 1) := by decide +kernel
theorem d_Table_tellCore_24 : decode m_Table_tellCore.2.1 24 = .ok (.i2b, 1) := by decide +kernel
theorem d_Table_tellCore_25 : decode m_Table_tellCore.2.1 25 = .ok (.bastore, 1) := by decide +kernel
theorem d_Table_tellCore_26 : decode m_Table_tellCore.2.1 26 = .ok (.return_, 1) := by decide +kernel
theorem b_Table_tellCore_0 {E : EV} {d : Nat} {Q : Option AV → St → Prop} {σ : St} (x0 x1 x2 x3 : Int) (h : (rI x1) ∧ ((x1 < 0 → Q none σ) ∧ (¬ x1 < 0 → (rI x1) ∧ ((26 ≤ x1 → Q none σ) ∧ (¬ 26 ≤ x1 → (sh σ x0 = some (8, 4)) ∧ (inb σ (σ.1 x0 2) 21 x1) ∧ (-128 ≤ (Int.bmod x2 256) ∧ (Int.bmod x2 256) ≤ 127) ∧ (sh (wr σ (σ.1 x0 2) x1 (Int.bmod x2 256)) x0 = some (8, 4)) ∧ (inb (wr σ (σ.1 x0 2) x1 (Int.bmod x2 256)) ((wr σ (σ.1 x0 2) x1 (Int.bmod x2 256)).1 x0 3) 21 x1) ∧ (-128 ≤ (Int.bmod x3 256) ∧ (Int.bmod x3 256) ≤ 127) ∧ Q none (wr (wr σ (σ.1 x0 2) x1 (Int.bmod x2 256)) ((wr σ (σ.1 x0 2) x1 (Int.bmod x2 256)).1 x0 3) x1 (Int.bmod x3 256))))))) : WP E m_Table_tellCore d 0 [(0, aP x0), (1, aI x1), (2, aI x2), (3, aI x3)] [] σ Q := by
  refine s_iload_n 1 d_Table_tellCore_0 rfl rfl ?_
  obtain ⟨g1, h⟩ := h
  refine s_if_lt d_Table_tellCore_1 rfl g1 (fun c => ?_) (fun c => ?_)
  · have h := h.1 c
    exact s_return d_Table_tellCore_26 rfl h
  · have h := h.2 c
    refine s_iload_n 1 d_Table_tellCore_4 rfl rfl ?_
    refine s_bipush d_Table_tellCore_5 (by decide) ?_
    obtain ⟨g2, h⟩ := h
    refine s_icmp_ge d_Table_tellCore_7 rfl g2 (by decide) (fun c => ?_) (fun c => ?_)
    · have h := h.1 c
      exact s_return d_Table_tellCore_26 rfl h
    · have h := h.2 c
      refine s_aload_n 0 d_Table_tellCore_10 rfl rfl ?_
      obtain ⟨g3, h⟩ := h
      refine s_getF (v := σ.1 x0 2) d_Table_tellCore_11 fl_Table_18 rfl g3 rfl ?_
      refine s_iload_n 1 d_Table_tellCore_14 rfl rfl ?_
      refine s_iload_n 2 d_Table_tellCore_15 rfl rfl ?_
      refine s_i2b d_Table_tellCore_16 ?_
      obtain ⟨g4, h⟩ := h
      obtain ⟨g5, h⟩ := h
      refine s_bastore (Or.inl ⟨rfl, g5⟩) d_Table_tellCore_17 g4 ?_
      refine s_aload_n 0 d_Table_tellCore_18 rfl rfl ?_
      obtain ⟨g6, h⟩ := h
      refine s_getF (v := (wr σ (σ.1 x0 2) x1 (Int.bmod x2 256)).1 x0 3) d_Table_tellCore_19 fl_Table_21 rfl g6 rfl ?_
      refine s_iload_n 1 d_Table_tellCore_22 rfl rfl ?_
      refine s_iload_n 3 d_Table_tellCore_23 rfl rfl ?_
      refine s_i2b d_Table_tellCore_24 ?_
      obtain ⟨g7, h⟩ := h
      obtain ⟨g8, h⟩ := h
      refine s_bastore (Or.inl ⟨rfl, g8⟩) d_Table_tellCore_25 g7 ?_
      exact s_return d_Table_tellCore_26 rfl h
theorem e_Table_tellCore {E : EV} {d : Nat} {Q : Option AV → St → Prop} {σ : St} (x0 x1 x2 x3 : Int) (h : (rI x1) ∧ ((x1 < 0 → Q none σ) ∧ (¬ x1 < 0 → (rI x1) ∧ ((26 ≤ x1 → Q none σ) ∧ (¬ 26 ≤ x1 → (sh σ x0 = some (8, 4)) ∧ (inb σ (σ.1 x0 2) 21 x1) ∧ (-128 ≤ (Int.bmod x2 256) ∧ (Int.bmod x2 256) ≤ 127) ∧ (sh (wr σ (σ.1 x0 2) x1 (Int.bmod x2 256)) x0 = some (8, 4)) ∧ (inb (wr σ (σ.1 x0 2) x1 (Int.bmod x2 256)) ((wr σ (σ.1 x0 2) x1 (Int.bmod x2 256)).1 x0 3) 21 x1) ∧ (-128 ≤ (Int.bmod x3 256) ∧ (Int.bmod x3 256) ≤ 127) ∧ Q none (wr (wr σ (σ.1 x0 2) x1 (Int.bmod x2 256)) ((wr σ (σ.1 x0 2) x1 (Int.bmod x2 256)).1 x0 3) x1 (Int.bmod x3 256))))))) : WM E m_Table_tellCore d [aP x0, aI x1, aI x2, aI x3] σ Q := s_meth (by decide) (Nat.le_of_ble_eq_true rfl) rfl (b_Table_tellCore_0 x0 x1 x2 x3 h)
theorem d_Table_hasCore_0 : decode m_Table_hasCore.2.1 0 = .ok (.aload_n 0, 1) := by decide +kernel
theorem d_Table_hasCore_1 : decode m_Table_hasCore.2.1 1 = .ok (.getfield 18, 3) := by decide +kernel
theorem d_Table_hasCore_4 : decode m_Table_hasCore.2.1 4 = .ok (.iload_n 1, 1) := by decide +kernel
theorem d_Table_hasCore_5 : decode m_Table_hasCore.2.1 5 = .ok (.invokestatic 24, 3) := by decide +kernel
theorem d_Table_hasCore_8 : decode m_Table_hasCore.2.1 8 = .ok (.ifCond .le 7, 3) := by decide +kernel
theorem d_Table_hasCore_11 : decode m_Table_hasCore.2.1 11 = .ok (.iconst 1, 1) := by decide +kernel
theorem d_Table_hasCore_12 : decode m_Table_hasCore.2.1 12 = .ok (.goto 4, 3) := by decide +kernel
theorem d_Table_hasCore_15 : decode m_Table_hasCore.2.1 15 = .ok (.iconst 0, 1) := by decide +kernel
theorem d_Table_hasCore_16 : decode m_Table_hasCore.2.1 16 = .ok (.ireturn, 1) := by decide +kernel
theorem b_Table_hasCore_0 {E : EV} {d : Nat} {Q : Option AV → St → Prop} {σ : St} (x0 x1 : Int) (h : (sh σ x0 = some (8, 4)) ∧ (WMi E m_Table_sizeIn d [aP (σ.1 x0 2), aI x1] σ (fun v2 σ2 => (rI v2) ∧ ((v2 ≤ 0 → Q (some (aI 0)) σ2) ∧ (¬ v2 ≤ 0 → Q (some (aI 1)) σ2))))) : WP E m_Table_hasCore (d + 1) 0 [(0, aP x0), (1, aI x1)] [] σ Q := by
  refine s_aload_n 0 d_Table_hasCore_0 rfl rfl ?_
  obtain ⟨g1, h⟩ := h
  refine s_getF (v := σ.1 x0 2) d_Table_hasCore_1 fl_Table_18 rfl g1 rfl ?_
  refine s_iload_n 1 d_Table_hasCore_4 rfl rfl ?_
  refine s_callS (as := [aP (σ.1 x0 2), aI x1]) d_Table_hasCore_5 ok_Table_sizeIn lk_Table_24 to_Table_sizeIn rfl (Nat.le_of_ble_eq_true rfl) rfl (WM.mono h ?_)
  rintro _ σ2 ⟨v2, rfl, hp, h⟩
  show WP E m_Table_hasCore (d + 1) 8 [(0, aP x0), (1, aI x1)] [aI v2] σ2 Q
  obtain ⟨g3, h⟩ := h
  refine s_if_le d_Table_hasCore_8 rfl g3 (fun c => ?_) (fun c => ?_)
  · have h := h.1 c
    refine s_iconst d_Table_hasCore_15 ?_
    exact s_zreturn d_Table_hasCore_16 rfl (by decide) h
  · have h := h.2 c
    refine s_iconst d_Table_hasCore_11 ?_
    refine s_goto d_Table_hasCore_12 rfl ?_
    exact s_zreturn d_Table_hasCore_16 rfl (by decide) h
theorem e_Table_hasCore {E : EV} {d : Nat} {Q : Option AV → St → Prop} {σ : St} (x0 x1 : Int) (h : (sh σ x0 = some (8, 4)) ∧ (WMi E m_Table_sizeIn d [aP (σ.1 x0 2), aI x1] σ (fun v2 σ2 => (rI v2) ∧ ((v2 ≤ 0 → Q (some (aI 0)) σ2) ∧ (¬ v2 ≤ 0 → Q (some (aI 1)) σ2))))) : WM E m_Table_hasCore (d + 1) [aP x0, aI x1] σ Q := s_meth (by decide) (Nat.le_of_ble_eq_true rfl) rfl (b_Table_hasCore_0 x0 x1 h)
theorem d_Table_wideOf_0 : decode m_Table_wideOf.2.1 0 = .ok (.aload_n 0, 1) := by decide +kernel
theorem d_Table_wideOf_1 : decode m_Table_wideOf.2.1 1 = .ok (.getfield 9, 3) := by decide +kernel
theorem d_Table_wideOf_4 : decode m_Table_wideOf.2.1 4 = .ok (.iload_n 1, 1) := by decide +kernel
theorem d_Table_wideOf_5 : decode m_Table_wideOf.2.1 5 = .ok (.invokestatic 24, 3) := by decide +kernel
theorem d_Table_wideOf_8 : decode m_Table_wideOf.2.1 8 = .ok (.ireturn, 1) := by decide +kernel
theorem b_Table_wideOf_0 {E : EV} {d : Nat} {Q : Option AV → St → Prop} {σ : St} (x0 x1 : Int) (h : (sh σ x0 = some (8, 4)) ∧ (WMi E m_Table_sizeIn d [aP (σ.1 x0 0), aI x1] σ (fun v2 σ2 => Q (some (aI v2)) σ2))) : WP E m_Table_wideOf (d + 1) 0 [(0, aP x0), (1, aI x1)] [] σ Q := by
  refine s_aload_n 0 d_Table_wideOf_0 rfl rfl ?_
  obtain ⟨g1, h⟩ := h
  refine s_getF (v := σ.1 x0 0) d_Table_wideOf_1 fl_Table_9 rfl g1 rfl ?_
  refine s_iload_n 1 d_Table_wideOf_4 rfl rfl ?_
  refine s_callS (as := [aP (σ.1 x0 0), aI x1]) d_Table_wideOf_5 ok_Table_sizeIn lk_Table_24 to_Table_sizeIn rfl (Nat.le_of_ble_eq_true rfl) rfl (WM.mono h ?_)
  rintro _ σ2 ⟨v2, rfl, hp, h⟩
  show WP E m_Table_wideOf (d + 1) 8 [(0, aP x0), (1, aI x1)] [aI v2] σ2 Q
  exact s_ireturn d_Table_wideOf_8 rfl h
theorem e_Table_wideOf {E : EV} {d : Nat} {Q : Option AV → St → Prop} {σ : St} (x0 x1 : Int) (h : (sh σ x0 = some (8, 4)) ∧ (WMi E m_Table_sizeIn d [aP (σ.1 x0 0), aI x1] σ (fun v2 σ2 => Q (some (aI v2)) σ2))) : WM E m_Table_wideOf (d + 1) [aP x0, aI x1] σ Q := s_meth (by decide) (Nat.le_of_ble_eq_true rfl) rfl (b_Table_wideOf_0 x0 x1 h)
theorem d_Table_highOf_0 : decode m_Table_highOf.2.1 0 = .ok (.aload_n 0, 1) := by decide +kernel
theorem d_Table_highOf_1 : decode m_Table_highOf.2.1 1 = .ok (.getfield 15, 3) := by decide +kernel
theorem d_Table_highOf_4 : decode m_Table_highOf.2.1 4 = .ok (.iload_n 1, 1) := by decide +kernel
theorem d_Table_highOf_5 : decode m_Table_highOf.2.1 5 = .ok (.invokestatic 24, 3) := by decide +kernel
theorem d_Table_highOf_8 : decode m_Table_highOf.2.1 8 = .ok (.ireturn, 1) := by decide +kernel
theorem b_Table_highOf_0 {E : EV} {d : Nat} {Q : Option AV → St → Prop} {σ : St} (x0 x1 : Int) (h : (sh σ x0 = some (8, 4)) ∧ (WMi E m_Table_sizeIn d [aP (σ.1 x0 1), aI x1] σ (fun v2 σ2 => Q (some (aI v2)) σ2))) : WP E m_Table_highOf (d + 1) 0 [(0, aP x0), (1, aI x1)] [] σ Q := by
  refine s_aload_n 0 d_Table_highOf_0 rfl rfl ?_
  obtain ⟨g1, h⟩ := h
  refine s_getF (v := σ.1 x0 1) d_Table_highOf_1 fl_Table_15 rfl g1 rfl ?_
  refine s_iload_n 1 d_Table_highOf_4 rfl rfl ?_
  refine s_callS (as := [aP (σ.1 x0 1), aI x1]) d_Table_highOf_5 ok_Table_sizeIn lk_Table_24 to_Table_sizeIn rfl (Nat.le_of_ble_eq_true rfl) rfl (WM.mono h ?_)
  rintro _ σ2 ⟨v2, rfl, hp, h⟩
  show WP E m_Table_highOf (d + 1) 8 [(0, aP x0), (1, aI x1)] [aI v2] σ2 Q
  exact s_ireturn d_Table_highOf_8 rfl h
theorem e_Table_highOf {E : EV} {d : Nat} {Q : Option AV → St → Prop} {σ : St} (x0 x1 : Int) (h : (sh σ x0 = some (8, 4)) ∧ (WMi E m_Table_sizeIn d [aP (σ.1 x0 1), aI x1] σ (fun v2 σ2 => Q (some (aI v2)) σ2))) : WM E m_Table_highOf (d + 1) [aP x0, aI x1] σ Q := s_meth (by decide) (Nat.le_of_ble_eq_true rfl) rfl (b_Table_highOf_0 x0 x1 h)
theorem d_Table_coreWideOf_0 : decode m_Table_coreWideOf.2.1 0 = .ok (.aload_n 0, 1) := by decide +kernel
theorem d_Table_coreWideOf_1 : decode m_Table_coreWideOf.2.1 1 = .ok (.getfield 18, 3) := by decide +kernel
theorem d_Table_coreWideOf_4 : decode m_Table_coreWideOf.2.1 4 = .ok (.iload_n 1, 1) := by decide +kernel
theorem d_Table_coreWideOf_5 : decode m_Table_coreWideOf.2.1 5 = .ok (.invokestatic 24, 3) := by decide +kernel
theorem d_Table_coreWideOf_8 : decode m_Table_coreWideOf.2.1 8 = .ok (.ireturn, 1) := by decide +kernel
theorem b_Table_coreWideOf_0 {E : EV} {d : Nat} {Q : Option AV → St → Prop} {σ : St} (x0 x1 : Int) (h : (sh σ x0 = some (8, 4)) ∧ (WMi E m_Table_sizeIn d [aP (σ.1 x0 2), aI x1] σ (fun v2 σ2 => Q (some (aI v2)) σ2))) : WP E m_Table_coreWideOf (d + 1) 0 [(0, aP x0), (1, aI x1)] [] σ Q := by
  refine s_aload_n 0 d_Table_coreWideOf_0 rfl rfl ?_
  obtain ⟨g1, h⟩ := h
  refine s_getF (v := σ.1 x0 2) d_Table_coreWideOf_1 fl_Table_18 rfl g1 rfl ?_
  refine s_iload_n 1 d_Table_coreWideOf_4 rfl rfl ?_
  refine s_callS (as := [aP (σ.1 x0 2), aI x1]) d_Table_coreWideOf_5 ok_Table_sizeIn lk_Table_24 to_Table_sizeIn rfl (Nat.le_of_ble_eq_true rfl) rfl (WM.mono h ?_)
  rintro _ σ2 ⟨v2, rfl, hp, h⟩
  show WP E m_Table_coreWideOf (d + 1) 8 [(0, aP x0), (1, aI x1)] [aI v2] σ2 Q
  exact s_ireturn d_Table_coreWideOf_8 rfl h
theorem e_Table_coreWideOf {E : EV} {d : Nat} {Q : Option AV → St → Prop} {σ : St} (x0 x1 : Int) (h : (sh σ x0 = some (8, 4)) ∧ (WMi E m_Table_sizeIn d [aP (σ.1 x0 2), aI x1] σ (fun v2 σ2 => Q (some (aI v2)) σ2))) : WM E m_Table_coreWideOf (d + 1) [aP x0, aI x1] σ Q := s_meth (by decide) (Nat.le_of_ble_eq_true rfl) rfl (b_Table_coreWideOf_0 x0 x1 h)
theorem d_Table_coreHighOf_0 : decode m_Table_coreHighOf.2.1 0 = .ok (.aload_n 0, 1) := by decide +kernel
theorem d_Table_coreHighOf_1 : decode m_Table_coreHighOf.2.1 1 = .ok (.getfield 21, 3) := by decide +kernel
theorem d_Table_coreHighOf_4 : decode m_Table_coreHighOf.2.1 4 = .ok (.iload_n 1, 1) := by decide +kernel
theorem d_Table_coreHighOf_5 : decode m_Table_coreHighOf.2.1 5 = .ok (.invokestatic 24, 3) := by decide +kernel
theorem d_Table_coreHighOf_8 : decode m_Table_coreHighOf.2.1 8 = .ok (.ireturn, 1) := by decide +kernel
theorem b_Table_coreHighOf_0 {E : EV} {d : Nat} {Q : Option AV → St → Prop} {σ : St} (x0 x1 : Int) (h : (sh σ x0 = some (8, 4)) ∧ (WMi E m_Table_sizeIn d [aP (σ.1 x0 3), aI x1] σ (fun v2 σ2 => Q (some (aI v2)) σ2))) : WP E m_Table_coreHighOf (d + 1) 0 [(0, aP x0), (1, aI x1)] [] σ Q := by
  refine s_aload_n 0 d_Table_coreHighOf_0 rfl rfl ?_
  obtain ⟨g1, h⟩ := h
  refine s_getF (v := σ.1 x0 3) d_Table_coreHighOf_1 fl_Table_21 rfl g1 rfl ?_
  refine s_iload_n 1 d_Table_coreHighOf_4 rfl rfl ?_
  refine s_callS (as := [aP (σ.1 x0 3), aI x1]) d_Table_coreHighOf_5 ok_Table_sizeIn lk_Table_24 to_Table_sizeIn rfl (Nat.le_of_ble_eq_true rfl) rfl (WM.mono h ?_)
  rintro _ σ2 ⟨v2, rfl, hp, h⟩
  show WP E m_Table_coreHighOf (d + 1) 8 [(0, aP x0), (1, aI x1)] [aI v2] σ2 Q
  exact s_ireturn d_Table_coreHighOf_8 rfl h
theorem e_Table_coreHighOf {E : EV} {d : Nat} {Q : Option AV → St → Prop} {σ : St} (x0 x1 : Int) (h : (sh σ x0 = some (8, 4)) ∧ (WMi E m_Table_sizeIn d [aP (σ.1 x0 3), aI x1] σ (fun v2 σ2 => Q (some (aI v2)) σ2))) : WM E m_Table_coreHighOf (d + 1) [aP x0, aI x1] σ Q := s_meth (by decide) (Nat.le_of_ble_eq_true rfl) rfl (b_Table_coreHighOf_0 x0 x1 h)
theorem d_Table_cores_0 : decode m_Table_cores.2.1 0 = .ok (.aload_n 0, 1) := by decide +kernel
theorem d_Table_cores_1 : decode m_Table_cores.2.1 1 = .ok (.getfield 18, 3) := by decide +kernel
theorem d_Table_cores_4 : decode m_Table_cores.2.1 4 = .ok (.invokestatic 28, 3) := by decide +kernel
theorem d_Table_cores_7 : decode m_Table_cores.2.1 7 = .ok (.ireturn, 1) := by decide +kernel
theorem b_Table_cores_0 {E : EV} {d : Nat} {Q : Option AV → St → Prop} {σ : St} (x0 : Int) (h : (sh σ x0 = some (8, 4)) ∧ (WMi E m_Table_filled d [aP (σ.1 x0 2)] σ (fun v2 σ2 => Q (some (aI v2)) σ2))) : WP E m_Table_cores (d + 1) 0 [(0, aP x0)] [] σ Q := by
  refine s_aload_n 0 d_Table_cores_0 rfl rfl ?_
  obtain ⟨g1, h⟩ := h
  refine s_getF (v := σ.1 x0 2) d_Table_cores_1 fl_Table_18 rfl g1 rfl ?_
  refine s_callS (as := [aP (σ.1 x0 2)]) d_Table_cores_4 ok_Table_filled lk_Table_28 to_Table_filled rfl (Nat.le_of_ble_eq_true rfl) rfl (WM.mono h ?_)
  rintro _ σ2 ⟨v2, rfl, hp, h⟩
  show WP E m_Table_cores (d + 1) 7 [(0, aP x0)] [aI v2] σ2 Q
  exact s_ireturn d_Table_cores_7 rfl h
theorem e_Table_cores {E : EV} {d : Nat} {Q : Option AV → St → Prop} {σ : St} (x0 : Int) (h : (sh σ x0 = some (8, 4)) ∧ (WMi E m_Table_filled d [aP (σ.1 x0 2)] σ (fun v2 σ2 => Q (some (aI v2)) σ2))) : WM E m_Table_cores (d + 1) [aP x0] σ Q := s_meth (by decide) (Nat.le_of_ble_eq_true rfl) rfl (b_Table_cores_0 x0 h)
theorem d_Sq_init_0 : decode m_Sq_init.2.1 0 = .ok (.aload_n 0, 1) := by decide +kernel
theorem d_Sq_init_1 : decode m_Sq_init.2.1 1 = .ok (.invokespecial 3, 3) := by decide +kernel
theorem d_Sq_init_4 : decode m_Sq_init.2.1 4 = .ok (.aload_n 0, 1) := by decide +kernel
theorem d_Sq_init_5 : decode m_Sq_init.2.1 5 = .ok (.aload_n 1, 1) := by decide +kernel
theorem d_Sq_init_6 : decode m_Sq_init.2.1 6 = .ok (.putfield 9, 3) := by decide +kernel
theorem d_Sq_init_9 : decode m_Sq_init.2.1 9 = .ok (.return_, 1) := by decide +kernel
theorem b_Sq_init_0 {E : EV} {d : Nat} {Q : Option AV → St → Prop} {σ : St} (x0 x1 : Int) (h : (0 < x0) ∧ (sh σ x0 = some (7, 1)) ∧ Q none (wr σ x0 0 x1)) : WP E m_Sq_init (d + 1) 0 [(0, aP x0), (1, aP x1)] [] σ Q := by
  refine s_aload_n 0 d_Sq_init_0 rfl rfl ?_
  obtain ⟨g1, h⟩ := h
  refine s_objInit d_Sq_init_1 lo_Sq_3 lo_inst lo_code g1 (Nat.le_of_ble_eq_true rfl) ?_
  refine s_aload_n 0 d_Sq_init_4 rfl rfl ?_
  refine s_aload_n 1 d_Sq_init_5 rfl rfl ?_
  obtain ⟨g2, h⟩ := h
  refine s_putf 0 rfl d_Sq_init_6 fl_Sq_9 (fun C T h => by cases h; exact Or.inr ⟨rfl, rfl, rfl, fk_Sq_9⟩) rfl (Or.inr (Or.inr (Or.inr (Or.inr ⟨_, rfl⟩)))) (fun h => nomatch h) g2 ?_
  exact s_return d_Sq_init_9 rfl h
theorem e_Sq_init {E : EV} {d : Nat} {Q : Option AV → St → Prop} {σ : St} (x0 x1 : Int) (h : (0 < x0) ∧ (sh σ x0 = some (7, 1)) ∧ Q none (wr σ x0 0 x1)) : WM E m_Sq_init (d + 1) [aP x0, aP x1] σ Q := s_meth (by decide) (Nat.le_of_ble_eq_true rfl) rfl (b_Sq_init_0 x0 x1 h)
theorem d_Sq_placeOf_0 : decode m_Sq_placeOf.2.1 0 = .ok (.iload_n 1, 1) := by decide +kernel
theorem d_Sq_placeOf_1 : decode m_Sq_placeOf.2.1 1 = .ok (.istore_n 2, 1) := by decide +kernel
theorem d_Sq_placeOf_2 : decode m_Sq_placeOf.2.1 2 = .ok (.iconst 0, 1) := by decide +kernel
theorem d_Sq_placeOf_3 : decode m_Sq_placeOf.2.1 3 = .ok (.istore_n 3, 1) := by decide +kernel
theorem d_Sq_placeOf_4 : decode m_Sq_placeOf.2.1 4 = .ok (.iload_n 3, 1) := by decide +kernel
theorem d_Sq_placeOf_5 : decode m_Sq_placeOf.2.1 5 = .ok (.aload_n 0, 1) := by decide +kernel
theorem d_Sq_placeOf_6 : decode m_Sq_placeOf.2.1 6 = .ok (.getfield 9, 3) := by decide +kernel
theorem d_Sq_placeOf_9 : decode m_Sq_placeOf.2.1 9 = .ok (.arraylength, 1) := by decide +kernel
theorem d_Sq_placeOf_10 : decode m_Sq_placeOf.2.1 10 = .ok (.if_icmp .ge 33, 3) := by decide +kernel
theorem d_Sq_placeOf_13 : decode m_Sq_placeOf.2.1 13 = .ok (.aload_n 0, 1) := by decide +kernel
theorem d_Sq_placeOf_14 : decode m_Sq_placeOf.2.1 14 = .ok (.getfield 9, 3) := by decide +kernel
theorem d_Sq_placeOf_17 : decode m_Sq_placeOf.2.1 17 = .ok (.iload_n 3, 1) := by decide +kernel
theorem d_Sq_placeOf_18 : decode m_Sq_placeOf.2.1 18 = .ok (.baload, 1) := by decide +kernel
theorem d_Sq_placeOf_19 : decode m_Sq_placeOf.2.1 19 = .ok (.invokestatic 23, 3) := by decide +kernel
theorem d_Sq_placeOf_22 : decode m_Sq_placeOf.2.1 22 = .ok (.ifCond .eq 6, 3) := by decide +kernel
theorem d_Sq_placeOf_25 : decode m_Sq_placeOf.2.1 25 = .ok (.goto 12, 3) := by decide +kernel
theorem d_Sq_placeOf_28 : decode m_Sq_placeOf.2.1 28 = .ok (.iload_n 2, 1) := by decide +kernel
theorem d_Sq_placeOf_29 : decode m_Sq_placeOf.2.1 29 = .ok (.ifCond .ne 5, 3) := by decide +kernel
theorem d_Sq_placeOf_32 : decode m_Sq_placeOf.2.1 32 = .ok (.iload_n 3, 1) := by decide +kernel
theorem d_Sq_placeOf_33 : decode m_Sq_placeOf.2.1 33 = .ok (.ireturn, 1) := by decide +kernel
theorem d_Sq_placeOf_34 : decode m_Sq_placeOf.2.1 34 = .ok (.iinc 2 (-1), 3) := by decide +kernel
theorem d_Sq_placeOf_37 : decode m_Sq_placeOf.2.1 37 = .ok (.iinc 3 1, 3) := by decide +kernel
theorem d_Sq_placeOf_40 : decode m_Sq_placeOf.2.1 40 = .ok (.goto (-36), 3) := by decide +kernel
theorem d_Sq_placeOf_43 : decode m_Sq_placeOf.2.1 43 = .ok (.iconst (-1), 1) := by decide +kernel
theorem d_Sq_placeOf_44 : decode m_Sq_placeOf.2.1 44 = .ok (.ireturn, 1) := by decide +kernel
theorem b_Sq_placeOf_0 {E : EV} {d : Nat} {Q : Option AV → St → Prop} {σ : St} (x0 x1 : Int) (h : WP E m_Sq_placeOf (d + 1) 4 [(0, aP x0), (2, aI x1), (3, aI 0)] [] σ Q) : WP E m_Sq_placeOf (d + 1) 0 [(0, aP x0), (1, aI x1)] [] σ Q := by
  refine s_iload_n 1 d_Sq_placeOf_0 rfl rfl ?_
  refine s_istore_n d_Sq_placeOf_1 rfl (by decide) rfl ?_
  refine s_iconst d_Sq_placeOf_2 ?_
  refine s_istore_n d_Sq_placeOf_3 rfl (by decide) rfl ?_
  refine wp_drop [2, 1, 0] rfl ?_
  exact h
theorem e_Sq_placeOf {E : EV} {d : Nat} {Q : Option AV → St → Prop} {σ : St} (x0 x1 : Int) (h : WP E m_Sq_placeOf (d + 1) 4 [(0, aP x0), (2, aI x1), (3, aI 0)] [] σ Q) : WM E m_Sq_placeOf (d + 1) [aP x0, aI x1] σ Q := s_meth (by decide) (Nat.le_of_ble_eq_true rfl) rfl (b_Sq_placeOf_0 x0 x1 h)
theorem b_Sq_placeOf_4 {E : EV} {d : Nat} {Q : Option AV → St → Prop} {σ : St} (x0 x2 x3 : Int) (h : (sh σ x0 = some (7, 1)) ∧ (sa σ (σ.1 x0 0) 21) ∧ (rI x3) ∧ (rI (ln σ (σ.1 x0 0))) ∧ (((ln σ (σ.1 x0 0)) ≤ x3 → Q (some (aI (-1))) σ) ∧ (¬ (ln σ (σ.1 x0 0)) ≤ x3 → (sh σ x0 = some (7, 1)) ∧ (inb σ (σ.1 x0 0) 21 x3) ∧ (WMi E m_S_isJoint d [aI (σ.1 (σ.1 x0 0) x3)] σ (fun v7 σ7 => (rI v7) ∧ ((v7 = 0 → (rI x2) ∧ ((¬ x2 = 0 → WP E m_Sq_placeOf (d + 1) 37 [(0, aP x0), (2, aI (x2 + (-1))), (3, aI x3)] [] σ7 Q) ∧ (x2 = 0 → Q (some (aI x3)) σ7))) ∧ (¬ v7 = 0 → WP E m_Sq_placeOf (d + 1) 37 [(0, aP x0), (2, aI x2), (3, aI x3)] [] σ7 Q))))))) : WP E m_Sq_placeOf (d + 1) 4 [(0, aP x0), (2, aI x2), (3, aI x3)] [] σ Q := by
  refine s_iload_n 2 d_Sq_placeOf_4 rfl rfl ?_
  refine s_aload_n 0 d_Sq_placeOf_5 rfl rfl ?_
  obtain ⟨g1, h⟩ := h
  refine s_getF (v := σ.1 x0 0) d_Sq_placeOf_6 fl_Sq_9 rfl g1 rfl ?_
  obtain ⟨g2, h⟩ := h
  refine s_alenS (by decide) d_Sq_placeOf_9 g2 ?_
  obtain ⟨g3, h⟩ := h
  obtain ⟨g4, h⟩ := h
  refine s_icmp_ge d_Sq_placeOf_10 rfl g3 g4 (fun c => ?_) (fun c => ?_)
  · have h := h.1 c
    refine s_iconst d_Sq_placeOf_43 ?_
    exact s_ireturn d_Sq_placeOf_44 rfl h
  · have h := h.2 c
    refine s_aload_n 0 d_Sq_placeOf_13 rfl rfl ?_
    obtain ⟨g5, h⟩ := h
    refine s_getF (v := σ.1 x0 0) d_Sq_placeOf_14 fl_Sq_9 rfl g5 rfl ?_
    refine s_iload_n 2 d_Sq_placeOf_17 rfl rfl ?_
    obtain ⟨g6, h⟩ := h
    refine s_baloadv (v := σ.1 (σ.1 x0 0) x3) (by decide) d_Sq_placeOf_18 g6 rfl ?_
    refine s_callS (as := [aI (σ.1 (σ.1 x0 0) x3)]) d_Sq_placeOf_19 ok_S_isJoint lk_Sq_23 to_S_isJoint rfl (Nat.le_of_ble_eq_true rfl) rfl (WM.mono h ?_)
    rintro _ σ7 ⟨v7, rfl, hp, h⟩
    show WP E m_Sq_placeOf (d + 1) 22 [(0, aP x0), (2, aI x2), (3, aI x3)] [aI v7] σ7 Q
    obtain ⟨g8, h⟩ := h
    refine s_if_eq d_Sq_placeOf_22 rfl g8 (fun c => ?_) (fun c => ?_)
    · have h := h.1 c
      refine s_iload_n 1 d_Sq_placeOf_28 rfl rfl ?_
      obtain ⟨g9, h⟩ := h
      refine s_if_ne d_Sq_placeOf_29 rfl g9 (fun c => ?_) (fun c => ?_)
      · have h := h.1 c
        refine s_iinc 1 d_Sq_placeOf_34 rfl (by decide) rfl ?_
        refine wp_drop [1, 0, 2] rfl ?_
        exact h
      · have h := h.2 c
        refine s_iload_n 2 d_Sq_placeOf_32 rfl rfl ?_
        exact s_ireturn d_Sq_placeOf_33 rfl h
    · have h := h.2 c
      refine s_goto d_Sq_placeOf_25 rfl ?_
      exact h
theorem b_Sq_placeOf_37 {E : EV} {d : Nat} {Q : Option AV → St → Prop} {σ : St} (x0 x2 x3 : Int) (h : WP E m_Sq_placeOf (d + 1) 4 [(0, aP x0), (2, aI x2), (3, aI (x3 + 1))] [] σ Q) : WP E m_Sq_placeOf (d + 1) 37 [(0, aP x0), (2, aI x2), (3, aI x3)] [] σ Q := by
  refine s_iinc 2 d_Sq_placeOf_37 rfl (by decide) rfl ?_
  refine s_goto d_Sq_placeOf_40 rfl ?_
  refine wp_drop [1, 2, 0] rfl ?_
  exact h
theorem d_Sq_symbol_0 : decode m_Sq_symbol.2.1 0 = .ok (.iload_n 1, 1) := by decide +kernel
theorem d_Sq_symbol_1 : decode m_Sq_symbol.2.1 1 = .ok (.ifCond .lt 21, 3) := by decide +kernel
theorem d_Sq_symbol_4 : decode m_Sq_symbol.2.1 4 = .ok (.iload_n 1, 1) := by decide +kernel
theorem d_Sq_symbol_5 : decode m_Sq_symbol.2.1 5 = .ok (.aload_n 0, 1) := by decide +kernel
theorem d_Sq_symbol_6 : decode m_Sq_symbol.2.1 6 = .ok (.getfield 9, 3) := by decide +kernel
theorem d_Sq_symbol_9 : decode m_Sq_symbol.2.1 9 = .ok (.arraylength, 1) := by decide +kernel
theorem d_Sq_symbol_10 : decode m_Sq_symbol.2.1 10 = .ok (.if_icmp .ge 12, 3) := by decide +kernel
theorem d_Sq_symbol_13 : decode m_Sq_symbol.2.1 13 = .ok (.aload_n 0, 1) := by decide +kernel
theorem d_Sq_symbol_14 : decode m_Sq_symbol.2.1 14 = .ok (.getfield 9, 3) := by decide +kernel
theorem d_Sq_symbol_17 : decode m_Sq_symbol.2.1 17 = .ok (.iload_n 1, 1) := by decide +kernel
theorem d_Sq_symbol_18 : decode m_Sq_symbol.2.1 18 = .ok (.baload, 1) := by decide +kernel
theorem d_Sq_symbol_19 : decode m_Sq_symbol.2.1 19 = .ok (.goto 4, 3) := by decide +kernel
theorem d_Sq_symbol_22 : decode m_Sq_symbol.2.1 22 = .ok (.iconst (-1), 1) := by decide +kernel
theorem d_Sq_symbol_23 : decode m_Sq_symbol.2.1 23 = .ok (.ireturn, 1) := by decide +kernel
theorem b_Sq_symbol_0 {E : EV} {d : Nat} {Q : Option AV → St → Prop} {σ : St} (x0 x1 : Int) (h : (rI x1) ∧ ((x1 < 0 → Q (some (aI (-1))) σ) ∧ (¬ x1 < 0 → (sh σ x0 = some (7, 1)) ∧ (sa σ (σ.1 x0 0) 21) ∧ (rI x1) ∧ (rI (ln σ (σ.1 x0 0))) ∧ (((ln σ (σ.1 x0 0)) ≤ x1 → Q (some (aI (-1))) σ) ∧ (¬ (ln σ (σ.1 x0 0)) ≤ x1 → (sh σ x0 = some (7, 1)) ∧ (inb σ (σ.1 x0 0) 21 x1) ∧ Q (some (aI (σ.1 (σ.1 x0 0) x1))) σ))))) : WP E m_Sq_symbol d 0 [(0, aP x0), (1, aI x1)] [] σ Q := by
  refine s_iload_n 1 d_Sq_symbol_0 rfl rfl ?_
  obtain ⟨g1, h⟩ := h
  refine s_if_lt d_Sq_symbol_1 rfl g1 (fun c => ?_) (fun c => ?_)
  · have h := h.1 c
    refine s_iconst d_Sq_symbol_22 ?_
    exact s_ireturn d_Sq_symbol_23 rfl h
  · have h := h.2 c
    refine s_iload_n 1 d_Sq_symbol_4 rfl rfl ?_
    refine s_aload_n 0 d_Sq_symbol_5 rfl rfl ?_
    obtain ⟨g2, h⟩ := h
    refine s_getF (v := σ.1 x0 0) d_Sq_symbol_6 fl_Sq_9 rfl g2 rfl ?_
    obtain ⟨g3, h⟩ := h
    refine s_alenS (by decide) d_Sq_symbol_9 g3 ?_
    obtain ⟨g4, h⟩ := h
    obtain ⟨g5, h⟩ := h
    refine s_icmp_ge d_Sq_symbol_10 rfl g4 g5 (fun c => ?_) (fun c => ?_)
    · have h := h.1 c
      refine s_iconst d_Sq_symbol_22 ?_
      exact s_ireturn d_Sq_symbol_23 rfl h
    · have h := h.2 c
      refine s_aload_n 0 d_Sq_symbol_13 rfl rfl ?_
      obtain ⟨g6, h⟩ := h
      refine s_getF (v := σ.1 x0 0) d_Sq_symbol_14 fl_Sq_9 rfl g6 rfl ?_
      refine s_iload_n 1 d_Sq_symbol_17 rfl rfl ?_
      obtain ⟨g7, h⟩ := h
      refine s_baloadv (v := σ.1 (σ.1 x0 0) x1) (by decide) d_Sq_symbol_18 g7 rfl ?_
      refine s_goto d_Sq_symbol_19 rfl ?_
      exact s_ireturn d_Sq_symbol_23 rfl h
theorem e_Sq_symbol {E : EV} {d : Nat} {Q : Option AV → St → Prop} {σ : St} (x0 x1 : Int) (h : (rI x1) ∧ ((x1 < 0 → Q (some (aI (-1))) σ) ∧ (¬ x1 < 0 → (sh σ x0 = some (7, 1)) ∧ (sa σ (σ.1 x0 0) 21) ∧ (rI x1) ∧ (rI (ln σ (σ.1 x0 0))) ∧ (((ln σ (σ.1 x0 0)) ≤ x1 → Q (some (aI (-1))) σ) ∧ (¬ (ln σ (σ.1 x0 0)) ≤ x1 → (sh σ x0 = some (7, 1)) ∧ (inb σ (σ.1 x0 0) 21 x1) ∧ Q (some (aI (σ.1 (σ.1 x0 0) x1))) σ))))) : WM E m_Sq_symbol d [aP x0, aI x1] σ Q := s_meth (by decide) (Nat.le_of_ble_eq_true rfl) rfl (b_Sq_symbol_0 x0 x1 h)
theorem d_Sq_length_0 : decode m_Sq_length.2.1 0 = .ok (.aload_n 0, 1) := by decide +kernel
theorem d_Sq_length_1 : decode m_Sq_length.2.1 1 = .ok (.getfield 9, 3) := by decide +kernel
theorem d_Sq_length_4 : decode m_Sq_length.2.1 4 = .ok (.arraylength, 1) := by decide +kernel
theorem d_Sq_length_5 : decode m_Sq_length.2.1 5 = .ok (.ireturn, 1) := by decide +kernel
theorem b_Sq_length_0 {E : EV} {d : Nat} {Q : Option AV → St → Prop} {σ : St} (x0 : Int) (h : (sh σ x0 = some (7, 1)) ∧ (sa σ (σ.1 x0 0) 21) ∧ Q (some (aI (ln σ (σ.1 x0 0)))) σ) : WP E m_Sq_length d 0 [(0, aP x0)] [] σ Q := by
  refine s_aload_n 0 d_Sq_length_0 rfl rfl ?_
  obtain ⟨g1, h⟩ := h
  refine s_getF (v := σ.1 x0 0) d_Sq_length_1 fl_Sq_9 rfl g1 rfl ?_
  obtain ⟨g2, h⟩ := h
  refine s_alenS (by decide) d_Sq_length_4 g2 ?_
  exact s_ireturn d_Sq_length_5 rfl h
theorem e_Sq_length {E : EV} {d : Nat} {Q : Option AV → St → Prop} {σ : St} (x0 : Int) (h : (sh σ x0 = some (7, 1)) ∧ (sa σ (σ.1 x0 0) 21) ∧ Q (some (aI (ln σ (σ.1 x0 0)))) σ) : WM E m_Sq_length d [aP x0] σ Q := s_meth (by decide) (Nat.le_of_ble_eq_true rfl) rfl (b_Sq_length_0 x0 h)
theorem d_Sq_holderOf_0 : decode m_Sq_holderOf.2.1 0 = .ok (.iload_n 1, 1) := by decide +kernel
theorem d_Sq_holderOf_1 : decode m_Sq_holderOf.2.1 1 = .ok (.aload_n 0, 1) := by decide +kernel
theorem d_Sq_holderOf_2 : decode m_Sq_holderOf.2.1 2 = .ok (.getfield 9, 3) := by decide +kernel
theorem d_Sq_holderOf_5 : decode m_Sq_holderOf.2.1 5 = .ok (.arraylength, 1) := by decide +kernel
theorem d_Sq_holderOf_6 : decode m_Sq_holderOf.2.1 6 = .ok (.invokestatic 27, 3) := by decide +kernel
theorem d_Sq_holderOf_9 : decode m_Sq_holderOf.2.1 9 = .ok (.iconst 1, 1) := by decide +kernel
theorem d_Sq_holderOf_10 : decode m_Sq_holderOf.2.1 10 = .ok (.isub, 1) := by decide +kernel
theorem d_Sq_holderOf_11 : decode m_Sq_holderOf.2.1 11 = .ok (.istore_n 2, 1) := by decide +kernel
theorem d_Sq_holderOf_12 : decode m_Sq_holderOf.2.1 12 = .ok (.iload_n 2, 1) := by decide +kernel
theorem d_Sq_holderOf_13 : decode m_Sq_holderOf.2.1 13 = .ok (.ifCond .lt 32, 3) := by decide +kernel
theorem d_Sq_holderOf_16 : decode m_Sq_holderOf.2.1 16 = .ok (.aload_n 0, 1) := by decide +kernel
theorem d_Sq_holderOf_17 : decode m_Sq_holderOf.2.1 17 = .ok (.getfield 9, 3) := by decide +kernel
theorem d_Sq_holderOf_20 : decode m_Sq_holderOf.2.1 20 = .ok (.iload_n 2, 1) := by decide +kernel
theorem d_Sq_holderOf_21 : decode m_Sq_holderOf.2.1 21 = .ok (.baload, 1) := by decide +kernel
theorem d_Sq_holderOf_22 : decode m_Sq_holderOf.2.1 22 = .ok (.invokestatic 33, 3) := by decide +kernel
theorem d_Sq_holderOf_25 : decode m_Sq_holderOf.2.1 25 = .ok (.ifCond .eq 14, 3) := by decide +kernel
theorem d_Sq_holderOf_28 : decode m_Sq_holderOf.2.1 28 = .ok (.aload_n 0, 1) := by decide +kernel
theorem d_Sq_holderOf_29 : decode m_Sq_holderOf.2.1 29 = .ok (.iload_n 2, 1) := by decide +kernel
theorem d_Sq_holderOf_30 : decode m_Sq_holderOf.2.1 30 = .ok (.invokevirtual 36, 3) := by decide +kernel
theorem d_Sq_holderOf_33 : decode m_Sq_holderOf.2.1 33 = .ok (.iload_n 1, 1) := by decide +kernel
theorem d_Sq_holderOf_34 : decode m_Sq_holderOf.2.1 34 = .ok (.if_icmp .le 5, 3) := by decide +kernel
theorem d_Sq_holderOf_37 : decode m_Sq_holderOf.2.1 37 = .ok (.iload_n 2, 1) := by decide +kernel
theorem d_Sq_holderOf_38 : decode m_Sq_holderOf.2.1 38 = .ok (.ireturn, 1) := by decide +kernel
theorem d_Sq_holderOf_39 : decode m_Sq_holderOf.2.1 39 = .ok (.iinc 2 (-1), 3) := by decide +kernel
theorem d_Sq_holderOf_42 : decode m_Sq_holderOf.2.1 42 = .ok (.goto (-30), 3) := by decide +kernel
theorem d_Sq_holderOf_45 : decode m_Sq_holderOf.2.1 45 = .ok (.iconst (-1), 1) := by decide +kernel
theorem d_Sq_holderOf_46 : decode m_Sq_holderOf.2.1 46 = .ok (.ireturn, 1) := by decide +kernel
theorem b_Sq_holderOf_0 {E : EV} {d : Nat} {Q : Option AV → St → Prop} {σ : St} (x0 x1 : Int) (h : (sh σ x0 = some (7, 1)) ∧ (sa σ (σ.1 x0 0) 21) ∧ (rI x1) ∧ (rI (ln σ (σ.1 x0 0))) ∧ WP E m_Sq_holderOf (d + 1) 12 [(0, aP x0), (1, aI x1), (2, aI ((min x1 (ln σ (σ.1 x0 0))) - 1))] [] σ Q) : WP E m_Sq_holderOf (d + 1) 0 [(0, aP x0), (1, aI x1)] [] σ Q := by
  refine s_iload_n 1 d_Sq_holderOf_0 rfl rfl ?_
  refine s_aload_n 0 d_Sq_holderOf_1 rfl rfl ?_
  obtain ⟨g1, h⟩ := h
  refine s_getF (v := σ.1 x0 0) d_Sq_holderOf_2 fl_Sq_9 rfl g1 rfl ?_
  obtain ⟨g2, h⟩ := h
  refine s_alenS (by decide) d_Sq_holderOf_5 g2 ?_
  obtain ⟨g3, h⟩ := h
  obtain ⟨g4, h⟩ := h
  refine s_mmin d_Sq_holderOf_6 lm_Sq_27 lm_min_s lm_i lm_min_c (Nat.le_of_ble_eq_true rfl) g3 g4 ?_
  refine s_iconst d_Sq_holderOf_9 ?_
  refine s_isub d_Sq_holderOf_10 ?_
  refine s_istore_n d_Sq_holderOf_11 rfl (by decide) rfl ?_
  refine wp_drop [1, 2, 0] rfl ?_
  exact h
theorem e_Sq_holderOf {E : EV} {d : Nat} {Q : Option AV → St → Prop} {σ : St} (x0 x1 : Int) (h : (sh σ x0 = some (7, 1)) ∧ (sa σ (σ.1 x0 0) 21) ∧ (rI x1) ∧ (rI (ln σ (σ.1 x0 0))) ∧ WP E m_Sq_holderOf (d + 1) 12 [(0, aP x0), (1, aI x1), (2, aI ((min x1 (ln σ (σ.1 x0 0))) - 1))] [] σ Q) : WM E m_Sq_holderOf (d + 1) [aP x0, aI x1] σ Q := s_meth (by decide) (Nat.le_of_ble_eq_true rfl) rfl (b_Sq_holderOf_0 x0 x1 h)
theorem b_Sq_holderOf_12 {E : EV} {d : Nat} {Q : Option AV → St → Prop} {σ : St} (x0 x1 x2 : Int) (h : (rI x2) ∧ ((x2 < 0 → Q (some (aI (-1))) σ) ∧ (¬ x2 < 0 → (sh σ x0 = some (7, 1)) ∧ (inb σ (σ.1 x0 0) 21 x2) ∧ (WMi E m_S_holds d [aI (σ.1 (σ.1 x0 0) x2)] σ (fun v4 σ4 => (rI v4) ∧ ((v4 = 0 → WP E m_Sq_holderOf (d + 1) 39 [(0, aP x0), (1, aI x1), (2, aI x2)] [] σ4 Q) ∧ (¬ v4 = 0 → (sh σ4 x0 = some (7, 1)) ∧ (WMi E m_Sq_endOf d [aP x0, aI x2] σ4 (fun v6 σ6 => (rI v6) ∧ (rI x1) ∧ ((v6 ≤ x1 → WP E m_Sq_holderOf (d + 1) 39 [(0, aP x0), (1, aI x1), (2, aI x2)] [] σ6 Q) ∧ (¬ v6 ≤ x1 → Q (some (aI x2)) σ6))))))))))) : WP E m_Sq_holderOf (d + 1) 12 [(0, aP x0), (1, aI x1), (2, aI x2)] [] σ Q := by
  refine s_iload_n 2 d_Sq_holderOf_12 rfl rfl ?_
  obtain ⟨g1, h⟩ := h
  refine s_if_lt d_Sq_holderOf_13 rfl g1 (fun c => ?_) (fun c => ?_)
  · have h := h.1 c
    refine s_iconst d_Sq_holderOf_45 ?_
    exact s_ireturn d_Sq_holderOf_46 rfl h
  · have h := h.2 c
    refine s_aload_n 0 d_Sq_holderOf_16 rfl rfl ?_
    obtain ⟨g2, h⟩ := h
    refine s_getF (v := σ.1 x0 0) d_Sq_holderOf_17 fl_Sq_9 rfl g2 rfl ?_
    refine s_iload_n 2 d_Sq_holderOf_20 rfl rfl ?_
    obtain ⟨g3, h⟩ := h
    refine s_baloadv (v := σ.1 (σ.1 x0 0) x2) (by decide) d_Sq_holderOf_21 g3 rfl ?_
    refine s_callS (as := [aI (σ.1 (σ.1 x0 0) x2)]) d_Sq_holderOf_22 ok_S_holds lk_Sq_33 to_S_holds rfl (Nat.le_of_ble_eq_true rfl) rfl (WM.mono h ?_)
    rintro _ σ4 ⟨v4, rfl, hp, h⟩
    show WP E m_Sq_holderOf (d + 1) 25 [(0, aP x0), (1, aI x1), (2, aI x2)] [aI v4] σ4 Q
    obtain ⟨g5, h⟩ := h
    refine s_if_eq d_Sq_holderOf_25 rfl g5 (fun c => ?_) (fun c => ?_)
    · have h := h.1 c
      exact h
    · have h := h.2 c
      refine s_aload_n 0 d_Sq_holderOf_28 rfl rfl ?_
      refine s_iload_n 2 d_Sq_holderOf_29 rfl rfl ?_
      obtain ⟨g7, h⟩ := h
      refine s_callV (as := [aI x2]) (ci := 7) d_Sq_holderOf_30 ok_Sq_endOf lk_Sq_36 io_Sq_endOf so_Sq_endOf (by decide) rfl rfl rfl (Nat.le_of_ble_eq_true rfl) rfl g7 (WM.mono h ?_)
      rintro _ σ6 ⟨v6, rfl, hp, h⟩
      show WP E m_Sq_holderOf (d + 1) 33 [(0, aP x0), (1, aI x1), (2, aI x2)] [aI v6] σ6 Q
      refine s_iload_n 1 d_Sq_holderOf_33 rfl rfl ?_
      obtain ⟨g8, h⟩ := h
      obtain ⟨g9, h⟩ := h
      refine s_icmp_le d_Sq_holderOf_34 rfl g8 g9 (fun c => ?_) (fun c => ?_)
      · have h := h.1 c
        exact h
      · have h := h.2 c
        refine s_iload_n 2 d_Sq_holderOf_37 rfl rfl ?_
        exact s_ireturn d_Sq_holderOf_38 rfl h
theorem b_Sq_holderOf_39 {E : EV} {d : Nat} {Q : Option AV → St → Prop} {σ : St} (x0 x1 x2 : Int) (h : WP E m_Sq_holderOf (d + 1) 12 [(0, aP x0), (1, aI x1), (2, aI (x2 + (-1)))] [] σ Q) : WP E m_Sq_holderOf (d + 1) 39 [(0, aP x0), (1, aI x1), (2, aI x2)] [] σ Q := by
  refine s_iinc 2 d_Sq_holderOf_39 rfl (by decide) rfl ?_
  refine s_goto d_Sq_holderOf_42 rfl ?_
  refine wp_drop [1, 2, 0] rfl ?_
  exact h
theorem d_Sq_endOf_0 : decode m_Sq_endOf.2.1 0 = .ok (.aload_n 0, 1) := by decide +kernel
theorem d_Sq_endOf_1 : decode m_Sq_endOf.2.1 1 = .ok (.getfield 9, 3) := by decide +kernel
theorem d_Sq_endOf_4 : decode m_Sq_endOf.2.1 4 = .ok (.aload_n 0, 1) := by decide +kernel
theorem d_Sq_endOf_5 : decode m_Sq_endOf.2.1 5 = .ok (.getfield 9, 3) := by decide +kernel
theorem d_Sq_endOf_8 : decode m_Sq_endOf.2.1 8 = .ok (.arraylength, 1) := by decide +kernel
theorem d_Sq_endOf_9 : decode m_Sq_endOf.2.1 9 = .ok (.iload_n 1, 1) := by decide +kernel
theorem d_Sq_endOf_10 : decode m_Sq_endOf.2.1 10 = .ok (.invokestatic 15, 3) := by decide +kernel
theorem d_Sq_endOf_13 : decode m_Sq_endOf.2.1 13 = .ok (.ireturn, 1) := by decide +kernel
theorem b_Sq_endOf_0 {E : EV} {d : Nat} {Q : Option AV → St → Prop} {σ : St} (x0 x1 : Int) (h : (sh σ x0 = some (7, 1)) ∧ (sh σ x0 = some (7, 1)) ∧ (sa σ (σ.1 x0 0) 21) ∧ (WMi E m_S_endOfPart d [aP (σ.1 x0 0), aI (ln σ (σ.1 x0 0)), aI x1] σ (fun v4 σ4 => Q (some (aI v4)) σ4))) : WP E m_Sq_endOf (d + 1) 0 [(0, aP x0), (1, aI x1)] [] σ Q := by
  refine s_aload_n 0 d_Sq_endOf_0 rfl rfl ?_
  obtain ⟨g1, h⟩ := h
  refine s_getF (v := σ.1 x0 0) d_Sq_endOf_1 fl_Sq_9 rfl g1 rfl ?_
  refine s_aload_n 0 d_Sq_endOf_4 rfl rfl ?_
  obtain ⟨g2, h⟩ := h
  refine s_getF (v := σ.1 x0 0) d_Sq_endOf_5 fl_Sq_9 rfl g2 rfl ?_
  obtain ⟨g3, h⟩ := h
  refine s_alenS (by decide) d_Sq_endOf_8 g3 ?_
  refine s_iload_n 1 d_Sq_endOf_9 rfl rfl ?_
  refine s_callS (as := [aP (σ.1 x0 0), aI (ln σ (σ.1 x0 0)), aI x1]) d_Sq_endOf_10 ok_S_endOfPart lk_Sq_15 to_S_endOfPart rfl (Nat.le_of_ble_eq_true rfl) rfl (WM.mono h ?_)
  rintro _ σ4 ⟨v4, rfl, hp, h⟩
  show WP E m_Sq_endOf (d + 1) 13 [(0, aP x0), (1, aI x1)] [aI v4] σ4 Q
  exact s_ireturn d_Sq_endOf_13 rfl h
theorem e_Sq_endOf {E : EV} {d : Nat} {Q : Option AV → St → Prop} {σ : St} (x0 x1 : Int) (h : (sh σ x0 = some (7, 1)) ∧ (sh σ x0 = some (7, 1)) ∧ (sa σ (σ.1 x0 0) 21) ∧ (WMi E m_S_endOfPart d [aP (σ.1 x0 0), aI (ln σ (σ.1 x0 0)), aI x1] σ (fun v4 σ4 => Q (some (aI v4)) σ4))) : WM E m_Sq_endOf (d + 1) [aP x0, aI x1] σ Q := s_meth (by decide) (Nat.le_of_ble_eq_true rfl) rfl (b_Sq_endOf_0 x0 x1 h)
theorem d_Sq_signs_0 : decode m_Sq_signs.2.1 0 = .ok (.aload_n 0, 1) := by decide +kernel
theorem d_Sq_signs_1 : decode m_Sq_signs.2.1 1 = .ok (.aload_n 0, 1) := by decide +kernel
theorem d_Sq_signs_2 : decode m_Sq_signs.2.1 2 = .ok (.getfield 9, 3) := by decide +kernel
theorem d_Sq_signs_5 : decode m_Sq_signs.2.1 5 = .ok (.arraylength, 1) := by decide +kernel
theorem d_Sq_signs_6 : decode m_Sq_signs.2.1 6 = .ok (.invokevirtual 19, 3) := by decide +kernel
theorem d_Sq_signs_9 : decode m_Sq_signs.2.1 9 = .ok (.ireturn, 1) := by decide +kernel
theorem b_Sq_signs_0 {E : EV} {d : Nat} {Q : Option AV → St → Prop} {σ : St} (x0 : Int) (h : (sh σ x0 = some (7, 1)) ∧ (sa σ (σ.1 x0 0) 21) ∧ (sh σ x0 = some (7, 1)) ∧ (WMi E m_Sq_numberAt d [aP x0, aI (ln σ (σ.1 x0 0))] σ (fun v3 σ3 => Q (some (aI v3)) σ3))) : WP E m_Sq_signs (d + 1) 0 [(0, aP x0)] [] σ Q := by
  refine s_aload_n 0 d_Sq_signs_0 rfl rfl ?_
  refine s_aload_n 0 d_Sq_signs_1 rfl rfl ?_
  obtain ⟨g1, h⟩ := h
  refine s_getF (v := σ.1 x0 0) d_Sq_signs_2 fl_Sq_9 rfl g1 rfl ?_
  obtain ⟨g2, h⟩ := h
  refine s_alenS (by decide) d_Sq_signs_5 g2 ?_
  obtain ⟨g4, h⟩ := h
  refine s_callV (as := [aI (ln σ (σ.1 x0 0))]) (ci := 7) d_Sq_signs_6 ok_Sq_numberAt lk_Sq_19 io_Sq_numberAt so_Sq_numberAt (by decide) rfl rfl rfl (Nat.le_of_ble_eq_true rfl) rfl g4 (WM.mono h ?_)
  rintro _ σ3 ⟨v3, rfl, hp, h⟩
  show WP E m_Sq_signs (d + 1) 9 [(0, aP x0)] [aI v3] σ3 Q
  exact s_ireturn d_Sq_signs_9 rfl h
theorem e_Sq_signs {E : EV} {d : Nat} {Q : Option AV → St → Prop} {σ : St} (x0 : Int) (h : (sh σ x0 = some (7, 1)) ∧ (sa σ (σ.1 x0 0) 21) ∧ (sh σ x0 = some (7, 1)) ∧ (WMi E m_Sq_numberAt d [aP x0, aI (ln σ (σ.1 x0 0))] σ (fun v3 σ3 => Q (some (aI v3)) σ3))) : WM E m_Sq_signs (d + 1) [aP x0] σ Q := s_meth (by decide) (Nat.le_of_ble_eq_true rfl) rfl (b_Sq_signs_0 x0 h)
theorem d_Sq_numberAt_0 : decode m_Sq_numberAt.2.1 0 = .ok (.iconst 0, 1) := by decide +kernel
theorem d_Sq_numberAt_1 : decode m_Sq_numberAt.2.1 1 = .ok (.istore_n 2, 1) := by decide +kernel
theorem d_Sq_numberAt_2 : decode m_Sq_numberAt.2.1 2 = .ok (.iconst 0, 1) := by decide +kernel
theorem d_Sq_numberAt_3 : decode m_Sq_numberAt.2.1 3 = .ok (.istore_n 3, 1) := by decide +kernel
theorem d_Sq_numberAt_4 : decode m_Sq_numberAt.2.1 4 = .ok (.iload_n 3, 1) := by decide +kernel
theorem d_Sq_numberAt_5 : decode m_Sq_numberAt.2.1 5 = .ok (.iload_n 1, 1) := by decide +kernel
theorem d_Sq_numberAt_6 : decode m_Sq_numberAt.2.1 6 = .ok (.if_icmp .ge 38, 3) := by decide +kernel
theorem d_Sq_numberAt_9 : decode m_Sq_numberAt.2.1 9 = .ok (.iload_n 3, 1) := by decide +kernel
theorem d_Sq_numberAt_10 : decode m_Sq_numberAt.2.1 10 = .ok (.aload_n 0, 1) := by decide +kernel
theorem d_Sq_numberAt_11 : decode m_Sq_numberAt.2.1 11 = .ok (.getfield 9, 3) := by decide +kernel
theorem d_Sq_numberAt_14 : decode m_Sq_numberAt.2.1 14 = .ok (.arraylength, 1) := by decide +kernel
theorem d_Sq_numberAt_15 : decode m_Sq_numberAt.2.1 15 = .ok (.if_icmp .ge 29, 3) := by decide +kernel
theorem d_Sq_numberAt_18 : decode m_Sq_numberAt.2.1 18 = .ok (.iload_n 2, 1) := by decide +kernel
theorem d_Sq_numberAt_19 : decode m_Sq_numberAt.2.1 19 = .ok (.aload_n 0, 1) := by decide +kernel
theorem d_Sq_numberAt_20 : decode m_Sq_numberAt.2.1 20 = .ok (.getfield 9, 3) := by decide +kernel
theorem d_Sq_numberAt_23 : decode m_Sq_numberAt.2.1 23 = .ok (.iload_n 3, 1) := by decide +kernel
theorem d_Sq_numberAt_24 : decode m_Sq_numberAt.2.1 24 = .ok (.baload, 1) := by decide +kernel
theorem d_Sq_numberAt_25 : decode m_Sq_numberAt.2.1 25 = .ok (.invokestatic 23, 3) := by decide +kernel
theorem d_Sq_numberAt_28 : decode m_Sq_numberAt.2.1 28 = .ok (.ifCond .eq 7, 3) := by decide +kernel
theorem d_Sq_numberAt_31 : decode m_Sq_numberAt.2.1 31 = .ok (.iconst 0, 1) := by decide +kernel
theorem d_Sq_numberAt_32 : decode m_Sq_numberAt.2.1 32 = .ok (.goto 4, 3) := by decide +kernel
theorem d_Sq_numberAt_35 : decode m_Sq_numberAt.2.1 35 = .ok (.iconst 1, 1) := by decide +kernel
theorem d_Sq_numberAt_36 : decode m_Sq_numberAt.2.1 36 = .ok (.iadd, 1) := by decide +kernel
theorem d_Sq_numberAt_37 : decode m_Sq_numberAt.2.1 37 = .ok (.istore_n 2, 1) := by decide +kernel
theorem d_Sq_numberAt_38 : decode m_Sq_numberAt.2.1 38 = .ok (.iinc 3 1, 3) := by decide +kernel
theorem d_Sq_numberAt_41 : decode m_Sq_numberAt.2.1 41 = .ok (.goto (-37), 3) := by decide +kernel
theorem d_Sq_numberAt_44 : decode m_Sq_numberAt.2.1 44 = .ok (.iload_n 2, 1) := by decide +kernel
theorem d_Sq_numberAt_45 : decode m_Sq_numberAt.2.1 45 = .ok (.ireturn, 1) := by decide +kernel
theorem b_Sq_numberAt_0 {E : EV} {d : Nat} {Q : Option AV → St → Prop} {σ : St} (x0 x1 : Int) (h : WP E m_Sq_numberAt (d + 1) 4 [(0, aP x0), (1, aI x1), (2, aI 0), (3, aI 0)] [] σ Q) : WP E m_Sq_numberAt (d + 1) 0 [(0, aP x0), (1, aI x1)] [] σ Q := by
  refine s_iconst d_Sq_numberAt_0 ?_
  refine s_istore_n d_Sq_numberAt_1 rfl (by decide) rfl ?_
  refine s_iconst d_Sq_numberAt_2 ?_
  refine s_istore_n d_Sq_numberAt_3 rfl (by decide) rfl ?_
  refine wp_drop [2, 3, 1, 0] rfl ?_
  exact h
theorem e_Sq_numberAt {E : EV} {d : Nat} {Q : Option AV → St → Prop} {σ : St} (x0 x1 : Int) (h : WP E m_Sq_numberAt (d + 1) 4 [(0, aP x0), (1, aI x1), (2, aI 0), (3, aI 0)] [] σ Q) : WM E m_Sq_numberAt (d + 1) [aP x0, aI x1] σ Q := s_meth (by decide) (Nat.le_of_ble_eq_true rfl) rfl (b_Sq_numberAt_0 x0 x1 h)
theorem b_Sq_numberAt_4 {E : EV} {d : Nat} {Q : Option AV → St → Prop} {σ : St} (x0 x1 x2 x3 : Int) (h : (rI x3) ∧ (rI x1) ∧ ((x1 ≤ x3 → Q (some (aI x2)) σ) ∧ (¬ x1 ≤ x3 → (sh σ x0 = some (7, 1)) ∧ (sa σ (σ.1 x0 0) 21) ∧ (rI x3) ∧ (rI (ln σ (σ.1 x0 0))) ∧ (((ln σ (σ.1 x0 0)) ≤ x3 → Q (some (aI x2)) σ) ∧ (¬ (ln σ (σ.1 x0 0)) ≤ x3 → (sh σ x0 = some (7, 1)) ∧ (inb σ (σ.1 x0 0) 21 x3) ∧ (WMi E m_S_isJoint d [aI (σ.1 (σ.1 x0 0) x3)] σ (fun v9 σ9 => (rI v9) ∧ ((v9 = 0 → WP E m_Sq_numberAt (d + 1) 36 [(0, aP x0), (1, aI x1), (3, aI x3)] [aI 1, aI x2] σ9 Q) ∧ (¬ v9 = 0 → WP E m_Sq_numberAt (d + 1) 36 [(0, aP x0), (1, aI x1), (3, aI x3)] [aI 0, aI x2] σ9 Q))))))))) : WP E m_Sq_numberAt (d + 1) 4 [(0, aP x0), (1, aI x1), (2, aI x2), (3, aI x3)] [] σ Q := by
  refine s_iload_n 3 d_Sq_numberAt_4 rfl rfl ?_
  refine s_iload_n 1 d_Sq_numberAt_5 rfl rfl ?_
  obtain ⟨g1, h⟩ := h
  obtain ⟨g2, h⟩ := h
  refine s_icmp_ge d_Sq_numberAt_6 rfl g1 g2 (fun c => ?_) (fun c => ?_)
  · have h := h.1 c
    refine s_iload_n 2 d_Sq_numberAt_44 rfl rfl ?_
    exact s_ireturn d_Sq_numberAt_45 rfl h
  · have h := h.2 c
    refine s_iload_n 3 d_Sq_numberAt_9 rfl rfl ?_
    refine s_aload_n 0 d_Sq_numberAt_10 rfl rfl ?_
    obtain ⟨g3, h⟩ := h
    refine s_getF (v := σ.1 x0 0) d_Sq_numberAt_11 fl_Sq_9 rfl g3 rfl ?_
    obtain ⟨g4, h⟩ := h
    refine s_alenS (by decide) d_Sq_numberAt_14 g4 ?_
    obtain ⟨g5, h⟩ := h
    obtain ⟨g6, h⟩ := h
    refine s_icmp_ge d_Sq_numberAt_15 rfl g5 g6 (fun c => ?_) (fun c => ?_)
    · have h := h.1 c
      refine s_iload_n 2 d_Sq_numberAt_44 rfl rfl ?_
      exact s_ireturn d_Sq_numberAt_45 rfl h
    · have h := h.2 c
      refine s_iload_n 2 d_Sq_numberAt_18 rfl rfl ?_
      refine s_aload_n 0 d_Sq_numberAt_19 rfl rfl ?_
      obtain ⟨g7, h⟩ := h
      refine s_getF (v := σ.1 x0 0) d_Sq_numberAt_20 fl_Sq_9 rfl g7 rfl ?_
      refine s_iload_n 3 d_Sq_numberAt_23 rfl rfl ?_
      obtain ⟨g8, h⟩ := h
      refine s_baloadv (v := σ.1 (σ.1 x0 0) x3) (by decide) d_Sq_numberAt_24 g8 rfl ?_
      refine s_callS (as := [aI (σ.1 (σ.1 x0 0) x3)]) d_Sq_numberAt_25 ok_S_isJoint lk_Sq_23 to_S_isJoint rfl (Nat.le_of_ble_eq_true rfl) rfl (WM.mono h ?_)
      rintro _ σ9 ⟨v9, rfl, hp, h⟩
      show WP E m_Sq_numberAt (d + 1) 28 [(0, aP x0), (1, aI x1), (2, aI x2), (3, aI x3)] [aI v9, aI x2] σ9 Q
      obtain ⟨g10, h⟩ := h
      refine s_if_eq d_Sq_numberAt_28 rfl g10 (fun c => ?_) (fun c => ?_)
      · have h := h.1 c
        refine s_iconst d_Sq_numberAt_35 ?_
        refine wp_drop [0, 1, 3] rfl ?_
        exact h
      · have h := h.2 c
        refine s_iconst d_Sq_numberAt_31 ?_
        refine s_goto d_Sq_numberAt_32 rfl ?_
        refine wp_drop [0, 1, 3] rfl ?_
        exact h
theorem b_Sq_numberAt_36 {E : EV} {d : Nat} {Q : Option AV → St → Prop} {σ : St} (x0 x1 x3 s0 s1 : Int) (h : WP E m_Sq_numberAt (d + 1) 4 [(0, aP x0), (1, aI x1), (2, aI (s0 + s1)), (3, aI (x3 + 1))] [] σ Q) : WP E m_Sq_numberAt (d + 1) 36 [(0, aP x0), (1, aI x1), (3, aI x3)] [aI s1, aI s0] σ Q := by
  refine s_iadd d_Sq_numberAt_36 ?_
  refine s_istore_n d_Sq_numberAt_37 rfl (by decide) rfl ?_
  refine s_iinc 3 d_Sq_numberAt_38 rfl (by decide) rfl ?_
  refine s_goto d_Sq_numberAt_41 rfl ?_
  refine wp_drop [2, 3, 1, 0] rfl ?_
  exact h
theorem d_Sq_links_0 : decode m_Sq_links.2.1 0 = .ok (.iconst 1, 1) := by decide +kernel
theorem d_Sq_links_1 : decode m_Sq_links.2.1 1 = .ok (.istore_n 3, 1) := by decide +kernel
theorem d_Sq_links_2 : decode m_Sq_links.2.1 2 = .ok (.iconst 0, 1) := by decide +kernel
theorem d_Sq_links_3 : decode m_Sq_links.2.1 3 = .ok (.iload_n 1, 1) := by decide +kernel
theorem d_Sq_links_4 : decode m_Sq_links.2.1 4 = .ok (.invokestatic 39, 3) := by decide +kernel
theorem d_Sq_links_7 : decode m_Sq_links.2.1 7 = .ok (.istore 4, 2) := by decide +kernel
theorem d_Sq_links_9 : decode m_Sq_links.2.1 9 = .ok (.iload 4, 2) := by decide +kernel
theorem d_Sq_links_11 : decode m_Sq_links.2.1 11 = .ok (.aload_n 0, 1) := by decide +kernel
theorem d_Sq_links_12 : decode m_Sq_links.2.1 12 = .ok (.getfield 9, 3) := by decide +kernel
theorem d_Sq_links_15 : decode m_Sq_links.2.1 15 = .ok (.arraylength, 1) := by decide +kernel
theorem d_Sq_links_16 : decode m_Sq_links.2.1 16 = .ok (.if_icmp .ge 37, 3) := by decide +kernel
theorem d_Sq_links_19 : decode m_Sq_links.2.1 19 = .ok (.aload_n 0, 1) := by decide +kernel
theorem d_Sq_links_20 : decode m_Sq_links.2.1 20 = .ok (.getfield 9, 3) := by decide +kernel
theorem d_Sq_links_23 : decode m_Sq_links.2.1 23 = .ok (.iload 4, 2) := by decide +kernel
theorem d_Sq_links_25 : decode m_Sq_links.2.1 25 = .ok (.baload, 1) := by decide +kernel
theorem d_Sq_links_26 : decode m_Sq_links.2.1 26 = .ok (.iload_n 2, 1) := by decide +kernel
theorem d_Sq_links_27 : decode m_Sq_links.2.1 27 = .ok (.if_icmp .ne 26, 3) := by decide +kernel
theorem d_Sq_links_30 : decode m_Sq_links.2.1 30 = .ok (.iinc 3 1, 3) := by decide +kernel
theorem d_Sq_links_33 : decode m_Sq_links.2.1 33 = .ok (.iload 4, 2) := by decide +kernel
theorem d_Sq_links_35 : decode m_Sq_links.2.1 35 = .ok (.iconst 1, 1) := by decide +kernel
theorem d_Sq_links_36 : decode m_Sq_links.2.1 36 = .ok (.iadd, 1) := by decide +kernel
theorem d_Sq_links_37 : decode m_Sq_links.2.1 37 = .ok (.aload_n 0, 1) := by decide +kernel
theorem d_Sq_links_38 : decode m_Sq_links.2.1 38 = .ok (.iload 4, 2) := by decide +kernel
theorem d_Sq_links_40 : decode m_Sq_links.2.1 40 = .ok (.iconst 1, 1) := by decide +kernel
theorem d_Sq_links_41 : decode m_Sq_links.2.1 41 = .ok (.iadd, 1) := by decide +kernel
theorem d_Sq_links_42 : decode m_Sq_links.2.1 42 = .ok (.invokevirtual 36, 3) := by decide +kernel
theorem d_Sq_links_45 : decode m_Sq_links.2.1 45 = .ok (.invokestatic 39, 3) := by decide +kernel
theorem d_Sq_links_48 : decode m_Sq_links.2.1 48 = .ok (.istore 4, 2) := by decide +kernel
theorem d_Sq_links_50 : decode m_Sq_links.2.1 50 = .ok (.goto (-41), 3) := by decide +kernel
theorem d_Sq_links_53 : decode m_Sq_links.2.1 53 = .ok (.iload_n 3, 1) := by decide +kernel
theorem d_Sq_links_54 : decode m_Sq_links.2.1 54 = .ok (.ireturn, 1) := by decide +kernel
theorem b_Sq_links_0 {E : EV} {d : Nat} {Q : Option AV → St → Prop} {σ : St} (x0 x1 x2 : Int) (h : (rI x1) ∧ WP E m_Sq_links (d + 1) 9 [(0, aP x0), (2, aI x2), (3, aI 1), (4, aI (max 0 x1))] [] σ Q) : WP E m_Sq_links (d + 1) 0 [(0, aP x0), (1, aI x1), (2, aI x2)] [] σ Q := by
  refine s_iconst d_Sq_links_0 ?_
  refine s_istore_n d_Sq_links_1 rfl (by decide) rfl ?_
  refine s_iconst d_Sq_links_2 ?_
  refine s_iload_n 2 d_Sq_links_3 rfl rfl ?_
  obtain ⟨g1, h⟩ := h
  refine s_mmax d_Sq_links_4 lm_Sq_39 lm_max_s lm_i lm_max_c (Nat.le_of_ble_eq_true rfl) (by decide) g1 ?_
  refine s_istore d_Sq_links_7 (by decide) rfl ?_
  refine wp_drop [2, 4, 1, 0] rfl ?_
  exact h
theorem e_Sq_links {E : EV} {d : Nat} {Q : Option AV → St → Prop} {σ : St} (x0 x1 x2 : Int) (h : (rI x1) ∧ WP E m_Sq_links (d + 1) 9 [(0, aP x0), (2, aI x2), (3, aI 1), (4, aI (max 0 x1))] [] σ Q) : WM E m_Sq_links (d + 1) [aP x0, aI x1, aI x2] σ Q := s_meth (by decide) (Nat.le_of_ble_eq_true rfl) rfl (b_Sq_links_0 x0 x1 x2 h)
theorem b_Sq_links_9 {E : EV} {d : Nat} {Q : Option AV → St → Prop} {σ : St} (x0 x2 x3 x4 : Int) (h : (sh σ x0 = some (7, 1)) ∧ (sa σ (σ.1 x0 0) 21) ∧ (rI x4) ∧ (rI (ln σ (σ.1 x0 0))) ∧ (((ln σ (σ.1 x0 0)) ≤ x4 → Q (some (aI x3)) σ) ∧ (¬ (ln σ (σ.1 x0 0)) ≤ x4 → (sh σ x0 = some (7, 1)) ∧ (inb σ (σ.1 x0 0) 21 x4) ∧ (rI (σ.1 (σ.1 x0 0) x4)) ∧ (rI x2) ∧ ((¬ (σ.1 (σ.1 x0 0) x4) = x2 → Q (some (aI x3)) σ) ∧ ((σ.1 (σ.1 x0 0) x4) = x2 → (sh σ x0 = some (7, 1)) ∧ (WMi E m_Sq_endOf d [aP x0, aI (x4 + 1)] σ (fun v9 σ9 => (rI (x4 + 1)) ∧ (rI v9) ∧ WP E m_Sq_links (d + 1) 9 [(0, aP x0), (2, aI x2), (3, aI (x3 + 1)), (4, aI (max (x4 + 1) v9))] [] σ9 Q))))))) : WP E m_Sq_links (d + 1) 9 [(0, aP x0), (2, aI x2), (3, aI x3), (4, aI x4)] [] σ Q := by
  refine s_iload 3 d_Sq_links_9 rfl ?_
  refine s_aload_n 0 d_Sq_links_11 rfl rfl ?_
  obtain ⟨g1, h⟩ := h
  refine s_getF (v := σ.1 x0 0) d_Sq_links_12 fl_Sq_9 rfl g1 rfl ?_
  obtain ⟨g2, h⟩ := h
  refine s_alenS (by decide) d_Sq_links_15 g2 ?_
  obtain ⟨g3, h⟩ := h
  obtain ⟨g4, h⟩ := h
  refine s_icmp_ge d_Sq_links_16 rfl g3 g4 (fun c => ?_) (fun c => ?_)
  · have h := h.1 c
    refine s_iload_n 2 d_Sq_links_53 rfl rfl ?_
    exact s_ireturn d_Sq_links_54 rfl h
  · have h := h.2 c
    refine s_aload_n 0 d_Sq_links_19 rfl rfl ?_
    obtain ⟨g5, h⟩ := h
    refine s_getF (v := σ.1 x0 0) d_Sq_links_20 fl_Sq_9 rfl g5 rfl ?_
    refine s_iload 3 d_Sq_links_23 rfl ?_
    obtain ⟨g6, h⟩ := h
    refine s_baloadv (v := σ.1 (σ.1 x0 0) x4) (by decide) d_Sq_links_25 g6 rfl ?_
    refine s_iload_n 1 d_Sq_links_26 rfl rfl ?_
    obtain ⟨g7, h⟩ := h
    obtain ⟨g8, h⟩ := h
    refine s_icmp_ne d_Sq_links_27 rfl g7 g8 (fun c => ?_) (fun c => ?_)
    · have h := h.1 c
      refine s_iload_n 2 d_Sq_links_53 rfl rfl ?_
      exact s_ireturn d_Sq_links_54 rfl h
    · have h := h.2 c
      refine s_iinc 2 d_Sq_links_30 rfl (by decide) rfl ?_
      refine s_iload 3 d_Sq_links_33 rfl ?_
      refine s_iconst d_Sq_links_35 ?_
      refine s_iadd d_Sq_links_36 ?_
      refine s_aload_n 1 d_Sq_links_37 rfl rfl ?_
      refine s_iload 3 d_Sq_links_38 rfl ?_
      refine s_iconst d_Sq_links_40 ?_
      refine s_iadd d_Sq_links_41 ?_
      obtain ⟨g10, h⟩ := h
      refine s_callV (as := [aI (x4 + 1)]) (ci := 7) d_Sq_links_42 ok_Sq_endOf lk_Sq_36 io_Sq_endOf so_Sq_endOf (by decide) rfl rfl rfl (Nat.le_of_ble_eq_true rfl) rfl g10 (WM.mono h ?_)
      rintro _ σ9 ⟨v9, rfl, hp, h⟩
      show WP E m_Sq_links (d + 1) 45 [(3, aI (x3 + 1)), (0, aP x0), (2, aI x2), (4, aI x4)] [aI v9, aI (x4 + 1)] σ9 Q
      obtain ⟨g11, h⟩ := h
      obtain ⟨g12, h⟩ := h
      refine s_mmax d_Sq_links_45 lm_Sq_39 lm_max_s lm_i lm_max_c (Nat.le_of_ble_eq_true rfl) g11 g12 ?_
      refine s_istore d_Sq_links_48 (by decide) rfl ?_
      refine s_goto d_Sq_links_50 rfl ?_
      refine wp_drop [2, 3, 1, 0] rfl ?_
      exact h
theorem d_Sq_linkPlace_0 : decode m_Sq_linkPlace.2.1 0 = .ok (.iconst 0, 1) := by decide +kernel
theorem d_Sq_linkPlace_1 : decode m_Sq_linkPlace.2.1 1 = .ok (.iload_n 1, 1) := by decide +kernel
theorem d_Sq_linkPlace_2 : decode m_Sq_linkPlace.2.1 2 = .ok (.invokestatic 39, 3) := by decide +kernel
theorem d_Sq_linkPlace_5 : decode m_Sq_linkPlace.2.1 5 = .ok (.istore 4, 2) := by decide +kernel
theorem d_Sq_linkPlace_7 : decode m_Sq_linkPlace.2.1 7 = .ok (.iconst 0, 1) := by decide +kernel
theorem d_Sq_linkPlace_8 : decode m_Sq_linkPlace.2.1 8 = .ok (.istore 5, 2) := by decide +kernel
theorem d_Sq_linkPlace_10 : decode m_Sq_linkPlace.2.1 10 = .ok (.iload 5, 2) := by decide +kernel
theorem d_Sq_linkPlace_12 : decode m_Sq_linkPlace.2.1 12 = .ok (.iload_n 3, 1) := by decide +kernel
theorem d_Sq_linkPlace_13 : decode m_Sq_linkPlace.2.1 13 = .ok (.if_icmp .ge 40, 3) := by decide +kernel
theorem d_Sq_linkPlace_16 : decode m_Sq_linkPlace.2.1 16 = .ok (.iload 4, 2) := by decide +kernel
theorem d_Sq_linkPlace_18 : decode m_Sq_linkPlace.2.1 18 = .ok (.aload_n 0, 1) := by decide +kernel
theorem d_Sq_linkPlace_19 : decode m_Sq_linkPlace.2.1 19 = .ok (.getfield 9, 3) := by decide +kernel
theorem d_Sq_linkPlace_22 : decode m_Sq_linkPlace.2.1 22 = .ok (.arraylength, 1) := by decide +kernel
theorem d_Sq_linkPlace_23 : decode m_Sq_linkPlace.2.1 23 = .ok (.if_icmp .ge 30, 3) := by decide +kernel
theorem d_Sq_linkPlace_26 : decode m_Sq_linkPlace.2.1 26 = .ok (.aload_n 0, 1) := by decide +kernel
theorem d_Sq_linkPlace_27 : decode m_Sq_linkPlace.2.1 27 = .ok (.getfield 9, 3) := by decide +kernel
theorem d_Sq_linkPlace_30 : decode m_Sq_linkPlace.2.1 30 = .ok (.iload 4, 2) := by decide +kernel
theorem d_Sq_linkPlace_32 : decode m_Sq_linkPlace.2.1 32 = .ok (.baload, 1) := by decide +kernel
theorem d_Sq_linkPlace_33 : decode m_Sq_linkPlace.2.1 33 = .ok (.iload_n 2, 1) := by decide +kernel
theorem d_Sq_linkPlace_34 : decode m_Sq_linkPlace.2.1 34 = .ok (.if_icmp .ne 19, 3) := by decide +kernel
theorem d_Sq_linkPlace_37 : decode m_Sq_linkPlace.2.1 37 = .ok (.aload_n 0, 1) := by decide +kernel
theorem d_Sq_linkPlace_38 : decode m_Sq_linkPlace.2.1 38 = .ok (.iload 4, 2) := by decide +kernel
theorem d_Sq_linkPlace_40 : decode m_Sq_linkPlace.2.1 40 = .ok (.iconst 1, 1) := by decide +kernel
theorem d_Sq_linkPlace_41 : decode m_Sq_linkPlace.2.1 41 = .ok (.iadd, 1) := by decide +kernel
theorem d_Sq_linkPlace_42 : decode m_Sq_linkPlace.2.1 42 = .ok (.invokevirtual 36, 3) := by decide +kernel
theorem d_Sq_linkPlace_45 : decode m_Sq_linkPlace.2.1 45 = .ok (.istore 4, 2) := by decide +kernel
theorem d_Sq_linkPlace_47 : decode m_Sq_linkPlace.2.1 47 = .ok (.iinc 5 1, 3) := by decide +kernel
theorem d_Sq_linkPlace_50 : decode m_Sq_linkPlace.2.1 50 = .ok (.goto (-40), 3) := by decide +kernel
theorem d_Sq_linkPlace_53 : decode m_Sq_linkPlace.2.1 53 = .ok (.iload 4, 2) := by decide +kernel
theorem d_Sq_linkPlace_55 : decode m_Sq_linkPlace.2.1 55 = .ok (.aload_n 0, 1) := by decide +kernel
theorem d_Sq_linkPlace_56 : decode m_Sq_linkPlace.2.1 56 = .ok (.getfield 9, 3) := by decide +kernel
theorem d_Sq_linkPlace_59 : decode m_Sq_linkPlace.2.1 59 = .ok (.arraylength, 1) := by decide +kernel
theorem d_Sq_linkPlace_60 : decode m_Sq_linkPlace.2.1 60 = .ok (.if_icmp .ge 21, 3) := by decide +kernel
theorem d_Sq_linkPlace_63 : decode m_Sq_linkPlace.2.1 63 = .ok (.aload_n 0, 1) := by decide +kernel
theorem d_Sq_linkPlace_64 : decode m_Sq_linkPlace.2.1 64 = .ok (.getfield 9, 3) := by decide +kernel
theorem d_Sq_linkPlace_67 : decode m_Sq_linkPlace.2.1 67 = .ok (.iload 4, 2) := by decide +kernel
theorem d_Sq_linkPlace_69 : decode m_Sq_linkPlace.2.1 69 = .ok (.baload, 1) := by decide +kernel
theorem d_Sq_linkPlace_70 : decode m_Sq_linkPlace.2.1 70 = .ok (.iload_n 2, 1) := by decide +kernel
theorem d_Sq_linkPlace_71 : decode m_Sq_linkPlace.2.1 71 = .ok (.if_icmp .ne 10, 3) := by decide +kernel
theorem d_Sq_linkPlace_74 : decode m_Sq_linkPlace.2.1 74 = .ok (.iload 4, 2) := by decide +kernel
theorem d_Sq_linkPlace_76 : decode m_Sq_linkPlace.2.1 76 = .ok (.iconst 1, 1) := by decide +kernel
theorem d_Sq_linkPlace_77 : decode m_Sq_linkPlace.2.1 77 = .ok (.iadd, 1) := by decide +kernel
theorem d_Sq_linkPlace_78 : decode m_Sq_linkPlace.2.1 78 = .ok (.goto 5, 3) := by decide +kernel
theorem d_Sq_linkPlace_81 : decode m_Sq_linkPlace.2.1 81 = .ok (.iload 4, 2) := by decide +kernel
theorem d_Sq_linkPlace_83 : decode m_Sq_linkPlace.2.1 83 = .ok (.ireturn, 1) := by decide +kernel
theorem b_Sq_linkPlace_0 {E : EV} {d : Nat} {Q : Option AV → St → Prop} {σ : St} (x0 x1 x2 x3 : Int) (h : (rI x1) ∧ WP E m_Sq_linkPlace (d + 1) 10 [(0, aP x0), (2, aI x2), (3, aI x3), (4, aI (max 0 x1)), (5, aI 0)] [] σ Q) : WP E m_Sq_linkPlace (d + 1) 0 [(0, aP x0), (1, aI x1), (2, aI x2), (3, aI x3)] [] σ Q := by
  refine s_iconst d_Sq_linkPlace_0 ?_
  refine s_iload_n 1 d_Sq_linkPlace_1 rfl rfl ?_
  obtain ⟨g1, h⟩ := h
  refine s_mmax d_Sq_linkPlace_2 lm_Sq_39 lm_max_s lm_i lm_max_c (Nat.le_of_ble_eq_true rfl) (by decide) g1 ?_
  refine s_istore d_Sq_linkPlace_5 (by decide) rfl ?_
  refine s_iconst d_Sq_linkPlace_7 ?_
  refine s_istore d_Sq_linkPlace_8 (by decide) rfl ?_
  refine wp_drop [2, 4, 5, 1, 0] rfl ?_
  exact h
theorem e_Sq_linkPlace {E : EV} {d : Nat} {Q : Option AV → St → Prop} {σ : St} (x0 x1 x2 x3 : Int) (h : (rI x1) ∧ WP E m_Sq_linkPlace (d + 1) 10 [(0, aP x0), (2, aI x2), (3, aI x3), (4, aI (max 0 x1)), (5, aI 0)] [] σ Q) : WM E m_Sq_linkPlace (d + 1) [aP x0, aI x1, aI x2, aI x3] σ Q := s_meth (by decide) (Nat.le_of_ble_eq_true rfl) rfl (b_Sq_linkPlace_0 x0 x1 x2 x3 h)
theorem b_Sq_linkPlace_10 {E : EV} {d : Nat} {Q : Option AV → St → Prop} {σ : St} (x0 x2 x3 x4 x5 : Int) (h : (rI x5) ∧ (rI x3) ∧ ((x3 ≤ x5 → WP E m_Sq_linkPlace (d + 1) 53 [(0, aP x0), (2, aI x2), (4, aI x4)] [] σ Q) ∧ (¬ x3 ≤ x5 → (sh σ x0 = some (7, 1)) ∧ (sa σ (σ.1 x0 0) 21) ∧ (rI x4) ∧ (rI (ln σ (σ.1 x0 0))) ∧ (((ln σ (σ.1 x0 0)) ≤ x4 → WP E m_Sq_linkPlace (d + 1) 53 [(0, aP x0), (2, aI x2), (4, aI x4)] [] σ Q) ∧ (¬ (ln σ (σ.1 x0 0)) ≤ x4 → (sh σ x0 = some (7, 1)) ∧ (inb σ (σ.1 x0 0) 21 x4) ∧ (rI (σ.1 (σ.1 x0 0) x4)) ∧ (rI x2) ∧ ((¬ (σ.1 (σ.1 x0 0) x4) = x2 → WP E m_Sq_linkPlace (d + 1) 53 [(0, aP x0), (2, aI x2), (4, aI x4)] [] σ Q) ∧ ((σ.1 (σ.1 x0 0) x4) = x2 → (sh σ x0 = some (7, 1)) ∧ (WMi E m_Sq_endOf d [aP x0, aI (x4 + 1)] σ (fun v11 σ11 => WP E m_Sq_linkPlace (d + 1) 10 [(0, aP x0), (2, aI x2), (3, aI x3), (4, aI v11), (5, aI (x5 + 1))] [] σ11 Q))))))))) : WP E m_Sq_linkPlace (d + 1) 10 [(0, aP x0), (2, aI x2), (3, aI x3), (4, aI x4), (5, aI x5)] [] σ Q := by
  refine s_iload 4 d_Sq_linkPlace_10 rfl ?_
  refine s_iload_n 2 d_Sq_linkPlace_12 rfl rfl ?_
  obtain ⟨g1, h⟩ := h
  obtain ⟨g2, h⟩ := h
  refine s_icmp_ge d_Sq_linkPlace_13 rfl g1 g2 (fun c => ?_) (fun c => ?_)
  · have h := h.1 c
    refine wp_drop [0, 1, 3] rfl ?_
    exact h
  · have h := h.2 c
    refine s_iload 3 d_Sq_linkPlace_16 rfl ?_
    refine s_aload_n 0 d_Sq_linkPlace_18 rfl rfl ?_
    obtain ⟨g3, h⟩ := h
    refine s_getF (v := σ.1 x0 0) d_Sq_linkPlace_19 fl_Sq_9 rfl g3 rfl ?_
    obtain ⟨g4, h⟩ := h
    refine s_alenS (by decide) d_Sq_linkPlace_22 g4 ?_
    obtain ⟨g5, h⟩ := h
    obtain ⟨g6, h⟩ := h
    refine s_icmp_ge d_Sq_linkPlace_23 rfl g5 g6 (fun c => ?_) (fun c => ?_)
    · have h := h.1 c
      refine wp_drop [0, 1, 3] rfl ?_
      exact h
    · have h := h.2 c
      refine s_aload_n 0 d_Sq_linkPlace_26 rfl rfl ?_
      obtain ⟨g7, h⟩ := h
      refine s_getF (v := σ.1 x0 0) d_Sq_linkPlace_27 fl_Sq_9 rfl g7 rfl ?_
      refine s_iload 3 d_Sq_linkPlace_30 rfl ?_
      obtain ⟨g8, h⟩ := h
      refine s_baloadv (v := σ.1 (σ.1 x0 0) x4) (by decide) d_Sq_linkPlace_32 g8 rfl ?_
      refine s_iload_n 1 d_Sq_linkPlace_33 rfl rfl ?_
      obtain ⟨g9, h⟩ := h
      obtain ⟨g10, h⟩ := h
      refine s_icmp_ne d_Sq_linkPlace_34 rfl g9 g10 (fun c => ?_) (fun c => ?_)
      · have h := h.1 c
        refine wp_drop [0, 1, 3] rfl ?_
        exact h
      · have h := h.2 c
        refine s_aload_n 0 d_Sq_linkPlace_37 rfl rfl ?_
        refine s_iload 3 d_Sq_linkPlace_38 rfl ?_
        refine s_iconst d_Sq_linkPlace_40 ?_
        refine s_iadd d_Sq_linkPlace_41 ?_
        obtain ⟨g12, h⟩ := h
        refine s_callV (as := [aI (x4 + 1)]) (ci := 7) d_Sq_linkPlace_42 ok_Sq_endOf lk_Sq_36 io_Sq_endOf so_Sq_endOf (by decide) rfl rfl rfl (Nat.le_of_ble_eq_true rfl) rfl g12 (WM.mono h ?_)
        rintro _ σ11 ⟨v11, rfl, hp, h⟩
        show WP E m_Sq_linkPlace (d + 1) 45 [(0, aP x0), (2, aI x2), (3, aI x3), (4, aI x4), (5, aI x5)] [aI v11] σ11 Q
        refine s_istore d_Sq_linkPlace_45 (by decide) rfl ?_
        refine s_iinc 4 d_Sq_linkPlace_47 rfl (by decide) rfl ?_
        refine s_goto d_Sq_linkPlace_50 rfl ?_
        refine wp_drop [2, 3, 4, 1, 0] rfl ?_
        exact h
theorem b_Sq_linkPlace_53 {E : EV} {d : Nat} {Q : Option AV → St → Prop} {σ : St} (x0 x2 x4 : Int) (h : (sh σ x0 = some (7, 1)) ∧ (sa σ (σ.1 x0 0) 21) ∧ (rI x4) ∧ (rI (ln σ (σ.1 x0 0))) ∧ (((ln σ (σ.1 x0 0)) ≤ x4 → Q (some (aI x4)) σ) ∧ (¬ (ln σ (σ.1 x0 0)) ≤ x4 → (sh σ x0 = some (7, 1)) ∧ (inb σ (σ.1 x0 0) 21 x4) ∧ (rI (σ.1 (σ.1 x0 0) x4)) ∧ (rI x2) ∧ ((¬ (σ.1 (σ.1 x0 0) x4) = x2 → Q (some (aI x4)) σ) ∧ ((σ.1 (σ.1 x0 0) x4) = x2 → Q (some (aI (x4 + 1))) σ))))) : WP E m_Sq_linkPlace (d + 1) 53 [(0, aP x0), (2, aI x2), (4, aI x4)] [] σ Q := by
  refine s_iload 2 d_Sq_linkPlace_53 rfl ?_
  refine s_aload_n 0 d_Sq_linkPlace_55 rfl rfl ?_
  obtain ⟨g1, h⟩ := h
  refine s_getF (v := σ.1 x0 0) d_Sq_linkPlace_56 fl_Sq_9 rfl g1 rfl ?_
  obtain ⟨g2, h⟩ := h
  refine s_alenS (by decide) d_Sq_linkPlace_59 g2 ?_
  obtain ⟨g3, h⟩ := h
  obtain ⟨g4, h⟩ := h
  refine s_icmp_ge d_Sq_linkPlace_60 rfl g3 g4 (fun c => ?_) (fun c => ?_)
  · have h := h.1 c
    refine s_iload 2 d_Sq_linkPlace_81 rfl ?_
    exact s_ireturn d_Sq_linkPlace_83 rfl h
  · have h := h.2 c
    refine s_aload_n 0 d_Sq_linkPlace_63 rfl rfl ?_
    obtain ⟨g5, h⟩ := h
    refine s_getF (v := σ.1 x0 0) d_Sq_linkPlace_64 fl_Sq_9 rfl g5 rfl ?_
    refine s_iload 2 d_Sq_linkPlace_67 rfl ?_
    obtain ⟨g6, h⟩ := h
    refine s_baloadv (v := σ.1 (σ.1 x0 0) x4) (by decide) d_Sq_linkPlace_69 g6 rfl ?_
    refine s_iload_n 1 d_Sq_linkPlace_70 rfl rfl ?_
    obtain ⟨g7, h⟩ := h
    obtain ⟨g8, h⟩ := h
    refine s_icmp_ne d_Sq_linkPlace_71 rfl g7 g8 (fun c => ?_) (fun c => ?_)
    · have h := h.1 c
      refine s_iload 2 d_Sq_linkPlace_81 rfl ?_
      exact s_ireturn d_Sq_linkPlace_83 rfl h
    · have h := h.2 c
      refine s_iload 2 d_Sq_linkPlace_74 rfl ?_
      refine s_iconst d_Sq_linkPlace_76 ?_
      refine s_iadd d_Sq_linkPlace_77 ?_
      refine s_goto d_Sq_linkPlace_78 rfl ?_
      exact s_ireturn d_Sq_linkPlace_83 rfl h
theorem d_Sq_outerSigns_0 : decode m_Sq_outerSigns.2.1 0 = .ok (.iconst 0, 1) := by decide +kernel
theorem d_Sq_outerSigns_1 : decode m_Sq_outerSigns.2.1 1 = .ok (.istore_n 1, 1) := by decide +kernel
theorem d_Sq_outerSigns_2 : decode m_Sq_outerSigns.2.1 2 = .ok (.iconst 0, 1) := by decide +kernel
theorem d_Sq_outerSigns_3 : decode m_Sq_outerSigns.2.1 3 = .ok (.istore_n 2, 1) := by decide +kernel
theorem d_Sq_outerSigns_4 : decode m_Sq_outerSigns.2.1 4 = .ok (.iload_n 2, 1) := by decide +kernel
theorem d_Sq_outerSigns_5 : decode m_Sq_outerSigns.2.1 5 = .ok (.aload_n 0, 1) := by decide +kernel
theorem d_Sq_outerSigns_6 : decode m_Sq_outerSigns.2.1 6 = .ok (.getfield 9, 3) := by decide +kernel
theorem d_Sq_outerSigns_9 : decode m_Sq_outerSigns.2.1 9 = .ok (.arraylength, 1) := by decide +kernel
theorem d_Sq_outerSigns_10 : decode m_Sq_outerSigns.2.1 10 = .ok (.if_icmp .ge 50, 3) := by decide +kernel
theorem d_Sq_outerSigns_13 : decode m_Sq_outerSigns.2.1 13 = .ok (.aload_n 0, 1) := by decide +kernel
theorem d_Sq_outerSigns_14 : decode m_Sq_outerSigns.2.1 14 = .ok (.getfield 9, 3) := by decide +kernel
theorem d_Sq_outerSigns_17 : decode m_Sq_outerSigns.2.1 17 = .ok (.iload_n 2, 1) := by decide +kernel
theorem d_Sq_outerSigns_18 : decode m_Sq_outerSigns.2.1 18 = .ok (.baload, 1) := by decide +kernel
theorem d_Sq_outerSigns_19 : decode m_Sq_outerSigns.2.1 19 = .ok (.invokestatic 23, 3) := by decide +kernel
theorem d_Sq_outerSigns_22 : decode m_Sq_outerSigns.2.1 22 = .ok (.istore_n 3, 1) := by decide +kernel
theorem d_Sq_outerSigns_23 : decode m_Sq_outerSigns.2.1 23 = .ok (.iload_n 1, 1) := by decide +kernel
theorem d_Sq_outerSigns_24 : decode m_Sq_outerSigns.2.1 24 = .ok (.iload_n 3, 1) := by decide +kernel
theorem d_Sq_outerSigns_25 : decode m_Sq_outerSigns.2.1 25 = .ok (.ifCond .eq 7, 3) := by decide +kernel
theorem d_Sq_outerSigns_28 : decode m_Sq_outerSigns.2.1 28 = .ok (.iconst 0, 1) := by decide +kernel
theorem d_Sq_outerSigns_29 : decode m_Sq_outerSigns.2.1 29 = .ok (.goto 4, 3) := by decide +kernel
theorem d_Sq_outerSigns_32 : decode m_Sq_outerSigns.2.1 32 = .ok (.iconst 1, 1) := by decide +kernel
theorem d_Sq_outerSigns_33 : decode m_Sq_outerSigns.2.1 33 = .ok (.iadd, 1) := by decide +kernel
theorem d_Sq_outerSigns_34 : decode m_Sq_outerSigns.2.1 34 = .ok (.istore_n 1, 1) := by decide +kernel
theorem d_Sq_outerSigns_35 : decode m_Sq_outerSigns.2.1 35 = .ok (.iload_n 3, 1) := by decide +kernel
theorem d_Sq_outerSigns_36 : decode m_Sq_outerSigns.2.1 36 = .ok (.ifCond .eq 9, 3) := by decide +kernel
theorem d_Sq_outerSigns_39 : decode m_Sq_outerSigns.2.1 39 = .ok (.iload_n 2, 1) := by decide +kernel
theorem d_Sq_outerSigns_40 : decode m_Sq_outerSigns.2.1 40 = .ok (.iconst 1, 1) := by decide +kernel
theorem d_Sq_outerSigns_41 : decode m_Sq_outerSigns.2.1 41 = .ok (.iadd, 1) := by decide +kernel
theorem d_Sq_outerSigns_42 : decode m_Sq_outerSigns.2.1 42 = .ok (.goto 14, 3) := by decide +kernel
theorem d_Sq_outerSigns_45 : decode m_Sq_outerSigns.2.1 45 = .ok (.iload_n 2, 1) := by decide +kernel
theorem d_Sq_outerSigns_46 : decode m_Sq_outerSigns.2.1 46 = .ok (.iconst 1, 1) := by decide +kernel
theorem d_Sq_outerSigns_47 : decode m_Sq_outerSigns.2.1 47 = .ok (.iadd, 1) := by decide +kernel
theorem d_Sq_outerSigns_48 : decode m_Sq_outerSigns.2.1 48 = .ok (.aload_n 0, 1) := by decide +kernel
theorem d_Sq_outerSigns_49 : decode m_Sq_outerSigns.2.1 49 = .ok (.iload_n 2, 1) := by decide +kernel
theorem d_Sq_outerSigns_50 : decode m_Sq_outerSigns.2.1 50 = .ok (.invokevirtual 36, 3) := by decide +kernel
theorem d_Sq_outerSigns_53 : decode m_Sq_outerSigns.2.1 53 = .ok (.invokestatic 39, 3) := by decide +kernel
theorem d_Sq_outerSigns_56 : decode m_Sq_outerSigns.2.1 56 = .ok (.istore_n 2, 1) := by decide +kernel
theorem d_Sq_outerSigns_57 : decode m_Sq_outerSigns.2.1 57 = .ok (.goto (-53), 3) := by decide +kernel
theorem d_Sq_outerSigns_60 : decode m_Sq_outerSigns.2.1 60 = .ok (.iload_n 1, 1) := by decide +kernel
theorem d_Sq_outerSigns_61 : decode m_Sq_outerSigns.2.1 61 = .ok (.ireturn, 1) := by decide +kernel
theorem b_Sq_outerSigns_0 {E : EV} {d : Nat} {Q : Option AV → St → Prop} {σ : St} (x0 : Int) (h : WP E m_Sq_outerSigns (d + 1) 4 [(0, aP x0), (1, aI 0), (2, aI 0)] [] σ Q) : WP E m_Sq_outerSigns (d + 1) 0 [(0, aP x0)] [] σ Q := by
  refine s_iconst d_Sq_outerSigns_0 ?_
  refine s_istore_n d_Sq_outerSigns_1 rfl (by decide) rfl ?_
  refine s_iconst d_Sq_outerSigns_2 ?_
  refine s_istore_n d_Sq_outerSigns_3 rfl (by decide) rfl ?_
  refine wp_drop [2, 1, 0] rfl ?_
  exact h
theorem e_Sq_outerSigns {E : EV} {d : Nat} {Q : Option AV → St → Prop} {σ : St} (x0 : Int) (h : WP E m_Sq_outerSigns (d + 1) 4 [(0, aP x0), (1, aI 0), (2, aI 0)] [] σ Q) : WM E m_Sq_outerSigns (d + 1) [aP x0] σ Q := s_meth (by decide) (Nat.le_of_ble_eq_true rfl) rfl (b_Sq_outerSigns_0 x0 h)
theorem b_Sq_outerSigns_4 {E : EV} {d : Nat} {Q : Option AV → St → Prop} {σ : St} (x0 x1 x2 : Int) (h : (sh σ x0 = some (7, 1)) ∧ (sa σ (σ.1 x0 0) 21) ∧ (rI x2) ∧ (rI (ln σ (σ.1 x0 0))) ∧ (((ln σ (σ.1 x0 0)) ≤ x2 → Q (some (aI x1)) σ) ∧ (¬ (ln σ (σ.1 x0 0)) ≤ x2 → (sh σ x0 = some (7, 1)) ∧ (inb σ (σ.1 x0 0) 21 x2) ∧ (WMi E m_S_isJoint d [aI (σ.1 (σ.1 x0 0) x2)] σ (fun v7 σ7 => (rI v7) ∧ ((v7 = 0 → WP E m_Sq_outerSigns (d + 1) 33 [(0, aP x0), (2, aI x2), (3, aI v7)] [aI 1, aI x1] σ7 Q) ∧ (¬ v7 = 0 → WP E m_Sq_outerSigns (d + 1) 33 [(0, aP x0), (2, aI x2), (3, aI v7)] [aI 0, aI x1] σ7 Q))))))) : WP E m_Sq_outerSigns (d + 1) 4 [(0, aP x0), (1, aI x1), (2, aI x2)] [] σ Q := by
  refine s_iload_n 2 d_Sq_outerSigns_4 rfl rfl ?_
  refine s_aload_n 0 d_Sq_outerSigns_5 rfl rfl ?_
  obtain ⟨g1, h⟩ := h
  refine s_getF (v := σ.1 x0 0) d_Sq_outerSigns_6 fl_Sq_9 rfl g1 rfl ?_
  obtain ⟨g2, h⟩ := h
  refine s_alenS (by decide) d_Sq_outerSigns_9 g2 ?_
  obtain ⟨g3, h⟩ := h
  obtain ⟨g4, h⟩ := h
  refine s_icmp_ge d_Sq_outerSigns_10 rfl g3 g4 (fun c => ?_) (fun c => ?_)
  · have h := h.1 c
    refine s_iload_n 1 d_Sq_outerSigns_60 rfl rfl ?_
    exact s_ireturn d_Sq_outerSigns_61 rfl h
  · have h := h.2 c
    refine s_aload_n 0 d_Sq_outerSigns_13 rfl rfl ?_
    obtain ⟨g5, h⟩ := h
    refine s_getF (v := σ.1 x0 0) d_Sq_outerSigns_14 fl_Sq_9 rfl g5 rfl ?_
    refine s_iload_n 2 d_Sq_outerSigns_17 rfl rfl ?_
    obtain ⟨g6, h⟩ := h
    refine s_baloadv (v := σ.1 (σ.1 x0 0) x2) (by decide) d_Sq_outerSigns_18 g6 rfl ?_
    refine s_callS (as := [aI (σ.1 (σ.1 x0 0) x2)]) d_Sq_outerSigns_19 ok_S_isJoint lk_Sq_23 to_S_isJoint rfl (Nat.le_of_ble_eq_true rfl) rfl (WM.mono h ?_)
    rintro _ σ7 ⟨v7, rfl, hp, h⟩
    show WP E m_Sq_outerSigns (d + 1) 22 [(0, aP x0), (1, aI x1), (2, aI x2)] [aI v7] σ7 Q
    refine s_istore_n d_Sq_outerSigns_22 rfl (by decide) rfl ?_
    refine s_iload_n 2 d_Sq_outerSigns_23 rfl rfl ?_
    refine s_iload_n 0 d_Sq_outerSigns_24 rfl rfl ?_
    obtain ⟨g8, h⟩ := h
    refine s_if_eq d_Sq_outerSigns_25 rfl g8 (fun c => ?_) (fun c => ?_)
    · have h := h.1 c
      refine s_iconst d_Sq_outerSigns_32 ?_
      refine wp_drop [1, 3, 0] rfl ?_
      exact h
    · have h := h.2 c
      refine s_iconst d_Sq_outerSigns_28 ?_
      refine s_goto d_Sq_outerSigns_29 rfl ?_
      refine wp_drop [1, 3, 0] rfl ?_
      exact h
theorem b_Sq_outerSigns_33 {E : EV} {d : Nat} {Q : Option AV → St → Prop} {σ : St} (x0 x2 x3 s0 s1 : Int) (h : (rI x3) ∧ ((x3 = 0 → (sh σ x0 = some (7, 1)) ∧ (WMi E m_Sq_endOf d [aP x0, aI x2] σ (fun v2 σ2 => (rI (x2 + 1)) ∧ (rI v2) ∧ WP E m_Sq_outerSigns (d + 1) 56 [(0, aP x0), (1, aI (s0 + s1))] [aI (max (x2 + 1) v2)] σ2 Q))) ∧ (¬ x3 = 0 → WP E m_Sq_outerSigns (d + 1) 56 [(0, aP x0), (1, aI (s0 + s1))] [aI (x2 + 1)] σ Q))) : WP E m_Sq_outerSigns (d + 1) 33 [(0, aP x0), (2, aI x2), (3, aI x3)] [aI s1, aI s0] σ Q := by
  refine s_iadd d_Sq_outerSigns_33 ?_
  refine s_istore_n d_Sq_outerSigns_34 rfl (by decide) rfl ?_
  refine s_iload_n 3 d_Sq_outerSigns_35 rfl rfl ?_
  obtain ⟨g1, h⟩ := h
  refine s_if_eq d_Sq_outerSigns_36 rfl g1 (fun c => ?_) (fun c => ?_)
  · have h := h.1 c
    refine s_iload_n 2 d_Sq_outerSigns_45 rfl rfl ?_
    refine s_iconst d_Sq_outerSigns_46 ?_
    refine s_iadd d_Sq_outerSigns_47 ?_
    refine s_aload_n 1 d_Sq_outerSigns_48 rfl rfl ?_
    refine s_iload_n 2 d_Sq_outerSigns_49 rfl rfl ?_
    obtain ⟨g3, h⟩ := h
    refine s_callV (as := [aI x2]) (ci := 7) d_Sq_outerSigns_50 ok_Sq_endOf lk_Sq_36 io_Sq_endOf so_Sq_endOf (by decide) rfl rfl rfl (Nat.le_of_ble_eq_true rfl) rfl g3 (WM.mono h ?_)
    rintro _ σ2 ⟨v2, rfl, hp, h⟩
    show WP E m_Sq_outerSigns (d + 1) 53 [(1, aI (s0 + s1)), (0, aP x0), (2, aI x2), (3, aI x3)] [aI v2, aI (x2 + 1)] σ2 Q
    obtain ⟨g4, h⟩ := h
    obtain ⟨g5, h⟩ := h
    refine s_mmax d_Sq_outerSigns_53 lm_Sq_39 lm_max_s lm_i lm_max_c (Nat.le_of_ble_eq_true rfl) g4 g5 ?_
    refine wp_drop [1, 0] rfl ?_
    exact h
  · have h := h.2 c
    refine s_iload_n 2 d_Sq_outerSigns_39 rfl rfl ?_
    refine s_iconst d_Sq_outerSigns_40 ?_
    refine s_iadd d_Sq_outerSigns_41 ?_
    refine s_goto d_Sq_outerSigns_42 rfl ?_
    refine wp_drop [1, 0] rfl ?_
    exact h
theorem b_Sq_outerSigns_56 {E : EV} {d : Nat} {Q : Option AV → St → Prop} {σ : St} (x0 x1 s0 : Int) (h : WP E m_Sq_outerSigns (d + 1) 4 [(0, aP x0), (1, aI x1), (2, aI s0)] [] σ Q) : WP E m_Sq_outerSigns (d + 1) 56 [(0, aP x0), (1, aI x1)] [aI s0] σ Q := by
  refine s_istore_n d_Sq_outerSigns_56 rfl (by decide) rfl ?_
  refine s_goto d_Sq_outerSigns_57 rfl ?_
  refine wp_drop [1, 2, 0] rfl ?_
  exact h
theorem d_Sq_isLike_0 : decode m_Sq_isLike.2.1 0 = .ok (.aload_n 1, 1) := by decide +kernel
theorem d_Sq_isLike_1 : decode m_Sq_isLike.2.1 1 = .ok (.ifnull 16, 3) := by decide +kernel
theorem d_Sq_isLike_4 : decode m_Sq_isLike.2.1 4 = .ok (.aload_n 1, 1) := by decide +kernel
theorem d_Sq_isLike_5 : decode m_Sq_isLike.2.1 5 = .ok (.getfield 9, 3) := by decide +kernel
theorem d_Sq_isLike_8 : decode m_Sq_isLike.2.1 8 = .ok (.arraylength, 1) := by decide +kernel
theorem d_Sq_isLike_9 : decode m_Sq_isLike.2.1 9 = .ok (.aload_n 0, 1) := by decide +kernel
theorem d_Sq_isLike_10 : decode m_Sq_isLike.2.1 10 = .ok (.getfield 9, 3) := by decide +kernel
theorem d_Sq_isLike_13 : decode m_Sq_isLike.2.1 13 = .ok (.arraylength, 1) := by decide +kernel
theorem d_Sq_isLike_14 : decode m_Sq_isLike.2.1 14 = .ok (.if_icmp .eq 5, 3) := by decide +kernel
theorem d_Sq_isLike_17 : decode m_Sq_isLike.2.1 17 = .ok (.iconst 0, 1) := by decide +kernel
theorem d_Sq_isLike_18 : decode m_Sq_isLike.2.1 18 = .ok (.ireturn, 1) := by decide +kernel
theorem d_Sq_isLike_19 : decode m_Sq_isLike.2.1 19 = .ok (.iconst 0, 1) := by decide +kernel
theorem d_Sq_isLike_20 : decode m_Sq_isLike.2.1 20 = .ok (.istore_n 2, 1) := by decide +kernel
theorem d_Sq_isLike_21 : decode m_Sq_isLike.2.1 21 = .ok (.iload_n 2, 1) := by decide +kernel
theorem d_Sq_isLike_22 : decode m_Sq_isLike.2.1 22 = .ok (.aload_n 0, 1) := by decide +kernel
theorem d_Sq_isLike_23 : decode m_Sq_isLike.2.1 23 = .ok (.getfield 9, 3) := by decide +kernel
theorem d_Sq_isLike_26 : decode m_Sq_isLike.2.1 26 = .ok (.arraylength, 1) := by decide +kernel
theorem d_Sq_isLike_27 : decode m_Sq_isLike.2.1 27 = .ok (.if_icmp .ge 35, 3) := by decide +kernel
theorem d_Sq_isLike_30 : decode m_Sq_isLike.2.1 30 = .ok (.iload_n 2, 1) := by decide +kernel
theorem d_Sq_isLike_31 : decode m_Sq_isLike.2.1 31 = .ok (.aload_n 1, 1) := by decide +kernel
theorem d_Sq_isLike_32 : decode m_Sq_isLike.2.1 32 = .ok (.getfield 9, 3) := by decide +kernel
theorem d_Sq_isLike_35 : decode m_Sq_isLike.2.1 35 = .ok (.arraylength, 1) := by decide +kernel
theorem d_Sq_isLike_36 : decode m_Sq_isLike.2.1 36 = .ok (.if_icmp .ge 26, 3) := by decide +kernel
theorem d_Sq_isLike_39 : decode m_Sq_isLike.2.1 39 = .ok (.aload_n 0, 1) := by decide +kernel
theorem d_Sq_isLike_40 : decode m_Sq_isLike.2.1 40 = .ok (.getfield 9, 3) := by decide +kernel
theorem d_Sq_isLike_43 : decode m_Sq_isLike.2.1 43 = .ok (.iload_n 2, 1) := by decide +kernel
theorem d_Sq_isLike_44 : decode m_Sq_isLike.2.1 44 = .ok (.baload, 1) := by decide +kernel
theorem d_Sq_isLike_45 : decode m_Sq_isLike.2.1 45 = .ok (.aload_n 1, 1) := by decide +kernel
theorem d_Sq_isLike_46 : decode m_Sq_isLike.2.1 46 = .ok (.getfield 9, 3) := by decide +kernel
theorem d_Sq_isLike_49 : decode m_Sq_isLike.2.1 49 = .ok (.iload_n 2, 1) := by decide +kernel
theorem d_Sq_isLike_50 : decode m_Sq_isLike.2.1 50 = .ok (.baload, 1) := by decide +kernel
theorem d_Sq_isLike_51 : decode m_Sq_isLike.2.1 51 = .ok (.if_icmp .eq 5, 3) := by decide +kernel
theorem d_Sq_isLike_54 : decode m_Sq_isLike.2.1 54 = .ok (.iconst 0, 1) := by decide +kernel
theorem d_Sq_isLike_55 : decode m_Sq_isLike.2.1 55 = .ok (.ireturn, 1) := by decide +kernel
theorem d_Sq_isLike_56 : decode m_Sq_isLike.2.1 56 = .ok (.iinc 2 1, 3) := by decide +kernel
theorem d_Sq_isLike_59 : decode m_Sq_isLike.2.1 59 = .ok (.goto (-38), 3) := by decide +kernel
theorem d_Sq_isLike_62 : decode m_Sq_isLike.2.1 62 = .ok (.iconst 1, 1) := by decide +kernel
theorem d_Sq_isLike_63 : decode m_Sq_isLike.2.1 63 = .ok (.ireturn, 1) := by decide +kernel
theorem b_Sq_isLike_0 {E : EV} {d : Nat} {Q : Option AV → St → Prop} {σ : St} (x0 x1 : Int) (h : ((x1 = 0 → Q (some (aI 0)) σ) ∧ (¬ x1 = 0 → (sh σ x1 = some (7, 1)) ∧ (sa σ (σ.1 x1 0) 21) ∧ (sh σ x0 = some (7, 1)) ∧ (sa σ (σ.1 x0 0) 21) ∧ (rI (ln σ (σ.1 x1 0))) ∧ (rI (ln σ (σ.1 x0 0))) ∧ (((ln σ (σ.1 x1 0)) = (ln σ (σ.1 x0 0)) → WP E m_Sq_isLike d 21 [(0, aP x0), (1, aP x1), (2, aI 0)] [] σ Q) ∧ (¬ (ln σ (σ.1 x1 0)) = (ln σ (σ.1 x0 0)) → Q (some (aI 0)) σ))))) : WP E m_Sq_isLike d 0 [(0, aP x0), (1, aP x1)] [] σ Q := by
  refine s_aload_n 1 d_Sq_isLike_0 rfl rfl ?_
  refine s_ifnull d_Sq_isLike_1 rfl (fun c => ?_) (fun c => ?_)
  · have h := h.1 c
    refine s_iconst d_Sq_isLike_17 ?_
    exact s_zreturn d_Sq_isLike_18 rfl (by decide) h
  · have h := h.2 c
    refine s_aload_n 1 d_Sq_isLike_4 rfl rfl ?_
    obtain ⟨g1, h⟩ := h
    refine s_getF (v := σ.1 x1 0) d_Sq_isLike_5 fl_Sq_9 rfl g1 rfl ?_
    obtain ⟨g2, h⟩ := h
    refine s_alenS (by decide) d_Sq_isLike_8 g2 ?_
    refine s_aload_n 0 d_Sq_isLike_9 rfl rfl ?_
    obtain ⟨g3, h⟩ := h
    refine s_getF (v := σ.1 x0 0) d_Sq_isLike_10 fl_Sq_9 rfl g3 rfl ?_
    obtain ⟨g4, h⟩ := h
    refine s_alenS (by decide) d_Sq_isLike_13 g4 ?_
    obtain ⟨g5, h⟩ := h
    obtain ⟨g6, h⟩ := h
    refine s_icmp_eq d_Sq_isLike_14 rfl g5 g6 (fun c => ?_) (fun c => ?_)
    · have h := h.1 c
      refine s_iconst d_Sq_isLike_19 ?_
      refine s_istore_n d_Sq_isLike_20 rfl (by decide) rfl ?_
      refine wp_drop [1, 2, 0] rfl ?_
      exact h
    · have h := h.2 c
      refine s_iconst d_Sq_isLike_17 ?_
      exact s_zreturn d_Sq_isLike_18 rfl (by decide) h
theorem e_Sq_isLike {E : EV} {d : Nat} {Q : Option AV → St → Prop} {σ : St} (x0 x1 : Int) (h : ((x1 = 0 → Q (some (aI 0)) σ) ∧ (¬ x1 = 0 → (sh σ x1 = some (7, 1)) ∧ (sa σ (σ.1 x1 0) 21) ∧ (sh σ x0 = some (7, 1)) ∧ (sa σ (σ.1 x0 0) 21) ∧ (rI (ln σ (σ.1 x1 0))) ∧ (rI (ln σ (σ.1 x0 0))) ∧ (((ln σ (σ.1 x1 0)) = (ln σ (σ.1 x0 0)) → WP E m_Sq_isLike d 21 [(0, aP x0), (1, aP x1), (2, aI 0)] [] σ Q) ∧ (¬ (ln σ (σ.1 x1 0)) = (ln σ (σ.1 x0 0)) → Q (some (aI 0)) σ))))) : WM E m_Sq_isLike d [aP x0, aP x1] σ Q := s_meth (by decide) (Nat.le_of_ble_eq_true rfl) rfl (b_Sq_isLike_0 x0 x1 h)
theorem b_Sq_isLike_21 {E : EV} {d : Nat} {Q : Option AV → St → Prop} {σ : St} (x0 x1 x2 : Int) (h : (sh σ x0 = some (7, 1)) ∧ (sa σ (σ.1 x0 0) 21) ∧ (rI x2) ∧ (rI (ln σ (σ.1 x0 0))) ∧ (((ln σ (σ.1 x0 0)) ≤ x2 → Q (some (aI 1)) σ) ∧ (¬ (ln σ (σ.1 x0 0)) ≤ x2 → (sh σ x1 = some (7, 1)) ∧ (sa σ (σ.1 x1 0) 21) ∧ (rI x2) ∧ (rI (ln σ (σ.1 x1 0))) ∧ (((ln σ (σ.1 x1 0)) ≤ x2 → Q (some (aI 1)) σ) ∧ (¬ (ln σ (σ.1 x1 0)) ≤ x2 → (sh σ x0 = some (7, 1)) ∧ (inb σ (σ.1 x0 0) 21 x2) ∧ (sh σ x1 = some (7, 1)) ∧ (inb σ (σ.1 x1 0) 21 x2) ∧ (rI (σ.1 (σ.1 x0 0) x2)) ∧ (rI (σ.1 (σ.1 x1 0) x2)) ∧ (((σ.1 (σ.1 x0 0) x2) = (σ.1 (σ.1 x1 0) x2) → WP E m_Sq_isLike d 21 [(0, aP x0), (1, aP x1), (2, aI (x2 + 1))] [] σ Q) ∧ (¬ (σ.1 (σ.1 x0 0) x2) = (σ.1 (σ.1 x1 0) x2) → Q (some (aI 0)) σ))))))) : WP E m_Sq_isLike d 21 [(0, aP x0), (1, aP x1), (2, aI x2)] [] σ Q := by
  refine s_iload_n 2 d_Sq_isLike_21 rfl rfl ?_
  refine s_aload_n 0 d_Sq_isLike_22 rfl rfl ?_
  obtain ⟨g1, h⟩ := h
  refine s_getF (v := σ.1 x0 0) d_Sq_isLike_23 fl_Sq_9 rfl g1 rfl ?_
  obtain ⟨g2, h⟩ := h
  refine s_alenS (by decide) d_Sq_isLike_26 g2 ?_
  obtain ⟨g3, h⟩ := h
  obtain ⟨g4, h⟩ := h
  refine s_icmp_ge d_Sq_isLike_27 rfl g3 g4 (fun c => ?_) (fun c => ?_)
  · have h := h.1 c
    refine s_iconst d_Sq_isLike_62 ?_
    exact s_zreturn d_Sq_isLike_63 rfl (by decide) h
  · have h := h.2 c
    refine s_iload_n 2 d_Sq_isLike_30 rfl rfl ?_
    refine s_aload_n 1 d_Sq_isLike_31 rfl rfl ?_
    obtain ⟨g5, h⟩ := h
    refine s_getF (v := σ.1 x1 0) d_Sq_isLike_32 fl_Sq_9 rfl g5 rfl ?_
    obtain ⟨g6, h⟩ := h
    refine s_alenS (by decide) d_Sq_isLike_35 g6 ?_
    obtain ⟨g7, h⟩ := h
    obtain ⟨g8, h⟩ := h
    refine s_icmp_ge d_Sq_isLike_36 rfl g7 g8 (fun c => ?_) (fun c => ?_)
    · have h := h.1 c
      refine s_iconst d_Sq_isLike_62 ?_
      exact s_zreturn d_Sq_isLike_63 rfl (by decide) h
    · have h := h.2 c
      refine s_aload_n 0 d_Sq_isLike_39 rfl rfl ?_
      obtain ⟨g9, h⟩ := h
      refine s_getF (v := σ.1 x0 0) d_Sq_isLike_40 fl_Sq_9 rfl g9 rfl ?_
      refine s_iload_n 2 d_Sq_isLike_43 rfl rfl ?_
      obtain ⟨g10, h⟩ := h
      refine s_baloadv (v := σ.1 (σ.1 x0 0) x2) (by decide) d_Sq_isLike_44 g10 rfl ?_
      refine s_aload_n 1 d_Sq_isLike_45 rfl rfl ?_
      obtain ⟨g11, h⟩ := h
      refine s_getF (v := σ.1 x1 0) d_Sq_isLike_46 fl_Sq_9 rfl g11 rfl ?_
      refine s_iload_n 2 d_Sq_isLike_49 rfl rfl ?_
      obtain ⟨g12, h⟩ := h
      refine s_baloadv (v := σ.1 (σ.1 x1 0) x2) (by decide) d_Sq_isLike_50 g12 rfl ?_
      obtain ⟨g13, h⟩ := h
      obtain ⟨g14, h⟩ := h
      refine s_icmp_eq d_Sq_isLike_51 rfl g13 g14 (fun c => ?_) (fun c => ?_)
      · have h := h.1 c
        refine s_iinc 2 d_Sq_isLike_56 rfl (by decide) rfl ?_
        refine s_goto d_Sq_isLike_59 rfl ?_
        refine wp_drop [1, 2, 0] rfl ?_
        exact h
      · have h := h.2 c
        refine s_iconst d_Sq_isLike_54 ?_
        exact s_zreturn d_Sq_isLike_55 rfl (by decide) h
theorem d_Sq_timesOf_0 : decode m_Sq_timesOf.2.1 0 = .ok (.iconst 0, 1) := by decide +kernel
theorem d_Sq_timesOf_1 : decode m_Sq_timesOf.2.1 1 = .ok (.istore_n 2, 1) := by decide +kernel
theorem d_Sq_timesOf_2 : decode m_Sq_timesOf.2.1 2 = .ok (.aload_n 0, 1) := by decide +kernel
theorem d_Sq_timesOf_3 : decode m_Sq_timesOf.2.1 3 = .ok (.getfield 9, 3) := by decide +kernel
theorem d_Sq_timesOf_6 : decode m_Sq_timesOf.2.1 6 = .ok (.astore_n 3, 1) := by decide +kernel
theorem d_Sq_timesOf_7 : decode m_Sq_timesOf.2.1 7 = .ok (.aload_n 3, 1) := by decide +kernel
theorem d_Sq_timesOf_8 : decode m_Sq_timesOf.2.1 8 = .ok (.arraylength, 1) := by decide +kernel
theorem d_Sq_timesOf_9 : decode m_Sq_timesOf.2.1 9 = .ok (.istore 4, 2) := by decide +kernel
theorem d_Sq_timesOf_11 : decode m_Sq_timesOf.2.1 11 = .ok (.iconst 0, 1) := by decide +kernel
theorem d_Sq_timesOf_12 : decode m_Sq_timesOf.2.1 12 = .ok (.istore 5, 2) := by decide +kernel
theorem d_Sq_timesOf_14 : decode m_Sq_timesOf.2.1 14 = .ok (.iload 5, 2) := by decide +kernel
theorem d_Sq_timesOf_16 : decode m_Sq_timesOf.2.1 16 = .ok (.iload 4, 2) := by decide +kernel
theorem d_Sq_timesOf_18 : decode m_Sq_timesOf.2.1 18 = .ok (.if_icmp .ge 32, 3) := by decide +kernel
theorem d_Sq_timesOf_21 : decode m_Sq_timesOf.2.1 21 = .ok (.aload_n 3, 1) := by decide +kernel
theorem d_Sq_timesOf_22 : decode m_Sq_timesOf.2.1 22 = .ok (.iload 5, 2) := by decide +kernel
theorem d_Sq_timesOf_24 : decode m_Sq_timesOf.2.1 24 = .ok (.baload, 1) := by decide +kernel
theorem d_Sq_timesOf_25 : decode m_Sq_timesOf.2.1 25 = .ok (.istore 6, 2) := by decide +kernel
theorem d_Sq_timesOf_27 : decode m_Sq_timesOf.2.1 27 = .ok (.iload_n 2, 1) := by decide +kernel
theorem d_Sq_timesOf_28 : decode m_Sq_timesOf.2.1 28 = .ok (.iload 6, 2) := by decide +kernel
theorem d_Sq_timesOf_30 : decode m_Sq_timesOf.2.1 30 = .ok (.invokestatic 42, 3) := by decide +kernel
theorem d_Sq_timesOf_33 : decode m_Sq_timesOf.2.1 33 = .ok (.iload_n 1, 1) := by decide +kernel
theorem d_Sq_timesOf_34 : decode m_Sq_timesOf.2.1 34 = .ok (.if_icmp .ne 7, 3) := by decide +kernel
theorem d_Sq_timesOf_37 : decode m_Sq_timesOf.2.1 37 = .ok (.iconst 1, 1) := by decide +kernel
theorem d_Sq_timesOf_38 : decode m_Sq_timesOf.2.1 38 = .ok (.goto 4, 3) := by decide +kernel
theorem d_Sq_timesOf_41 : decode m_Sq_timesOf.2.1 41 = .ok (.iconst 0, 1) := by decide +kernel
theorem d_Sq_timesOf_42 : decode m_Sq_timesOf.2.1 42 = .ok (.iadd, 1) := by decide +kernel
theorem d_Sq_timesOf_43 : decode m_Sq_timesOf.2.1 43 = .ok (.istore_n 2, 1) := by decide +kernel
theorem d_Sq_timesOf_44 : decode m_Sq_timesOf.2.1 44 = .ok (.iinc 5 1, 3) := by decide +kernel
theorem d_Sq_timesOf_47 : decode m_Sq_timesOf.2.1 47 = .ok (.goto (-33), 3) := by decide +kernel
theorem d_Sq_timesOf_50 : decode m_Sq_timesOf.2.1 50 = .ok (.iload_n 2, 1) := by decide +kernel
theorem d_Sq_timesOf_51 : decode m_Sq_timesOf.2.1 51 = .ok (.ireturn, 1) := by decide +kernel
theorem b_Sq_timesOf_0 {E : EV} {d : Nat} {Q : Option AV → St → Prop} {σ : St} (x0 x1 : Int) (h : (sh σ x0 = some (7, 1)) ∧ (sa σ (σ.1 x0 0) 21) ∧ WP E m_Sq_timesOf (d + 1) 14 [(1, aI x1), (2, aI 0), (3, aP (σ.1 x0 0)), (4, aI (ln σ (σ.1 x0 0))), (5, aI 0)] [] σ Q) : WP E m_Sq_timesOf (d + 1) 0 [(0, aP x0), (1, aI x1)] [] σ Q := by
  refine s_iconst d_Sq_timesOf_0 ?_
  refine s_istore_n d_Sq_timesOf_1 rfl (by decide) rfl ?_
  refine s_aload_n 1 d_Sq_timesOf_2 rfl rfl ?_
  obtain ⟨g1, h⟩ := h
  refine s_getF (v := σ.1 x0 0) d_Sq_timesOf_3 fl_Sq_9 rfl g1 rfl ?_
  refine s_astore_n d_Sq_timesOf_6 rfl (by decide) rfl ?_
  refine s_aload_n 0 d_Sq_timesOf_7 rfl rfl ?_
  obtain ⟨g2, h⟩ := h
  refine s_alenS (by decide) d_Sq_timesOf_8 g2 ?_
  refine s_istore d_Sq_timesOf_9 (by decide) rfl ?_
  refine s_iconst d_Sq_timesOf_11 ?_
  refine s_istore d_Sq_timesOf_12 (by decide) rfl ?_
  refine wp_drop [5, 3, 2, 1, 0] rfl ?_
  exact h
theorem e_Sq_timesOf {E : EV} {d : Nat} {Q : Option AV → St → Prop} {σ : St} (x0 x1 : Int) (h : (sh σ x0 = some (7, 1)) ∧ (sa σ (σ.1 x0 0) 21) ∧ WP E m_Sq_timesOf (d + 1) 14 [(1, aI x1), (2, aI 0), (3, aP (σ.1 x0 0)), (4, aI (ln σ (σ.1 x0 0))), (5, aI 0)] [] σ Q) : WM E m_Sq_timesOf (d + 1) [aP x0, aI x1] σ Q := s_meth (by decide) (Nat.le_of_ble_eq_true rfl) rfl (b_Sq_timesOf_0 x0 x1 h)
theorem b_Sq_timesOf_14 {E : EV} {d : Nat} {Q : Option AV → St → Prop} {σ : St} (x1 x2 x3 x4 x5 : Int) (h : (rI x5) ∧ (rI x4) ∧ ((x4 ≤ x5 → Q (some (aI x2)) σ) ∧ (¬ x4 ≤ x5 → (inb σ x3 21 x5) ∧ (WMi E m_S_letterOf d [aI (σ.1 x3 x5)] σ (fun v4 σ4 => (rI v4) ∧ (rI x1) ∧ ((¬ v4 = x1 → WP E m_Sq_timesOf (d + 1) 42 [(1, aI x1), (3, aP x3), (4, aI x4), (5, aI x5)] [aI 0, aI x2] σ4 Q) ∧ (v4 = x1 → WP E m_Sq_timesOf (d + 1) 42 [(1, aI x1), (3, aP x3), (4, aI x4), (5, aI x5)] [aI 1, aI x2] σ4 Q))))))) : WP E m_Sq_timesOf (d + 1) 14 [(1, aI x1), (2, aI x2), (3, aP x3), (4, aI x4), (5, aI x5)] [] σ Q := by
  refine s_iload 4 d_Sq_timesOf_14 rfl ?_
  refine s_iload 3 d_Sq_timesOf_16 rfl ?_
  obtain ⟨g1, h⟩ := h
  obtain ⟨g2, h⟩ := h
  refine s_icmp_ge d_Sq_timesOf_18 rfl g1 g2 (fun c => ?_) (fun c => ?_)
  · have h := h.1 c
    refine s_iload_n 1 d_Sq_timesOf_50 rfl rfl ?_
    exact s_ireturn d_Sq_timesOf_51 rfl h
  · have h := h.2 c
    refine s_aload_n 2 d_Sq_timesOf_21 rfl rfl ?_
    refine s_iload 4 d_Sq_timesOf_22 rfl ?_
    obtain ⟨g3, h⟩ := h
    refine s_baloadv (v := σ.1 x3 x5) (by decide) d_Sq_timesOf_24 g3 rfl ?_
    refine s_istore d_Sq_timesOf_25 (by decide) rfl ?_
    refine s_iload_n 2 d_Sq_timesOf_27 rfl rfl ?_
    refine s_iload 0 d_Sq_timesOf_28 rfl ?_
    refine s_callS (as := [aI (σ.1 x3 x5)]) d_Sq_timesOf_30 ok_S_letterOf lk_Sq_42 to_S_letterOf rfl (Nat.le_of_ble_eq_true rfl) rfl (WM.mono h ?_)
    rintro _ σ4 ⟨v4, rfl, hp, h⟩
    show WP E m_Sq_timesOf (d + 1) 33 [(6, aI (σ.1 x3 x5)), (1, aI x1), (2, aI x2), (3, aP x3), (4, aI x4), (5, aI x5)] [aI v4, aI x2] σ4 Q
    refine s_iload_n 1 d_Sq_timesOf_33 rfl rfl ?_
    obtain ⟨g5, h⟩ := h
    obtain ⟨g6, h⟩ := h
    refine s_icmp_ne d_Sq_timesOf_34 rfl g5 g6 (fun c => ?_) (fun c => ?_)
    · have h := h.1 c
      refine s_iconst d_Sq_timesOf_41 ?_
      refine wp_drop [1, 3, 4, 5] rfl ?_
      exact h
    · have h := h.2 c
      refine s_iconst d_Sq_timesOf_37 ?_
      refine s_goto d_Sq_timesOf_38 rfl ?_
      refine wp_drop [1, 3, 4, 5] rfl ?_
      exact h
theorem b_Sq_timesOf_42 {E : EV} {d : Nat} {Q : Option AV → St → Prop} {σ : St} (x1 x3 x4 x5 s0 s1 : Int) (h : WP E m_Sq_timesOf (d + 1) 14 [(1, aI x1), (2, aI (s0 + s1)), (3, aP x3), (4, aI x4), (5, aI (x5 + 1))] [] σ Q) : WP E m_Sq_timesOf (d + 1) 42 [(1, aI x1), (3, aP x3), (4, aI x4), (5, aI x5)] [aI s1, aI s0] σ Q := by
  refine s_iadd d_Sq_timesOf_42 ?_
  refine s_istore_n d_Sq_timesOf_43 rfl (by decide) rfl ?_
  refine s_iinc 4 d_Sq_timesOf_44 rfl (by decide) rfl ?_
  refine s_goto d_Sq_timesOf_47 rfl ?_
  refine wp_drop [2, 1, 3, 4, 0] rfl ?_
  exact h
