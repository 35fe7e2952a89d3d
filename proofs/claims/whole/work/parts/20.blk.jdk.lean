theorem d_Long_compare_0 : decode m_Long_compare.2.1 0 = .ok (.lload_n 0, 1) := by decide +kernel
theorem d_Long_compare_1 : decode m_Long_compare.2.1 1 = .ok (.lload_n 2, 1) := by decide +kernel
theorem d_Long_compare_2 : decode m_Long_compare.2.1 2 = .ok (.lcmp, 1) := by decide +kernel
theorem d_Long_compare_3 : decode m_Long_compare.2.1 3 = .ok (.ifCond .ge 7, 3) := by decide +kernel
theorem d_Long_compare_6 : decode m_Long_compare.2.1 6 = .ok (.iconst (-1), 1) := by decide +kernel
theorem d_Long_compare_7 : decode m_Long_compare.2.1 7 = .ok (.goto 14, 3) := by decide +kernel
theorem d_Long_compare_10 : decode m_Long_compare.2.1 10 = .ok (.lload_n 0, 1) := by decide +kernel
theorem d_Long_compare_11 : decode m_Long_compare.2.1 11 = .ok (.lload_n 2, 1) := by decide +kernel
theorem d_Long_compare_12 : decode m_Long_compare.2.1 12 = .ok (.lcmp, 1) := by decide +kernel
theorem d_Long_compare_13 : decode m_Long_compare.2.1 13 = .ok (.ifCond .ne 7, 3) := by decide +kernel
theorem d_Long_compare_16 : decode m_Long_compare.2.1 16 = .ok (.iconst 0, 1) := by decide +kernel
theorem d_Long_compare_17 : decode m_Long_compare.2.1 17 = .ok (.goto 4, 3) := by decide +kernel
theorem d_Long_compare_20 : decode m_Long_compare.2.1 20 = .ok (.iconst 1, 1) := by decide +kernel
theorem d_Long_compare_21 : decode m_Long_compare.2.1 21 = .ok (.ireturn, 1) := by decide +kernel
theorem b_Long_compare_0 {E : EV} {d : Nat} {Q : Option AV → St → Prop} {σ : St} (x0 x2 : Int) (h : (rL x0) ∧ (rL x2) ∧ ((x2 ≤ x0 → (rL x0) ∧ (rL x2) ∧ ((¬ x0 = x2 → Q (some (aI 1)) σ) ∧ (x0 = x2 → Q (some (aI 0)) σ))) ∧ (¬ x2 ≤ x0 → Q (some (aI (-1))) σ))) : WP E m_Long_compare d 0 [(0, aL x0), (2, aL x2)] [] σ Q := by
  refine s_lload_n 0 d_Long_compare_0 rfl rfl ?_
  refine s_lload_n 1 d_Long_compare_1 rfl rfl ?_
  obtain ⟨g1, h⟩ := h
  obtain ⟨g2, h⟩ := h
  refine s_lcmp d_Long_compare_2 g1 g2 ?_
  refine s_if_ge d_Long_compare_3 rfl (lcmp_r _ _) (fun c => ?_) (fun c => ?_)
  · have h := h.1 (lcmp_ge.mp c)
    refine s_lload_n 0 d_Long_compare_10 rfl rfl ?_
    refine s_lload_n 1 d_Long_compare_11 rfl rfl ?_
    obtain ⟨g3, h⟩ := h
    obtain ⟨g4, h⟩ := h
    refine s_lcmp d_Long_compare_12 g3 g4 ?_
    refine s_if_ne d_Long_compare_13 rfl (lcmp_r _ _) (fun c => ?_) (fun c => ?_)
    · have h := h.1 (lcmp_ne.mp c)
      refine s_iconst d_Long_compare_20 ?_
      exact s_ireturn d_Long_compare_21 rfl h
    · have h := h.2 (nlcmp_ne c)
      refine s_iconst d_Long_compare_16 ?_
      refine s_goto d_Long_compare_17 rfl ?_
      exact s_ireturn d_Long_compare_21 rfl h
  · have h := h.2 (nlcmp_ge c)
    refine s_iconst d_Long_compare_6 ?_
    refine s_goto d_Long_compare_7 rfl ?_
    exact s_ireturn d_Long_compare_21 rfl h
theorem e_Long_compare {E : EV} {d : Nat} {Q : Option AV → St → Prop} {σ : St} (x0 x2 : Int) (h : (rL x0) ∧ (rL x2) ∧ ((x2 ≤ x0 → (rL x0) ∧ (rL x2) ∧ ((¬ x0 = x2 → Q (some (aI 1)) σ) ∧ (x0 = x2 → Q (some (aI 0)) σ))) ∧ (¬ x2 ≤ x0 → Q (some (aI (-1))) σ))) : WM E m_Long_compare d [aL x0, aL x2] σ Q := s_meth (by decide) (Nat.le_of_ble_eq_true rfl) rfl (b_Long_compare_0 x0 x2 h)
