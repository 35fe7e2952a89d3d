theorem d_Math_min_0 : decode m_Math_min.2.1 0 = .ok (.iload_n 0, 1) := by decide +kernel
theorem d_Math_min_1 : decode m_Math_min.2.1 1 = .ok (.iload_n 1, 1) := by decide +kernel
theorem d_Math_min_2 : decode m_Math_min.2.1 2 = .ok (.if_icmp .gt 7, 3) := by decide +kernel
theorem d_Math_min_5 : decode m_Math_min.2.1 5 = .ok (.iload_n 0, 1) := by decide +kernel
theorem d_Math_min_6 : decode m_Math_min.2.1 6 = .ok (.goto 4, 3) := by decide +kernel
theorem d_Math_min_9 : decode m_Math_min.2.1 9 = .ok (.iload_n 1, 1) := by decide +kernel
theorem d_Math_min_10 : decode m_Math_min.2.1 10 = .ok (.ireturn, 1) := by decide +kernel
theorem b_Math_min_0 {E : EV} {d : Nat} {Q : Option AV → St → Prop} {σ : St} (x0 x1 : Int) (h : (rI x0) ∧ (rI x1) ∧ ((x1 < x0 → Q (some (aI x1)) σ) ∧ (¬ x1 < x0 → Q (some (aI x0)) σ))) : WP E m_Math_min d 0 [(0, aI x0), (1, aI x1)] [] σ Q := by
  refine s_iload_n 0 d_Math_min_0 rfl rfl ?_
  refine s_iload_n 1 d_Math_min_1 rfl rfl ?_
  obtain ⟨g1, h⟩ := h
  obtain ⟨g2, h⟩ := h
  refine s_icmp_gt d_Math_min_2 rfl g1 g2 (fun c => ?_) (fun c => ?_)
  · have h := h.1 c
    refine s_iload_n 1 d_Math_min_9 rfl rfl ?_
    exact s_ireturn d_Math_min_10 rfl h
  · have h := h.2 c
    refine s_iload_n 0 d_Math_min_5 rfl rfl ?_
    refine s_goto d_Math_min_6 rfl ?_
    exact s_ireturn d_Math_min_10 rfl h
theorem d_Math_max_0 : decode m_Math_max.2.1 0 = .ok (.iload_n 0, 1) := by decide +kernel
theorem d_Math_max_1 : decode m_Math_max.2.1 1 = .ok (.iload_n 1, 1) := by decide +kernel
theorem d_Math_max_2 : decode m_Math_max.2.1 2 = .ok (.if_icmp .lt 7, 3) := by decide +kernel
theorem d_Math_max_5 : decode m_Math_max.2.1 5 = .ok (.iload_n 0, 1) := by decide +kernel
theorem d_Math_max_6 : decode m_Math_max.2.1 6 = .ok (.goto 4, 3) := by decide +kernel
theorem d_Math_max_9 : decode m_Math_max.2.1 9 = .ok (.iload_n 1, 1) := by decide +kernel
theorem d_Math_max_10 : decode m_Math_max.2.1 10 = .ok (.ireturn, 1) := by decide +kernel
theorem b_Math_max_0 {E : EV} {d : Nat} {Q : Option AV → St → Prop} {σ : St} (x0 x1 : Int) (h : (rI x0) ∧ (rI x1) ∧ ((x0 < x1 → Q (some (aI x1)) σ) ∧ (¬ x0 < x1 → Q (some (aI x0)) σ))) : WP E m_Math_max d 0 [(0, aI x0), (1, aI x1)] [] σ Q := by
  refine s_iload_n 0 d_Math_max_0 rfl rfl ?_
  refine s_iload_n 1 d_Math_max_1 rfl rfl ?_
  obtain ⟨g1, h⟩ := h
  obtain ⟨g2, h⟩ := h
  refine s_icmp_lt d_Math_max_2 rfl g1 g2 (fun c => ?_) (fun c => ?_)
  · have h := h.1 c
    refine s_iload_n 1 d_Math_max_9 rfl rfl ?_
    exact s_ireturn d_Math_max_10 rfl h
  · have h := h.2 c
    refine s_iload_n 0 d_Math_max_5 rfl rfl ?_
    refine s_goto d_Math_max_6 rfl ?_
    exact s_ireturn d_Math_max_10 rfl h
theorem d_Math_abs_0 : decode m_Math_abs.2.1 0 = .ok (.lload_n 0, 1) := by decide +kernel
theorem d_Math_abs_1 : decode m_Math_abs.2.1 1 = .ok (.lconst 0, 1) := by decide +kernel
theorem d_Math_abs_2 : decode m_Math_abs.2.1 2 = .ok (.lcmp, 1) := by decide +kernel
theorem d_Math_abs_3 : decode m_Math_abs.2.1 3 = .ok (.ifCond .ge 8, 3) := by decide +kernel
theorem d_Math_abs_6 : decode m_Math_abs.2.1 6 = .ok (.lload_n 0, 1) := by decide +kernel
theorem d_Math_abs_7 : decode m_Math_abs.2.1 7 = .ok (.lneg, 1) := by decide +kernel
theorem d_Math_abs_8 : decode m_Math_abs.2.1 8 = .ok (.goto 4, 3) := by decide +kernel
theorem d_Math_abs_11 : decode m_Math_abs.2.1 11 = .ok (.lload_n 0, 1) := by decide +kernel
theorem d_Math_abs_12 : decode m_Math_abs.2.1 12 = .ok (.lreturn, 1) := by decide +kernel
theorem b_Math_abs_0 {E : EV} {d : Nat} {Q : Option AV → St → Prop} {σ : St} (x0 : Int) (h : (rL x0) ∧ ((0 ≤ x0 → Q (some (aL x0)) σ) ∧ (¬ 0 ≤ x0 → Q (some (aL (-x0))) σ))) : WP E m_Math_abs d 0 [(0, aL x0)] [] σ Q := by
  refine s_lload_n 0 d_Math_abs_0 rfl rfl ?_
  refine s_lconst (v := 0) d_Math_abs_1 rfl ?_
  obtain ⟨g1, h⟩ := h
  refine s_lcmp d_Math_abs_2 g1 (by decide) ?_
  refine s_if_ge d_Math_abs_3 rfl (lcmp_r _ _) (fun c => ?_) (fun c => ?_)
  · have h := h.1 (lcmp_ge.mp c)
    refine s_lload_n 0 d_Math_abs_11 rfl rfl ?_
    exact s_lreturn d_Math_abs_12 rfl h
  · have h := h.2 (nlcmp_ge c)
    refine s_lload_n 0 d_Math_abs_6 rfl rfl ?_
    refine s_lneg d_Math_abs_7 ?_
    refine s_goto d_Math_abs_8 rfl ?_
    exact s_lreturn d_Math_abs_12 rfl h
theorem d_Long_compare_0 : decode m_Long_compare.2.1 0 = .ok (.lload_n 0, 1) := by decide +kernel
theorem d_Long_compare_1 : decode m_Long_compare.2.1 1 = .ok (.lload_n 2, 1) := by decide +kernel
theorem d_Long_compare_2 : decode m_Long_compare.2.1 2 = .ok (.lcmp, 1) := by decide +kernel
theorem d_Long_compare_3 : decode m_Long_compare.2.1 3 = .ok (.ifCond .ge 7, 3) := by decide +kernel
theorem d_Long_compare_6 : decode m_Long_compare.2.1 6 = .ok (.iconst (-1), 1) := by decide +kernel
theorem d_Long_compare_7 : decode m_Long_compare.2.1 7 = .ok (.goto 14, 3) := by decide +kernel
theorem d_Long_compare_10 : decode m_Long_compare.2.1 10 = .ok (.lload_n 0, 1) := by decide +kernel
theorem d_Long_compare_11 : decode m_Long_compare.2.1 11 = .ok (.lload_n 2, 1) := by decide +kernel
theorem d_Long_compare_12 : decode m_Long_compare.2.1 12 = .ok (.lcmp, 1) := by decide +kernel
theorem d_Long_compare_13 : decode m_Long_compare.2.1 13 = .ok (.ifCond .ne 7, 3) := by decide +kernel
theorem d_Long_compare_16 : decode m_Long_compare.2.1 16 = .ok (.iconst 0, 1) := by decide +kernel
theorem d_Long_compare_17 : decode m_Long_compare.2.1 17 = .ok (.goto 4, 3) := by decide +kernel
theorem d_Long_compare_20 : decode m_Long_compare.2.1 20 = .ok (.iconst 1, 1) := by decide +kernel
theorem d_Long_compare_21 : decode m_Long_compare.2.1 21 = .ok (.ireturn, 1) := by decide +kernel
theorem b_Long_compare_0 {E : EV} {d : Nat} {Q : Option AV → St → Prop} {σ : St} (x0 x2 : Int) (h : (rL x0) ∧ (rL x2) ∧ ((x2 ≤ x0 → (rL x0) ∧ (rL x2) ∧ ((¬ x0 = x2 → Q (some (aI 1)) σ) ∧ (x0 = x2 → Q (some (aI 0)) σ))) ∧ (¬ x2 ≤ x0 → Q (some (aI (-1))) σ))) : WP E m_Long_compare d 0 [(0, aL x0), (2, aL x2)] [] σ Q := by
  refine s_lload_n 0 d_Long_compare_0 rfl rfl ?_
  refine s_lload_n 1 d_Long_compare_1 rfl rfl ?_
  obtain ⟨g1, h⟩ := h
  obtain ⟨g2, h⟩ := h
  refine s_lcmp d_Long_compare_2 g1 g2 ?_
  refine s_if_ge d_Long_compare_3 rfl (lcmp_r _ _) (fun c => ?_) (fun c => ?_)
  · have h := h.1 (lcmp_ge.mp c)
    refine s_lload_n 0 d_Long_compare_10 rfl rfl ?_
    refine s_lload_n 1 d_Long_compare_11 rfl rfl ?_
    obtain ⟨g3, h⟩ := h
    obtain ⟨g4, h⟩ := h
    refine s_lcmp d_Long_compare_12 g3 g4 ?_
    refine s_if_ne d_Long_compare_13 rfl (lcmp_r _ _) (fun c => ?_) (fun c => ?_)
    · have h := h.1 (lcmp_ne.mp c)
      refine s_iconst d_Long_compare_20 ?_
      exact s_ireturn d_Long_compare_21 rfl h
    · have h := h.2 (nlcmp_ne c)
      refine s_iconst d_Long_compare_16 ?_
      refine s_goto d_Long_compare_17 rfl ?_
      exact s_ireturn d_Long_compare_21 rfl h
  · have h := h.2 (nlcmp_ge c)
    refine s_iconst d_Long_compare_6 ?_
    refine s_goto d_Long_compare_7 rfl ?_
    exact s_ireturn d_Long_compare_21 rfl h
