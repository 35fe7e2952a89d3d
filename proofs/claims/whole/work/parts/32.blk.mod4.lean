theorem d_M_feed_0 : decode m_M_feed.2.1 0 = .ok (.aload_n 0, 1) := by decide +kernel
theorem d_M_feed_1 : decode m_M_feed.2.1 1 = .ok (.getfield 418, 3) := by decide +kernel
theorem d_M_feed_4 : decode m_M_feed.2.1 4 = .ok (.bipush 20, 2) := by decide +kernel
theorem d_M_feed_6 : decode m_M_feed.2.1 6 = .ok (.iadd, 1) := by decide +kernel
theorem d_M_feed_7 : decode m_M_feed.2.1 7 = .ok (.sipush 400, 3) := by decide +kernel
theorem d_M_feed_10 : decode m_M_feed.2.1 10 = .ok (.if_icmp .le 5, 3) := by decide +kernel
theorem d_M_feed_13 : decode m_M_feed.2.1 13 = .ok (.iconst (-1), 1) := by decide +kernel
theorem d_M_feed_14 : decode m_M_feed.2.1 14 = .ok (.ireturn, 1) := by decide +kernel
theorem d_M_feed_15 : decode m_M_feed.2.1 15 = .ok (.iconst 0, 1) := by decide +kernel
theorem d_M_feed_16 : decode m_M_feed.2.1 16 = .ok (.istore 6, 2) := by decide +kernel
theorem d_M_feed_18 : decode m_M_feed.2.1 18 = .ok (.iload 6, 2) := by decide +kernel
theorem d_M_feed_20 : decode m_M_feed.2.1 20 = .ok (.bipush 20, 2) := by decide +kernel
theorem d_M_feed_22 : decode m_M_feed.2.1 22 = .ok (.if_icmp .ge 93, 3) := by decide +kernel
theorem d_M_feed_25 : decode m_M_feed.2.1 25 = .ok (.iload 6, 2) := by decide +kernel
theorem d_M_feed_27 : decode m_M_feed.2.1 27 = .ok (.iconst 4, 1) := by decide +kernel
theorem d_M_feed_28 : decode m_M_feed.2.1 28 = .ok (.if_icmp .ge 7, 3) := by decide +kernel
theorem d_M_feed_31 : decode m_M_feed.2.1 31 = .ok (.iload_n 1, 1) := by decide +kernel
theorem d_M_feed_32 : decode m_M_feed.2.1 32 = .ok (.goto 39, 3) := by decide +kernel
theorem d_M_feed_35 : decode m_M_feed.2.1 35 = .ok (.iload 6, 2) := by decide +kernel
theorem d_M_feed_37 : decode m_M_feed.2.1 37 = .ok (.bipush 8, 2) := by decide +kernel
theorem d_M_feed_39 : decode m_M_feed.2.1 39 = .ok (.if_icmp .ge 7, 3) := by decide +kernel
theorem d_M_feed_42 : decode m_M_feed.2.1 42 = .ok (.iload_n 2, 1) := by decide +kernel
theorem d_M_feed_43 : decode m_M_feed.2.1 43 = .ok (.goto 28, 3) := by decide +kernel
theorem d_M_feed_46 : decode m_M_feed.2.1 46 = .ok (.iload 6, 2) := by decide +kernel
theorem d_M_feed_48 : decode m_M_feed.2.1 48 = .ok (.bipush 12, 2) := by decide +kernel
theorem d_M_feed_50 : decode m_M_feed.2.1 50 = .ok (.if_icmp .ge 7, 3) := by decide +kernel
theorem d_M_feed_53 : decode m_M_feed.2.1 53 = .ok (.iload_n 3, 1) := by decide +kernel
theorem d_M_feed_54 : decode m_M_feed.2.1 54 = .ok (.goto 17, 3) := by decide +kernel
theorem d_M_feed_57 : decode m_M_feed.2.1 57 = .ok (.iload 6, 2) := by decide +kernel
theorem d_M_feed_59 : decode m_M_feed.2.1 59 = .ok (.bipush 16, 2) := by decide +kernel
theorem d_M_feed_61 : decode m_M_feed.2.1 61 = .ok (.if_icmp .ge 8, 3) := by decide +kernel
theorem d_M_feed_64 : decode m_M_feed.2.1 64 = .ok (.iload 4, 2) := by decide +kernel
theorem d_M_feed_66 : decode m_M_feed.2.1 66 = .ok (.goto 5, 3) := by decide +kernel
theorem d_M_feed_69 : decode m_M_feed.2.1 69 = .ok (.iload 5, 2) := by decide +kernel
theorem d_M_feed_71 : decode m_M_feed.2.1 71 = .ok (.istore 7, 2) := by decide +kernel
theorem d_M_feed_73 : decode m_M_feed.2.1 73 = .ok (.aload_n 0, 1) := by decide +kernel
theorem d_M_feed_74 : decode m_M_feed.2.1 74 = .ok (.getfield 115, 3) := by decide +kernel
theorem d_M_feed_77 : decode m_M_feed.2.1 77 = .ok (.aload_n 0, 1) := by decide +kernel
theorem d_M_feed_78 : decode m_M_feed.2.1 78 = .ok (.getfield 418, 3) := by decide +kernel
theorem d_M_feed_81 : decode m_M_feed.2.1 81 = .ok (.iload 7, 2) := by decide +kernel
theorem d_M_feed_83 : decode m_M_feed.2.1 83 = .ok (.bipush 24, 2) := by decide +kernel
theorem d_M_feed_85 : decode m_M_feed.2.1 85 = .ok (.bipush 8, 2) := by decide +kernel
theorem d_M_feed_87 : decode m_M_feed.2.1 87 = .ok (.iload 6, 2) := by decide +kernel
theorem d_M_feed_89 : decode m_M_feed.2.1 89 = .ok (.iconst 4, 1) := by decide +kernel
theorem d_M_feed_90 : decode m_M_feed.2.1 90 = .ok (.irem, 1) := by decide +kernel
theorem d_M_feed_91 : decode m_M_feed.2.1 91 = .ok (.imul, 1) := by decide +kernel
theorem d_M_feed_92 : decode m_M_feed.2.1 92 = .ok (.isub, 1) := by decide +kernel
theorem d_M_feed_93 : decode m_M_feed.2.1 93 = .ok (.ishr, 1) := by decide +kernel
theorem d_M_feed_94 : decode m_M_feed.2.1 94 = .ok (.sipush 255, 3) := by decide +kernel
theorem d_M_feed_97 : decode m_M_feed.2.1 97 = .ok (.iand, 1) := by decide +kernel
theorem d_M_feed_98 : decode m_M_feed.2.1 98 = .ok (.iastore, 1) := by decide +kernel
theorem d_M_feed_99 : decode m_M_feed.2.1 99 = .ok (.aload_n 0, 1) := by decide +kernel
theorem d_M_feed_100 : decode m_M_feed.2.1 100 = .ok (.dup, 1) := by decide +kernel
theorem d_M_feed_101 : decode m_M_feed.2.1 101 = .ok (.getfield 418, 3) := by decide +kernel
theorem d_M_feed_104 : decode m_M_feed.2.1 104 = .ok (.iconst 1, 1) := by decide +kernel
theorem d_M_feed_105 : decode m_M_feed.2.1 105 = .ok (.iadd, 1) := by decide +kernel
theorem d_M_feed_106 : decode m_M_feed.2.1 106 = .ok (.putfield 418, 3) := by decide +kernel
theorem d_M_feed_109 : decode m_M_feed.2.1 109 = .ok (.iinc 6 1, 3) := by decide +kernel
theorem d_M_feed_112 : decode m_M_feed.2.1 112 = .ok (.goto (-94), 3) := by decide +kernel
theorem d_M_feed_115 : decode m_M_feed.2.1 115 = .ok (.aload_n 0, 1) := by decide +kernel
theorem d_M_feed_116 : decode m_M_feed.2.1 116 = .ok (.getfield 418, 3) := by decide +kernel
theorem d_M_feed_119 : decode m_M_feed.2.1 119 = .ok (.ireturn, 1) := by decide +kernel
theorem b_M_feed_0 {E : EV} {d : Nat} {Q : Option AV → St → Prop} {σ : St} (x1 x2 x3 x4 x5 : Int) (hF : Fix σ) (h : (rI ((σ.1 42 47) + 20)) ∧ ((((σ.1 42 47) + 20) ≤ 400 → WP E m_M_feed d 18 [(0, aP 42), (1, aI x1), (2, aI x2), (3, aI x3), (4, aI x4), (5, aI x5), (6, aI 0)] [] σ Q) ∧ (¬ ((σ.1 42 47) + 20) ≤ 400 → Q (some (aI (-1))) σ))) : WP E m_M_feed d 0 [(0, aP 42), (1, aI x1), (2, aI x2), (3, aI x3), (4, aI x4), (5, aI x5)] [] σ Q := by
  refine s_aload_n 0 d_M_feed_0 rfl rfl ?_
  refine s_getF (v := σ.1 42 47) d_M_feed_1 fl_M_418 rfl (sf_42 hF) rfl ?_
  refine s_bipush d_M_feed_4 (by decide) ?_
  refine s_iadd d_M_feed_6 ?_
  refine s_sipush d_M_feed_7 (by decide) ?_
  obtain ⟨g1, h⟩ := h
  refine s_icmp_le d_M_feed_10 rfl g1 (by decide) (fun c => ?_) (fun c => ?_)
  · have h := h.1 c
    refine s_iconst d_M_feed_15 ?_
    refine s_istore d_M_feed_16 (by decide) rfl ?_
    refine wp_drop [1, 2, 3, 4, 5, 6, 0] rfl ?_
    exact h
  · have h := h.2 c
    refine s_iconst d_M_feed_13 ?_
    exact s_ireturn d_M_feed_14 rfl h
theorem e_M_feed {E : EV} {d : Nat} {Q : Option AV → St → Prop} {σ : St} (x1 x2 x3 x4 x5 : Int) (hF : Fix σ) (h : (rI ((σ.1 42 47) + 20)) ∧ ((((σ.1 42 47) + 20) ≤ 400 → WP E m_M_feed d 18 [(0, aP 42), (1, aI x1), (2, aI x2), (3, aI x3), (4, aI x4), (5, aI x5), (6, aI 0)] [] σ Q) ∧ (¬ ((σ.1 42 47) + 20) ≤ 400 → Q (some (aI (-1))) σ))) : WM E m_M_feed d [aP 42, aI x1, aI x2, aI x3, aI x4, aI x5] σ Q := s_meth (by decide) (Nat.le_of_ble_eq_true rfl) rfl (b_M_feed_0 x1 x2 x3 x4 x5 hF h)
theorem b_M_feed_18 {E : EV} {d : Nat} {Q : Option AV → St → Prop} {σ : St} (x1 x2 x3 x4 x5 x6 : Int) (hF : Fix σ) (h : (rI x6) ∧ ((20 ≤ x6 → Q (some (aI (σ.1 42 47))) σ) ∧ (¬ 20 ≤ x6 → (rI x6) ∧ ((4 ≤ x6 → (rI x6) ∧ ((8 ≤ x6 → (rI x6) ∧ ((12 ≤ x6 → (rI x6) ∧ ((16 ≤ x6 → WP E m_M_feed d 71 [(0, aP 42), (1, aI x1), (2, aI x2), (3, aI x3), (4, aI x4), (5, aI x5), (6, aI x6)] [aI x5] σ Q) ∧ (¬ 16 ≤ x6 → WP E m_M_feed d 71 [(0, aP 42), (1, aI x1), (2, aI x2), (3, aI x3), (4, aI x4), (5, aI x5), (6, aI x6)] [aI x4] σ Q))) ∧ (¬ 12 ≤ x6 → WP E m_M_feed d 71 [(0, aP 42), (1, aI x1), (2, aI x2), (3, aI x3), (4, aI x4), (5, aI x5), (6, aI x6)] [aI x3] σ Q))) ∧ (¬ 8 ≤ x6 → WP E m_M_feed d 71 [(0, aP 42), (1, aI x1), (2, aI x2), (3, aI x3), (4, aI x4), (5, aI x5), (6, aI x6)] [aI x2] σ Q))) ∧ (¬ 4 ≤ x6 → WP E m_M_feed d 71 [(0, aP 42), (1, aI x1), (2, aI x2), (3, aI x3), (4, aI x4), (5, aI x5), (6, aI x6)] [aI x1] σ Q))))) : WP E m_M_feed d 18 [(0, aP 42), (1, aI x1), (2, aI x2), (3, aI x3), (4, aI x4), (5, aI x5), (6, aI x6)] [] σ Q := by
  refine s_iload 6 d_M_feed_18 rfl ?_
  refine s_bipush d_M_feed_20 (by decide) ?_
  obtain ⟨g1, h⟩ := h
  refine s_icmp_ge d_M_feed_22 rfl g1 (by decide) (fun c => ?_) (fun c => ?_)
  · have h := h.1 c
    refine s_aload_n 0 d_M_feed_115 rfl rfl ?_
    refine s_getF (v := σ.1 42 47) d_M_feed_116 fl_M_418 rfl (sf_42 hF) rfl ?_
    exact s_ireturn d_M_feed_119 rfl h
  · have h := h.2 c
    refine s_iload 6 d_M_feed_25 rfl ?_
    refine s_iconst d_M_feed_27 ?_
    obtain ⟨g2, h⟩ := h
    refine s_icmp_ge d_M_feed_28 rfl g2 (by decide) (fun c => ?_) (fun c => ?_)
    · have h := h.1 c
      refine s_iload 6 d_M_feed_35 rfl ?_
      refine s_bipush d_M_feed_37 (by decide) ?_
      obtain ⟨g3, h⟩ := h
      refine s_icmp_ge d_M_feed_39 rfl g3 (by decide) (fun c => ?_) (fun c => ?_)
      · have h := h.1 c
        refine s_iload 6 d_M_feed_46 rfl ?_
        refine s_bipush d_M_feed_48 (by decide) ?_
        obtain ⟨g4, h⟩ := h
        refine s_icmp_ge d_M_feed_50 rfl g4 (by decide) (fun c => ?_) (fun c => ?_)
        · have h := h.1 c
          refine s_iload 6 d_M_feed_57 rfl ?_
          refine s_bipush d_M_feed_59 (by decide) ?_
          obtain ⟨g5, h⟩ := h
          refine s_icmp_ge d_M_feed_61 rfl g5 (by decide) (fun c => ?_) (fun c => ?_)
          · have h := h.1 c
            refine s_iload 5 d_M_feed_69 rfl ?_
            exact h
          · have h := h.2 c
            refine s_iload 4 d_M_feed_64 rfl ?_
            refine s_goto d_M_feed_66 rfl ?_
            exact h
        · have h := h.2 c
          refine s_iload_n 3 d_M_feed_53 rfl rfl ?_
          refine s_goto d_M_feed_54 rfl ?_
          exact h
      · have h := h.2 c
        refine s_iload_n 2 d_M_feed_42 rfl rfl ?_
        refine s_goto d_M_feed_43 rfl ?_
        exact h
    · have h := h.2 c
      refine s_iload_n 1 d_M_feed_31 rfl rfl ?_
      refine s_goto d_M_feed_32 rfl ?_
      exact h
theorem b_M_feed_71 {E : EV} {d : Nat} {Q : Option AV → St → Prop} {σ : St} (x1 x2 x3 x4 x5 x6 s0 : Int) (hF : Fix σ) (h : (0 ≤ x6 ∧ x6 ≤ 2147483647) ∧ (0 ≤ (σ.1 42 47) ∧ (σ.1 42 47) < 400) ∧ WP E m_M_feed d 18 [(0, aP 42), (1, aI x1), (2, aI x2), (3, aI x3), (4, aI x4), (5, aI x5), (6, aI (x6 + 1))] [] (wr (wr σ 76 (σ.1 42 47) (iand (ishr s0 (24 - (8 * (x6 % 4)))) 255)) 42 47 ((σ.1 42 47) + 1)) Q) : WP E m_M_feed d 71 [(0, aP 42), (1, aI x1), (2, aI x2), (3, aI x3), (4, aI x4), (5, aI x5), (6, aI x6)] [aI s0] σ Q := by
  refine s_istore d_M_feed_71 (by decide) rfl ?_
  refine s_aload_n 1 d_M_feed_73 rfl rfl ?_
  refine s_getF (v := 76) d_M_feed_74 fl_M_115 rfl (sf_42 hF) (ff_61 hF) ?_
  refine s_aload_n 1 d_M_feed_77 rfl rfl ?_
  refine s_getF (v := σ.1 42 47) d_M_feed_78 fl_M_418 rfl (sf_42 hF) rfl ?_
  refine s_iload 0 d_M_feed_81 rfl ?_
  refine s_bipush d_M_feed_83 (by decide) ?_
  refine s_bipush d_M_feed_85 (by decide) ?_
  refine s_iload 7 d_M_feed_87 rfl ?_
  refine s_iconst d_M_feed_89 ?_
  obtain ⟨g1, h⟩ := h
  refine s_irem d_M_feed_90 ⟨g1, by decide, by decide⟩ ?_
  refine s_imul d_M_feed_91 ?_
  refine s_isub d_M_feed_92 ?_
  refine s_ishr d_M_feed_93 ?_
  refine s_sipush d_M_feed_94 (by decide) ?_
  refine s_iand d_M_feed_97 ?_
  obtain ⟨g2, h⟩ := h
  refine s_iastore d_M_feed_98 ⟨_, sf_76 hF, g2.1, g2.2, by have := g2.2; omega⟩ ?_
  refine s_aload_n 1 d_M_feed_99 rfl rfl ?_
  refine s_dup d_M_feed_100 (Nat.ne_of_beq_eq_false rfl) ?_
  refine s_getF (v := σ.1 42 47) d_M_feed_101 fl_M_418 rfl (sf_42 (hF.wa (a := 76) (by decide))) rfl ?_
  refine s_iconst d_M_feed_104 ?_
  refine s_iadd d_M_feed_105 ?_
  refine s_putf 47 rfl d_M_feed_106 fl_M_418 (fun C T h => by cases h; exact Or.inl rfl) rfl (Or.inl rfl) (fun h => nomatch h) (sf_42 (hF.wa (a := 76) (by decide))) ?_
  refine s_iinc 7 d_M_feed_109 rfl (by decide) rfl ?_
  refine s_goto d_M_feed_112 rfl ?_
  refine wp_drop [2, 3, 4, 5, 6, 7, 0] rfl ?_
  exact h
theorem d_M_back_0 : decode m_M_back.2.1 0 = .ok (.iload_n 1, 1) := by decide +kernel
theorem d_M_back_1 : decode m_M_back.2.1 1 = .ok (.iconst 0, 1) := by decide +kernel
theorem d_M_back_2 : decode m_M_back.2.1 2 = .ok (.aload_n 0, 1) := by decide +kernel
theorem d_M_back_3 : decode m_M_back.2.1 3 = .ok (.getfield 418, 3) := by decide +kernel
theorem d_M_back_6 : decode m_M_back.2.1 6 = .ok (.invokestatic 167, 3) := by decide +kernel
theorem d_M_back_9 : decode m_M_back.2.1 9 = .ok (.ifCond .ne 5, 3) := by decide +kernel
theorem d_M_back_12 : decode m_M_back.2.1 12 = .ok (.iconst (-1), 1) := by decide +kernel
theorem d_M_back_13 : decode m_M_back.2.1 13 = .ok (.ireturn, 1) := by decide +kernel
theorem d_M_back_14 : decode m_M_back.2.1 14 = .ok (.aload_n 0, 1) := by decide +kernel
theorem d_M_back_15 : decode m_M_back.2.1 15 = .ok (.dup, 1) := by decide +kernel
theorem d_M_back_16 : decode m_M_back.2.1 16 = .ok (.getfield 418, 3) := by decide +kernel
theorem d_M_back_19 : decode m_M_back.2.1 19 = .ok (.iload_n 1, 1) := by decide +kernel
theorem d_M_back_20 : decode m_M_back.2.1 20 = .ok (.isub, 1) := by decide +kernel
theorem d_M_back_21 : decode m_M_back.2.1 21 = .ok (.putfield 418, 3) := by decide +kernel
theorem d_M_back_24 : decode m_M_back.2.1 24 = .ok (.aload_n 0, 1) := by decide +kernel
theorem d_M_back_25 : decode m_M_back.2.1 25 = .ok (.getfield 418, 3) := by decide +kernel
theorem d_M_back_28 : decode m_M_back.2.1 28 = .ok (.ireturn, 1) := by decide +kernel
theorem b_M_back_0 {E : EV} {d : Nat} {Q : Option AV → St → Prop} {σ : St} (x1 : Int) (hF : Fix σ) (h : (WMi E m_M_in d [aI x1, aI 0, aI (σ.1 42 47)] σ (fun v1 σ1 => Fix σ1 ∧ (rI v1) ∧ ((¬ v1 = 0 → Q (some (aI ((σ1.1 42 47) - x1))) (wr σ1 42 47 ((σ1.1 42 47) - x1))) ∧ (v1 = 0 → Q (some (aI (-1))) σ1))))) : WP E m_M_back (d + 1) 0 [(0, aP 42), (1, aI x1)] [] σ Q := by
  refine s_iload_n 1 d_M_back_0 rfl rfl ?_
  refine s_iconst d_M_back_1 ?_
  refine s_aload_n 0 d_M_back_2 rfl rfl ?_
  refine s_getF (v := σ.1 42 47) d_M_back_3 fl_M_418 rfl (sf_42 hF) rfl ?_
  refine s_callS (as := [aI x1, aI 0, aI (σ.1 42 47)]) d_M_back_6 ok_M_in lk_M_167 to_M_in rfl (Nat.le_of_ble_eq_true rfl) rfl (WM.mono h ?_)
  rintro _ σ1 ⟨v1, rfl, hp, h⟩
  obtain ⟨hF1, h⟩ := h
  show WP E m_M_back (d + 1) 9 [(0, aP 42), (1, aI x1)] [aI v1] σ1 Q
  obtain ⟨g2, h⟩ := h
  refine s_if_ne d_M_back_9 rfl g2 (fun c => ?_) (fun c => ?_)
  · have h := h.1 c
    refine s_aload_n 0 d_M_back_14 rfl rfl ?_
    refine s_dup d_M_back_15 (Nat.ne_of_beq_eq_false rfl) ?_
    refine s_getF (v := σ1.1 42 47) d_M_back_16 fl_M_418 rfl (sf_42 hF1) rfl ?_
    refine s_iload_n 1 d_M_back_19 rfl rfl ?_
    refine s_isub d_M_back_20 ?_
    refine s_putf 47 rfl d_M_back_21 fl_M_418 (fun C T h => by cases h; exact Or.inl rfl) rfl (Or.inl rfl) (fun h => nomatch h) (sf_42 hF1) ?_
    refine s_aload_n 0 d_M_back_24 rfl rfl ?_
    refine s_getF (v := (σ1.1 42 47) - x1) d_M_back_25 fl_M_418 rfl (sf_42 (hF1.wf (a := 42) (k := 47) (by decide))) rfl ?_
    exact s_ireturn d_M_back_28 rfl h
  · have h := h.2 c
    refine s_iconst d_M_back_12 ?_
    exact s_ireturn d_M_back_13 rfl h
theorem e_M_back {E : EV} {d : Nat} {Q : Option AV → St → Prop} {σ : St} (x1 : Int) (hF : Fix σ) (h : (WMi E m_M_in d [aI x1, aI 0, aI (σ.1 42 47)] σ (fun v1 σ1 => Fix σ1 ∧ (rI v1) ∧ ((¬ v1 = 0 → Q (some (aI ((σ1.1 42 47) - x1))) (wr σ1 42 47 ((σ1.1 42 47) - x1))) ∧ (v1 = 0 → Q (some (aI (-1))) σ1))))) : WM E m_M_back (d + 1) [aP 42, aI x1] σ Q := s_meth (by decide) (Nat.le_of_ble_eq_true rfl) rfl (b_M_back_0 x1 hF h)
theorem d_M_text_0 : decode m_M_text.2.1 0 = .ok (.iconst 0, 1) := by decide +kernel
theorem d_M_text_1 : decode m_M_text.2.1 1 = .ok (.istore_n 1, 1) := by decide +kernel
theorem d_M_text_2 : decode m_M_text.2.1 2 = .ok (.iload_n 1, 1) := by decide +kernel
theorem d_M_text_3 : decode m_M_text.2.1 3 = .ok (.sipush 683, 3) := by decide +kernel
theorem d_M_text_6 : decode m_M_text.2.1 6 = .ok (.if_icmp .ge 16, 3) := by decide +kernel
theorem d_M_text_9 : decode m_M_text.2.1 9 = .ok (.aload_n 0, 1) := by decide +kernel
theorem d_M_text_10 : decode m_M_text.2.1 10 = .ok (.getfield 29, 3) := by decide +kernel
theorem d_M_text_13 : decode m_M_text.2.1 13 = .ok (.iload_n 1, 1) := by decide +kernel
theorem d_M_text_14 : decode m_M_text.2.1 14 = .ok (.iconst 0, 1) := by decide +kernel
theorem d_M_text_15 : decode m_M_text.2.1 15 = .ok (.iastore, 1) := by decide +kernel
theorem d_M_text_16 : decode m_M_text.2.1 16 = .ok (.iinc 1 1, 3) := by decide +kernel
theorem d_M_text_19 : decode m_M_text.2.1 19 = .ok (.goto (-17), 3) := by decide +kernel
theorem d_M_text_22 : decode m_M_text.2.1 22 = .ok (.iconst 0, 1) := by decide +kernel
theorem d_M_text_23 : decode m_M_text.2.1 23 = .ok (.istore_n 1, 1) := by decide +kernel
theorem d_M_text_24 : decode m_M_text.2.1 24 = .ok (.iload_n 1, 1) := by decide +kernel
theorem d_M_text_25 : decode m_M_text.2.1 25 = .ok (.bipush 26, 2) := by decide +kernel
theorem d_M_text_27 : decode m_M_text.2.1 27 = .ok (.if_icmp .ge 23, 3) := by decide +kernel
theorem d_M_text_30 : decode m_M_text.2.1 30 = .ok (.aload_n 0, 1) := by decide +kernel
theorem d_M_text_31 : decode m_M_text.2.1 31 = .ok (.getfield 122, 3) := by decide +kernel
theorem d_M_text_34 : decode m_M_text.2.1 34 = .ok (.iload_n 1, 1) := by decide +kernel
theorem d_M_text_35 : decode m_M_text.2.1 35 = .ok (.iconst 0, 1) := by decide +kernel
theorem d_M_text_36 : decode m_M_text.2.1 36 = .ok (.iastore, 1) := by decide +kernel
theorem d_M_text_37 : decode m_M_text.2.1 37 = .ok (.aload_n 0, 1) := by decide +kernel
theorem d_M_text_38 : decode m_M_text.2.1 38 = .ok (.getfield 128, 3) := by decide +kernel
theorem d_M_text_41 : decode m_M_text.2.1 41 = .ok (.iload_n 1, 1) := by decide +kernel
theorem d_M_text_42 : decode m_M_text.2.1 42 = .ok (.iconst 0, 1) := by decide +kernel
theorem d_M_text_43 : decode m_M_text.2.1 43 = .ok (.iastore, 1) := by decide +kernel
theorem d_M_text_44 : decode m_M_text.2.1 44 = .ok (.iinc 1 1, 3) := by decide +kernel
theorem d_M_text_47 : decode m_M_text.2.1 47 = .ok (.goto (-23), 3) := by decide +kernel
theorem d_M_text_50 : decode m_M_text.2.1 50 = .ok (.aload_n 0, 1) := by decide +kernel
theorem d_M_text_51 : decode m_M_text.2.1 51 = .ok (.getfield 29, 3) := by decide +kernel
theorem d_M_text_54 : decode m_M_text.2.1 54 = .ok (.iconst 0, 1) := by decide +kernel
theorem d_M_text_55 : decode m_M_text.2.1 55 = .ok (.bipush 12, 2) := by decide +kernel
theorem d_M_text_57 : decode m_M_text.2.1 57 = .ok (.iastore, 1) := by decide +kernel
theorem d_M_text_58 : decode m_M_text.2.1 58 = .ok (.aload_n 0, 1) := by decide +kernel
theorem d_M_text_59 : decode m_M_text.2.1 59 = .ok (.getfield 29, 3) := by decide +kernel
theorem d_M_text_62 : decode m_M_text.2.1 62 = .ok (.iconst 1, 1) := by decide +kernel
theorem d_M_text_63 : decode m_M_text.2.1 63 = .ok (.iconst 1, 1) := by decide +kernel
theorem d_M_text_64 : decode m_M_text.2.1 64 = .ok (.iastore, 1) := by decide +kernel
theorem d_M_text_65 : decode m_M_text.2.1 65 = .ok (.aload_n 0, 1) := by decide +kernel
theorem d_M_text_66 : decode m_M_text.2.1 66 = .ok (.iconst 0, 1) := by decide +kernel
theorem d_M_text_67 : decode m_M_text.2.1 67 = .ok (.putfield 449, 3) := by decide +kernel
theorem d_M_text_70 : decode m_M_text.2.1 70 = .ok (.aload_n 0, 1) := by decide +kernel
theorem d_M_text_71 : decode m_M_text.2.1 71 = .ok (.iconst 0, 1) := by decide +kernel
theorem d_M_text_72 : decode m_M_text.2.1 72 = .ok (.putfield 421, 3) := by decide +kernel
theorem d_M_text_75 : decode m_M_text.2.1 75 = .ok (.aload_n 0, 1) := by decide +kernel
theorem d_M_text_76 : decode m_M_text.2.1 76 = .ok (.iconst 3, 1) := by decide +kernel
theorem d_M_text_77 : decode m_M_text.2.1 77 = .ok (.putfield 424, 3) := by decide +kernel
theorem d_M_text_80 : decode m_M_text.2.1 80 = .ok (.aload_n 0, 1) := by decide +kernel
theorem d_M_text_81 : decode m_M_text.2.1 81 = .ok (.iconst 0, 1) := by decide +kernel
theorem d_M_text_82 : decode m_M_text.2.1 82 = .ok (.putfield 436, 3) := by decide +kernel
theorem d_M_text_85 : decode m_M_text.2.1 85 = .ok (.aload_n 0, 1) := by decide +kernel
theorem d_M_text_86 : decode m_M_text.2.1 86 = .ok (.invokevirtual 440, 3) := by decide +kernel
theorem d_M_text_89 : decode m_M_text.2.1 89 = .ok (.aload_n 0, 1) := by decide +kernel
theorem d_M_text_90 : decode m_M_text.2.1 90 = .ok (.invokevirtual 509, 3) := by decide +kernel
theorem d_M_text_93 : decode m_M_text.2.1 93 = .ok (.aload_n 0, 1) := by decide +kernel
theorem d_M_text_94 : decode m_M_text.2.1 94 = .ok (.iconst 0, 1) := by decide +kernel
theorem d_M_text_95 : decode m_M_text.2.1 95 = .ok (.putfield 418, 3) := by decide +kernel
theorem d_M_text_98 : decode m_M_text.2.1 98 = .ok (.aload_n 0, 1) := by decide +kernel
theorem d_M_text_99 : decode m_M_text.2.1 99 = .ok (.getfield 436, 3) := by decide +kernel
theorem d_M_text_102 : decode m_M_text.2.1 102 = .ok (.ifCond .eq 11, 3) := by decide +kernel
theorem d_M_text_105 : decode m_M_text.2.1 105 = .ok (.bipush (-4), 2) := by decide +kernel
theorem d_M_text_107 : decode m_M_text.2.1 107 = .ok (.aload_n 0, 1) := by decide +kernel
theorem d_M_text_108 : decode m_M_text.2.1 108 = .ok (.getfield 430, 3) := by decide +kernel
theorem d_M_text_111 : decode m_M_text.2.1 111 = .ok (.isub, 1) := by decide +kernel
theorem d_M_text_112 : decode m_M_text.2.1 112 = .ok (.ireturn, 1) := by decide +kernel
theorem d_M_text_113 : decode m_M_text.2.1 113 = .ok (.iconst 0, 1) := by decide +kernel
theorem d_M_text_114 : decode m_M_text.2.1 114 = .ok (.istore_n 1, 1) := by decide +kernel
theorem d_M_text_115 : decode m_M_text.2.1 115 = .ok (.iload_n 1, 1) := by decide +kernel
theorem d_M_text_116 : decode m_M_text.2.1 116 = .ok (.sipush 683, 3) := by decide +kernel
theorem d_M_text_119 : decode m_M_text.2.1 119 = .ok (.if_icmp .ge 21, 3) := by decide +kernel
theorem d_M_text_122 : decode m_M_text.2.1 122 = .ok (.aload_n 0, 1) := by decide +kernel
theorem d_M_text_123 : decode m_M_text.2.1 123 = .ok (.getfield 26, 3) := by decide +kernel
theorem d_M_text_126 : decode m_M_text.2.1 126 = .ok (.iload_n 1, 1) := by decide +kernel
theorem d_M_text_127 : decode m_M_text.2.1 127 = .ok (.aload_n 0, 1) := by decide +kernel
theorem d_M_text_128 : decode m_M_text.2.1 128 = .ok (.getfield 29, 3) := by decide +kernel
theorem d_M_text_131 : decode m_M_text.2.1 131 = .ok (.iload_n 1, 1) := by decide +kernel
theorem d_M_text_132 : decode m_M_text.2.1 132 = .ok (.iaload, 1) := by decide +kernel
theorem d_M_text_133 : decode m_M_text.2.1 133 = .ok (.iastore, 1) := by decide +kernel
theorem d_M_text_134 : decode m_M_text.2.1 134 = .ok (.iinc 1 1, 3) := by decide +kernel
theorem d_M_text_137 : decode m_M_text.2.1 137 = .ok (.goto (-22), 3) := by decide +kernel
theorem d_M_text_140 : decode m_M_text.2.1 140 = .ok (.iconst 0, 1) := by decide +kernel
theorem d_M_text_141 : decode m_M_text.2.1 141 = .ok (.istore_n 1, 1) := by decide +kernel
theorem d_M_text_142 : decode m_M_text.2.1 142 = .ok (.iload_n 1, 1) := by decide +kernel
theorem d_M_text_143 : decode m_M_text.2.1 143 = .ok (.bipush 26, 2) := by decide +kernel
theorem d_M_text_145 : decode m_M_text.2.1 145 = .ok (.if_icmp .ge 83, 3) := by decide +kernel
theorem d_M_text_148 : decode m_M_text.2.1 148 = .ok (.aload_n 0, 1) := by decide +kernel
theorem d_M_text_149 : decode m_M_text.2.1 149 = .ok (.getfield 13, 3) := by decide +kernel
theorem d_M_text_152 : decode m_M_text.2.1 152 = .ok (.iload_n 1, 1) := by decide +kernel
theorem d_M_text_153 : decode m_M_text.2.1 153 = .ok (.aload_n 0, 1) := by decide +kernel
theorem d_M_text_154 : decode m_M_text.2.1 154 = .ok (.getfield 122, 3) := by decide +kernel
theorem d_M_text_157 : decode m_M_text.2.1 157 = .ok (.iload_n 1, 1) := by decide +kernel
theorem d_M_text_158 : decode m_M_text.2.1 158 = .ok (.iaload, 1) := by decide +kernel
theorem d_M_text_159 : decode m_M_text.2.1 159 = .ok (.iastore, 1) := by decide +kernel
theorem d_M_text_160 : decode m_M_text.2.1 160 = .ok (.aload_n 0, 1) := by decide +kernel
theorem d_M_text_161 : decode m_M_text.2.1 161 = .ok (.getfield 17, 3) := by decide +kernel
theorem d_M_text_164 : decode m_M_text.2.1 164 = .ok (.iload_n 1, 1) := by decide +kernel
theorem d_M_text_165 : decode m_M_text.2.1 165 = .ok (.aload_n 0, 1) := by decide +kernel
theorem d_M_text_166 : decode m_M_text.2.1 166 = .ok (.getfield 122, 3) := by decide +kernel
theorem d_M_text_169 : decode m_M_text.2.1 169 = .ok (.iload_n 1, 1) := by decide +kernel
theorem d_M_text_170 : decode m_M_text.2.1 170 = .ok (.iaload, 1) := by decide +kernel
theorem d_M_text_171 : decode m_M_text.2.1 171 = .ok (.ifCond .ne 7, 3) := by decide +kernel
theorem d_M_text_174 : decode m_M_text.2.1 174 = .ok (.iconst 0, 1) := by decide +kernel
theorem d_M_text_175 : decode m_M_text.2.1 175 = .ok (.goto 9, 3) := by decide +kernel
theorem d_M_text_178 : decode m_M_text.2.1 178 = .ok (.aload_n 0, 1) := by decide +kernel
theorem d_M_text_179 : decode m_M_text.2.1 179 = .ok (.getfield 125, 3) := by decide +kernel
theorem d_M_text_182 : decode m_M_text.2.1 182 = .ok (.iload_n 1, 1) := by decide +kernel
theorem d_M_text_183 : decode m_M_text.2.1 183 = .ok (.iaload, 1) := by decide +kernel
theorem d_M_text_184 : decode m_M_text.2.1 184 = .ok (.iastore, 1) := by decide +kernel
theorem d_M_text_185 : decode m_M_text.2.1 185 = .ok (.aload_n 0, 1) := by decide +kernel
theorem d_M_text_186 : decode m_M_text.2.1 186 = .ok (.getfield 20, 3) := by decide +kernel
theorem d_M_text_189 : decode m_M_text.2.1 189 = .ok (.iload_n 1, 1) := by decide +kernel
theorem d_M_text_190 : decode m_M_text.2.1 190 = .ok (.aload_n 0, 1) := by decide +kernel
theorem d_M_text_191 : decode m_M_text.2.1 191 = .ok (.getfield 128, 3) := by decide +kernel
theorem d_M_text_194 : decode m_M_text.2.1 194 = .ok (.iload_n 1, 1) := by decide +kernel
theorem d_M_text_195 : decode m_M_text.2.1 195 = .ok (.iaload, 1) := by decide +kernel
theorem d_M_text_196 : decode m_M_text.2.1 196 = .ok (.iastore, 1) := by decide +kernel
theorem d_M_text_197 : decode m_M_text.2.1 197 = .ok (.aload_n 0, 1) := by decide +kernel
theorem d_M_text_198 : decode m_M_text.2.1 198 = .ok (.getfield 23, 3) := by decide +kernel
theorem d_M_text_201 : decode m_M_text.2.1 201 = .ok (.iload_n 1, 1) := by decide +kernel
theorem d_M_text_202 : decode m_M_text.2.1 202 = .ok (.aload_n 0, 1) := by decide +kernel
theorem d_M_text_203 : decode m_M_text.2.1 203 = .ok (.getfield 128, 3) := by decide +kernel
theorem d_M_text_206 : decode m_M_text.2.1 206 = .ok (.iload_n 1, 1) := by decide +kernel
theorem d_M_text_207 : decode m_M_text.2.1 207 = .ok (.iaload, 1) := by decide +kernel
theorem d_M_text_208 : decode m_M_text.2.1 208 = .ok (.ifCond .ne 7, 3) := by decide +kernel
theorem d_M_text_211 : decode m_M_text.2.1 211 = .ok (.iconst 0, 1) := by decide +kernel
theorem d_M_text_212 : decode m_M_text.2.1 212 = .ok (.goto 9, 3) := by decide +kernel
theorem d_M_text_215 : decode m_M_text.2.1 215 = .ok (.aload_n 0, 1) := by decide +kernel
theorem d_M_text_216 : decode m_M_text.2.1 216 = .ok (.getfield 131, 3) := by decide +kernel
theorem d_M_text_219 : decode m_M_text.2.1 219 = .ok (.iload_n 1, 1) := by decide +kernel
theorem d_M_text_220 : decode m_M_text.2.1 220 = .ok (.iaload, 1) := by decide +kernel
theorem d_M_text_221 : decode m_M_text.2.1 221 = .ok (.iastore, 1) := by decide +kernel
theorem d_M_text_222 : decode m_M_text.2.1 222 = .ok (.iinc 1 1, 3) := by decide +kernel
theorem d_M_text_225 : decode m_M_text.2.1 225 = .ok (.goto (-83), 3) := by decide +kernel
theorem d_M_text_228 : decode m_M_text.2.1 228 = .ok (.aload_n 0, 1) := by decide +kernel
theorem d_M_text_229 : decode m_M_text.2.1 229 = .ok (.iconst 0, 1) := by decide +kernel
theorem d_M_text_230 : decode m_M_text.2.1 230 = .ok (.putfield 171, 3) := by decide +kernel
theorem d_M_text_233 : decode m_M_text.2.1 233 = .ok (.aload_n 0, 1) := by decide +kernel
theorem d_M_text_234 : decode m_M_text.2.1 234 = .ok (.getfield 26, 3) := by decide +kernel
theorem d_M_text_237 : decode m_M_text.2.1 237 = .ok (.iconst 2, 1) := by decide +kernel
theorem d_M_text_238 : decode m_M_text.2.1 238 = .ok (.iaload, 1) := by decide +kernel
theorem d_M_text_239 : decode m_M_text.2.1 239 = .ok (.ireturn, 1) := by decide +kernel
theorem b_M_text_0 {E : EV} {d : Nat} {Q : Option AV → St → Prop} {σ : St} (h : WP E m_M_text (d + 1) 2 [(0, aP 42), (1, aI 0)] [] σ Q) : WP E m_M_text (d + 1) 0 [(0, aP 42)] [] σ Q := by
  refine s_iconst d_M_text_0 ?_
  refine s_istore_n d_M_text_1 rfl (by decide) rfl ?_
  refine wp_drop [1, 0] rfl ?_
  exact h
theorem e_M_text {E : EV} {d : Nat} {Q : Option AV → St → Prop} {σ : St} (h : WP E m_M_text (d + 1) 2 [(0, aP 42), (1, aI 0)] [] σ Q) : WM E m_M_text (d + 1) [aP 42] σ Q := s_meth (by decide) (Nat.le_of_ble_eq_true rfl) rfl (b_M_text_0 h)
theorem b_M_text_2 {E : EV} {d : Nat} {Q : Option AV → St → Prop} {σ : St} (x1 : Int) (hF : Fix σ) (h : (rI x1) ∧ ((683 ≤ x1 → WP E m_M_text (d + 1) 24 [(0, aP 42), (1, aI 0)] [] σ Q) ∧ (¬ 683 ≤ x1 → (0 ≤ x1 ∧ x1 < 683) ∧ WP E m_M_text (d + 1) 2 [(0, aP 42), (1, aI (x1 + 1))] [] (wr σ 48 x1 0) Q))) : WP E m_M_text (d + 1) 2 [(0, aP 42), (1, aI x1)] [] σ Q := by
  refine s_iload_n 1 d_M_text_2 rfl rfl ?_
  refine s_sipush d_M_text_3 (by decide) ?_
  obtain ⟨g1, h⟩ := h
  refine s_icmp_ge d_M_text_6 rfl g1 (by decide) (fun c => ?_) (fun c => ?_)
  · have h := h.1 c
    refine s_iconst d_M_text_22 ?_
    refine s_istore_n d_M_text_23 rfl (by decide) rfl ?_
    refine wp_drop [1, 0] rfl ?_
    exact h
  · have h := h.2 c
    refine s_aload_n 0 d_M_text_9 rfl rfl ?_
    refine s_getF (v := 48) d_M_text_10 fl_M_29 rfl (sf_42 hF) (ff_33 hF) ?_
    refine s_iload_n 1 d_M_text_13 rfl rfl ?_
    refine s_iconst d_M_text_14 ?_
    obtain ⟨g2, h⟩ := h
    refine s_iastore d_M_text_15 ⟨_, sf_48 hF, g2.1, g2.2, by have := g2.2; omega⟩ ?_
    refine s_iinc 1 d_M_text_16 rfl (by decide) rfl ?_
    refine s_goto d_M_text_19 rfl ?_
    refine wp_drop [1, 0] rfl ?_
    exact h
theorem b_M_text_24 {E : EV} {d : Nat} {Q : Option AV → St → Prop} {σ : St} (x1 : Int) (hF : Fix σ) (h : (rI x1) ∧ ((26 ≤ x1 → (WMv E m_M_goesOn d [aP 42] (wr (wr (wr (wr (wr (wr σ 48 0 12) 48 1 1) 42 58 0) 42 49 0) 42 50 3) 42 53 0) (fun σ2 => Fix σ2 ∧ (WMv E m_M_readsAll d [aP 42] σ2 (fun σ3 => Fix σ3 ∧ (rI (σ3.1 42 53)) ∧ (((σ3.1 42 53) = 0 → WP E m_M_text (d + 1) 115 [(0, aP 42), (1, aI 0)] [] (wr σ3 42 47 0) Q) ∧ (¬ (σ3.1 42 53) = 0 → Q (some (aI ((-4) - (σ3.1 42 51)))) (wr σ3 42 47 0)))))))) ∧ (¬ 26 ≤ x1 → (0 ≤ x1 ∧ x1 < 26) ∧ (0 ≤ x1 ∧ x1 < 26) ∧ WP E m_M_text (d + 1) 24 [(0, aP 42), (1, aI (x1 + 1))] [] (wr (wr σ 78 x1 0) 80 x1 0) Q))) : WP E m_M_text (d + 1) 24 [(0, aP 42), (1, aI x1)] [] σ Q := by
  refine s_iload_n 1 d_M_text_24 rfl rfl ?_
  refine s_bipush d_M_text_25 (by decide) ?_
  obtain ⟨g1, h⟩ := h
  refine s_icmp_ge d_M_text_27 rfl g1 (by decide) (fun c => ?_) (fun c => ?_)
  · have h := h.1 c
    refine s_aload_n 0 d_M_text_50 rfl rfl ?_
    refine s_getF (v := 48) d_M_text_51 fl_M_29 rfl (sf_42 hF) (ff_33 hF) ?_
    refine s_iconst d_M_text_54 ?_
    refine s_bipush d_M_text_55 (by decide) ?_
    refine s_iastore d_M_text_57 ⟨_, sf_48 hF, by decide, by decide, by decide⟩ ?_
    refine s_aload_n 0 d_M_text_58 rfl rfl ?_
    refine s_getF (v := 48) d_M_text_59 fl_M_29 rfl (sf_42 (hF.wa (a := 48) (by decide))) (ff_33 (hF.wa (a := 48) (by decide))) ?_
    refine s_iconst d_M_text_62 ?_
    refine s_iconst d_M_text_63 ?_
    refine s_iastore d_M_text_64 ⟨_, sf_48 (hF.wa (a := 48) (by decide)), by decide, by decide, by decide⟩ ?_
    refine s_aload_n 0 d_M_text_65 rfl rfl ?_
    refine s_iconst d_M_text_66 ?_
    refine s_putf 58 rfl d_M_text_67 fl_M_449 (fun C T h => by cases h; exact Or.inl rfl) rfl (Or.inl rfl) (fun h => nomatch h) (sf_42 ((hF.wa (a := 48) (by decide)).wa (a := 48) (by decide))) ?_
    refine s_aload_n 0 d_M_text_70 rfl rfl ?_
    refine s_iconst d_M_text_71 ?_
    refine s_putf 49 rfl d_M_text_72 fl_M_421 (fun C T h => by cases h; exact Or.inl rfl) rfl (Or.inl rfl) (fun h => nomatch h) (sf_42 (((hF.wa (a := 48) (by decide)).wa (a := 48) (by decide)).wf (a := 42) (k := 58) (by decide))) ?_
    refine s_aload_n 0 d_M_text_75 rfl rfl ?_
    refine s_iconst d_M_text_76 ?_
    refine s_putf 50 rfl d_M_text_77 fl_M_424 (fun C T h => by cases h; exact Or.inl rfl) rfl (Or.inl rfl) (fun h => nomatch h) (sf_42 ((((hF.wa (a := 48) (by decide)).wa (a := 48) (by decide)).wf (a := 42) (k := 58) (by decide)).wf (a := 42) (k := 49) (by decide))) ?_
    refine s_aload_n 0 d_M_text_80 rfl rfl ?_
    refine s_iconst d_M_text_81 ?_
    refine s_putf 53 rfl d_M_text_82 fl_M_436 (fun C T h => by cases h; exact Or.inl rfl) rfl (Or.inr (Or.inr (Or.inl rfl))) (fun _ => by decide) (sf_42 (((((hF.wa (a := 48) (by decide)).wa (a := 48) (by decide)).wf (a := 42) (k := 58) (by decide)).wf (a := 42) (k := 49) (by decide)).wf (a := 42) (k := 50) (by decide))) ?_
    refine s_aload_n 0 d_M_text_85 rfl rfl ?_
    refine s_callV (as := []) (ci := 10) d_M_text_86 ok_M_goesOn lk_M_440 io_M_goesOn so_M_goesOn (by decide) rfl rfl rfl (Nat.le_of_ble_eq_true rfl) rfl (sf_42 ((((((hF.wa (a := 48) (by decide)).wa (a := 48) (by decide)).wf (a := 42) (k := 58) (by decide)).wf (a := 42) (k := 49) (by decide)).wf (a := 42) (k := 50) (by decide)).wf (a := 42) (k := 53) (by decide))) (WM.mono h ?_)
    rintro _ σ2 ⟨rfl, hp, h⟩
    obtain ⟨hF2, h⟩ := h
    show WP E m_M_text (d + 1) 89 [(0, aP 42), (1, aI x1)] [] σ2 Q
    refine s_aload_n 0 d_M_text_89 rfl rfl ?_
    refine s_callV (as := []) (ci := 10) d_M_text_90 ok_M_readsAll lk_M_509 io_M_readsAll so_M_readsAll (by decide) rfl rfl rfl (Nat.le_of_ble_eq_true rfl) rfl (sf_42 hF2) (WM.mono h ?_)
    rintro _ σ3 ⟨rfl, hp, h⟩
    obtain ⟨hF3, h⟩ := h
    show WP E m_M_text (d + 1) 93 [(0, aP 42), (1, aI x1)] [] σ3 Q
    refine s_aload_n 0 d_M_text_93 rfl rfl ?_
    refine s_iconst d_M_text_94 ?_
    refine s_putf 47 rfl d_M_text_95 fl_M_418 (fun C T h => by cases h; exact Or.inl rfl) rfl (Or.inl rfl) (fun h => nomatch h) (sf_42 hF3) ?_
    refine s_aload_n 0 d_M_text_98 rfl rfl ?_
    refine s_getF (v := σ3.1 42 53) d_M_text_99 fl_M_436 rfl (sf_42 (hF3.wf (a := 42) (k := 47) (by decide))) rfl ?_
    obtain ⟨g4, h⟩ := h
    refine s_if_eq d_M_text_102 rfl g4 (fun c => ?_) (fun c => ?_)
    · have h := h.1 c
      refine s_iconst d_M_text_113 ?_
      refine s_istore_n d_M_text_114 rfl (by decide) rfl ?_
      refine wp_drop [1, 0] rfl ?_
      exact h
    · have h := h.2 c
      refine s_bipush d_M_text_105 (by decide) ?_
      refine s_aload_n 0 d_M_text_107 rfl rfl ?_
      refine s_getF (v := σ3.1 42 51) d_M_text_108 fl_M_430 rfl (sf_42 (hF3.wf (a := 42) (k := 47) (by decide))) rfl ?_
      refine s_isub d_M_text_111 ?_
      exact s_ireturn d_M_text_112 rfl h
  · have h := h.2 c
    refine s_aload_n 0 d_M_text_30 rfl rfl ?_
    refine s_getF (v := 78) d_M_text_31 fl_M_122 rfl (sf_42 hF) (ff_63 hF) ?_
    refine s_iload_n 1 d_M_text_34 rfl rfl ?_
    refine s_iconst d_M_text_35 ?_
    obtain ⟨g5, h⟩ := h
    refine s_iastore d_M_text_36 ⟨_, sf_78 hF, g5.1, g5.2, by have := g5.2; omega⟩ ?_
    refine s_aload_n 0 d_M_text_37 rfl rfl ?_
    refine s_getF (v := 80) d_M_text_38 fl_M_128 rfl (sf_42 (hF.wa (a := 78) (by decide))) (ff_65 (hF.wa (a := 78) (by decide))) ?_
    refine s_iload_n 1 d_M_text_41 rfl rfl ?_
    refine s_iconst d_M_text_42 ?_
    obtain ⟨g6, h⟩ := h
    refine s_iastore d_M_text_43 ⟨_, sf_80 (hF.wa (a := 78) (by decide)), g6.1, g6.2, by have := g6.2; omega⟩ ?_
    refine s_iinc 1 d_M_text_44 rfl (by decide) rfl ?_
    refine s_goto d_M_text_47 rfl ?_
    refine wp_drop [1, 0] rfl ?_
    exact h
theorem b_M_text_115 {E : EV} {d : Nat} {Q : Option AV → St → Prop} {σ : St} (x1 : Int) (hF : Fix σ) (h : (rI x1) ∧ ((683 ≤ x1 → WP E m_M_text (d + 1) 142 [(0, aP 42), (1, aI 0)] [] σ Q) ∧ (¬ 683 ≤ x1 → (0 ≤ x1 ∧ x1 < 683) ∧ (0 ≤ x1 ∧ x1 < 683) ∧ WP E m_M_text (d + 1) 115 [(0, aP 42), (1, aI (x1 + 1))] [] (wr σ 47 x1 (σ.1 48 x1)) Q))) : WP E m_M_text (d + 1) 115 [(0, aP 42), (1, aI x1)] [] σ Q := by
  refine s_iload_n 1 d_M_text_115 rfl rfl ?_
  refine s_sipush d_M_text_116 (by decide) ?_
  obtain ⟨g1, h⟩ := h
  refine s_icmp_ge d_M_text_119 rfl g1 (by decide) (fun c => ?_) (fun c => ?_)
  · have h := h.1 c
    refine s_iconst d_M_text_140 ?_
    refine s_istore_n d_M_text_141 rfl (by decide) rfl ?_
    refine wp_drop [1, 0] rfl ?_
    exact h
  · have h := h.2 c
    refine s_aload_n 0 d_M_text_122 rfl rfl ?_
    refine s_getF (v := 47) d_M_text_123 fl_M_26 rfl (sf_42 hF) (ff_32 hF) ?_
    refine s_iload_n 1 d_M_text_126 rfl rfl ?_
    refine s_aload_n 0 d_M_text_127 rfl rfl ?_
    refine s_getF (v := 48) d_M_text_128 fl_M_29 rfl (sf_42 hF) (ff_33 hF) ?_
    refine s_iload_n 1 d_M_text_131 rfl rfl ?_
    obtain ⟨g2, h⟩ := h
    refine s_ialoadv (v := σ.1 48 x1) d_M_text_132 ⟨_, sf_48 hF, g2.1, g2.2, by have := g2.2; omega⟩ rfl ?_
    obtain ⟨g3, h⟩ := h
    refine s_iastore d_M_text_133 ⟨_, sf_47 hF, g3.1, g3.2, by have := g3.2; omega⟩ ?_
    refine s_iinc 1 d_M_text_134 rfl (by decide) rfl ?_
    refine s_goto d_M_text_137 rfl ?_
    refine wp_drop [1, 0] rfl ?_
    exact h
theorem b_M_text_142 {E : EV} {d : Nat} {Q : Option AV → St → Prop} {σ : St} (x1 : Int) (hF : Fix σ) (h : (rI x1) ∧ ((26 ≤ x1 → Q (some (aI (σ.1 47 2))) (wr σ 42 8 0)) ∧ (¬ 26 ≤ x1 → (0 ≤ x1 ∧ x1 < 26) ∧ (0 ≤ x1 ∧ x1 < 26) ∧ (0 ≤ x1 ∧ x1 < 26) ∧ (rI (σ.1 78 x1)) ∧ ((¬ (σ.1 78 x1) = 0 → (0 ≤ x1 ∧ x1 < 26) ∧ WP E m_M_text (d + 1) 184 [(0, aP 42), (1, aI x1)] [aI (σ.1 79 x1), aI x1, aP 44] (wr σ 43 x1 (σ.1 78 x1)) Q) ∧ ((σ.1 78 x1) = 0 → WP E m_M_text (d + 1) 184 [(0, aP 42), (1, aI x1)] [aI 0, aI x1, aP 44] (wr σ 43 x1 (σ.1 78 x1)) Q))))) : WP E m_M_text (d + 1) 142 [(0, aP 42), (1, aI x1)] [] σ Q := by
  refine s_iload_n 1 d_M_text_142 rfl rfl ?_
  refine s_bipush d_M_text_143 (by decide) ?_
  obtain ⟨g1, h⟩ := h
  refine s_icmp_ge d_M_text_145 rfl g1 (by decide) (fun c => ?_) (fun c => ?_)
  · have h := h.1 c
    refine s_aload_n 0 d_M_text_228 rfl rfl ?_
    refine s_iconst d_M_text_229 ?_
    refine s_putf 8 rfl d_M_text_230 fl_M_171 (fun C T h => by cases h; exact Or.inl rfl) rfl (Or.inl rfl) (fun h => nomatch h) (sf_42 hF) ?_
    refine s_aload_n 0 d_M_text_233 rfl rfl ?_
    refine s_getF (v := 47) d_M_text_234 fl_M_26 rfl (sf_42 (hF.wf (a := 42) (k := 8) (by decide))) (ff_32 (hF.wf (a := 42) (k := 8) (by decide))) ?_
    refine s_iconst d_M_text_237 ?_
    refine s_ialoadv (v := σ.1 47 2) d_M_text_238 ⟨_, sf_47 (hF.wf (a := 42) (k := 8) (by decide)), by decide, by decide, by decide⟩ rfl ?_
    exact s_ireturn d_M_text_239 rfl h
  · have h := h.2 c
    refine s_aload_n 0 d_M_text_148 rfl rfl ?_
    refine s_getF (v := 43) d_M_text_149 fl_M_13 rfl (sf_42 hF) (ff_28 hF) ?_
    refine s_iload_n 1 d_M_text_152 rfl rfl ?_
    refine s_aload_n 0 d_M_text_153 rfl rfl ?_
    refine s_getF (v := 78) d_M_text_154 fl_M_122 rfl (sf_42 hF) (ff_63 hF) ?_
    refine s_iload_n 1 d_M_text_157 rfl rfl ?_
    obtain ⟨g2, h⟩ := h
    refine s_ialoadv (v := σ.1 78 x1) d_M_text_158 ⟨_, sf_78 hF, g2.1, g2.2, by have := g2.2; omega⟩ rfl ?_
    obtain ⟨g3, h⟩ := h
    refine s_iastore d_M_text_159 ⟨_, sf_43 hF, g3.1, g3.2, by have := g3.2; omega⟩ ?_
    refine s_aload_n 0 d_M_text_160 rfl rfl ?_
    refine s_getF (v := 44) d_M_text_161 fl_M_17 rfl (sf_42 (hF.wa (a := 43) (by decide))) (ff_29 (hF.wa (a := 43) (by decide))) ?_
    refine s_iload_n 1 d_M_text_164 rfl rfl ?_
    refine s_aload_n 0 d_M_text_165 rfl rfl ?_
    refine s_getF (v := 78) d_M_text_166 fl_M_122 rfl (sf_42 (hF.wa (a := 43) (by decide))) (ff_63 (hF.wa (a := 43) (by decide))) ?_
    refine s_iload_n 1 d_M_text_169 rfl rfl ?_
    obtain ⟨g4, h⟩ := h
    refine s_ialoadv (v := σ.1 78 x1) d_M_text_170 ⟨_, sf_78 (hF.wa (a := 43) (by decide)), g4.1, g4.2, by have := g4.2; omega⟩ rfl ?_
    obtain ⟨g5, h⟩ := h
    refine s_if_ne d_M_text_171 rfl g5 (fun c => ?_) (fun c => ?_)
    · have h := h.1 c
      refine s_aload_n 0 d_M_text_178 rfl rfl ?_
      refine s_getF (v := 79) d_M_text_179 fl_M_125 rfl (sf_42 (hF.wa (a := 43) (by decide))) (ff_64 (hF.wa (a := 43) (by decide))) ?_
      refine s_iload_n 1 d_M_text_182 rfl rfl ?_
      obtain ⟨g6, h⟩ := h
      refine s_ialoadv (v := σ.1 79 x1) d_M_text_183 ⟨_, sf_79 (hF.wa (a := 43) (by decide)), g6.1, g6.2, by have := g6.2; omega⟩ rfl ?_
      exact h
    · have h := h.2 c
      refine s_iconst d_M_text_174 ?_
      refine s_goto d_M_text_175 rfl ?_
      exact h
theorem b_M_text_184 {E : EV} {d : Nat} {Q : Option AV → St → Prop} {σ : St} (x1 s0 s1 s2 : Int) (h : (inb σ s0 20 s1) ∧ (sh (wr σ s0 s1 s2) 42 = some (10, 74)) ∧ (sh (wr σ s0 s1 s2) 42 = some (10, 74)) ∧ (inb (wr σ s0 s1 s2) ((wr σ s0 s1 s2).1 42 56) 20 x1) ∧ (inb (wr σ s0 s1 s2) ((wr σ s0 s1 s2).1 42 3) 20 x1) ∧ (sh (wr (wr σ s0 s1 s2) ((wr σ s0 s1 s2).1 42 3) x1 ((wr σ s0 s1 s2).1 ((wr σ s0 s1 s2).1 42 56) x1)) 42 = some (10, 74)) ∧ (sh (wr (wr σ s0 s1 s2) ((wr σ s0 s1 s2).1 42 3) x1 ((wr σ s0 s1 s2).1 ((wr σ s0 s1 s2).1 42 56) x1)) 42 = some (10, 74)) ∧ (inb (wr (wr σ s0 s1 s2) ((wr σ s0 s1 s2).1 42 3) x1 ((wr σ s0 s1 s2).1 ((wr σ s0 s1 s2).1 42 56) x1)) ((wr (wr σ s0 s1 s2) ((wr σ s0 s1 s2).1 42 3) x1 ((wr σ s0 s1 s2).1 ((wr σ s0 s1 s2).1 42 56) x1)).1 42 56) 20 x1) ∧ (rI ((wr (wr σ s0 s1 s2) ((wr σ s0 s1 s2).1 42 3) x1 ((wr σ s0 s1 s2).1 ((wr σ s0 s1 s2).1 42 56) x1)).1 ((wr (wr σ s0 s1 s2) ((wr σ s0 s1 s2).1 42 3) x1 ((wr σ s0 s1 s2).1 ((wr σ s0 s1 s2).1 42 56) x1)).1 42 56) x1)) ∧ ((¬ ((wr (wr σ s0 s1 s2) ((wr σ s0 s1 s2).1 42 3) x1 ((wr σ s0 s1 s2).1 ((wr σ s0 s1 s2).1 42 56) x1)).1 ((wr (wr σ s0 s1 s2) ((wr σ s0 s1 s2).1 42 3) x1 ((wr σ s0 s1 s2).1 ((wr σ s0 s1 s2).1 42 56) x1)).1 42 56) x1) = 0 → (sh (wr (wr σ s0 s1 s2) ((wr σ s0 s1 s2).1 42 3) x1 ((wr σ s0 s1 s2).1 ((wr σ s0 s1 s2).1 42 56) x1)) 42 = some (10, 74)) ∧ (inb (wr (wr σ s0 s1 s2) ((wr σ s0 s1 s2).1 42 3) x1 ((wr σ s0 s1 s2).1 ((wr σ s0 s1 s2).1 42 56) x1)) ((wr (wr σ s0 s1 s2) ((wr σ s0 s1 s2).1 42 3) x1 ((wr σ s0 s1 s2).1 ((wr σ s0 s1 s2).1 42 56) x1)).1 42 57) 20 x1) ∧ WP E m_M_text (d + 1) 221 [(0, aP 42), (1, aI x1)] [aI ((wr (wr σ s0 s1 s2) ((wr σ s0 s1 s2).1 42 3) x1 ((wr σ s0 s1 s2).1 ((wr σ s0 s1 s2).1 42 56) x1)).1 ((wr (wr σ s0 s1 s2) ((wr σ s0 s1 s2).1 42 3) x1 ((wr σ s0 s1 s2).1 ((wr σ s0 s1 s2).1 42 56) x1)).1 42 57) x1), aI x1, aP ((wr (wr σ s0 s1 s2) ((wr σ s0 s1 s2).1 42 3) x1 ((wr σ s0 s1 s2).1 ((wr σ s0 s1 s2).1 42 56) x1)).1 42 4)] (wr (wr σ s0 s1 s2) ((wr σ s0 s1 s2).1 42 3) x1 ((wr σ s0 s1 s2).1 ((wr σ s0 s1 s2).1 42 56) x1)) Q) ∧ (((wr (wr σ s0 s1 s2) ((wr σ s0 s1 s2).1 42 3) x1 ((wr σ s0 s1 s2).1 ((wr σ s0 s1 s2).1 42 56) x1)).1 ((wr (wr σ s0 s1 s2) ((wr σ s0 s1 s2).1 42 3) x1 ((wr σ s0 s1 s2).1 ((wr σ s0 s1 s2).1 42 56) x1)).1 42 56) x1) = 0 → WP E m_M_text (d + 1) 221 [(0, aP 42), (1, aI x1)] [aI 0, aI x1, aP ((wr (wr σ s0 s1 s2) ((wr σ s0 s1 s2).1 42 3) x1 ((wr σ s0 s1 s2).1 ((wr σ s0 s1 s2).1 42 56) x1)).1 42 4)] (wr (wr σ s0 s1 s2) ((wr σ s0 s1 s2).1 42 3) x1 ((wr σ s0 s1 s2).1 ((wr σ s0 s1 s2).1 42 56) x1)) Q))) : WP E m_M_text (d + 1) 184 [(0, aP 42), (1, aI x1)] [aI s2, aI s1, aP s0] σ Q := by
  obtain ⟨g1, h⟩ := h
  refine s_iastore d_M_text_184 g1 ?_
  refine s_aload_n 0 d_M_text_185 rfl rfl ?_
  obtain ⟨g2, h⟩ := h
  refine s_getF (v := (wr σ s0 s1 s2).1 42 3) d_M_text_186 fl_M_20 rfl g2 rfl ?_
  refine s_iload_n 1 d_M_text_189 rfl rfl ?_
  refine s_aload_n 0 d_M_text_190 rfl rfl ?_
  obtain ⟨g3, h⟩ := h
  refine s_getF (v := (wr σ s0 s1 s2).1 42 56) d_M_text_191 fl_M_128 rfl g3 rfl ?_
  refine s_iload_n 1 d_M_text_194 rfl rfl ?_
  obtain ⟨g4, h⟩ := h
  refine s_ialoadv (v := (wr σ s0 s1 s2).1 ((wr σ s0 s1 s2).1 42 56) x1) d_M_text_195 g4 rfl ?_
  obtain ⟨g5, h⟩ := h
  refine s_iastore d_M_text_196 g5 ?_
  refine s_aload_n 0 d_M_text_197 rfl rfl ?_
  obtain ⟨g6, h⟩ := h
  refine s_getF (v := (wr (wr σ s0 s1 s2) ((wr σ s0 s1 s2).1 42 3) x1 ((wr σ s0 s1 s2).1 ((wr σ s0 s1 s2).1 42 56) x1)).1 42 4) d_M_text_198 fl_M_23 rfl g6 rfl ?_
  refine s_iload_n 1 d_M_text_201 rfl rfl ?_
  refine s_aload_n 0 d_M_text_202 rfl rfl ?_
  obtain ⟨g7, h⟩ := h
  refine s_getF (v := (wr (wr σ s0 s1 s2) ((wr σ s0 s1 s2).1 42 3) x1 ((wr σ s0 s1 s2).1 ((wr σ s0 s1 s2).1 42 56) x1)).1 42 56) d_M_text_203 fl_M_128 rfl g7 rfl ?_
  refine s_iload_n 1 d_M_text_206 rfl rfl ?_
  obtain ⟨g8, h⟩ := h
  refine s_ialoadv (v := (wr (wr σ s0 s1 s2) ((wr σ s0 s1 s2).1 42 3) x1 ((wr σ s0 s1 s2).1 ((wr σ s0 s1 s2).1 42 56) x1)).1 ((wr (wr σ s0 s1 s2) ((wr σ s0 s1 s2).1 42 3) x1 ((wr σ s0 s1 s2).1 ((wr σ s0 s1 s2).1 42 56) x1)).1 42 56) x1) d_M_text_207 g8 rfl ?_
  obtain ⟨g9, h⟩ := h
  refine s_if_ne d_M_text_208 rfl g9 (fun c => ?_) (fun c => ?_)
  · have h := h.1 c
    refine s_aload_n 0 d_M_text_215 rfl rfl ?_
    obtain ⟨g10, h⟩ := h
    refine s_getF (v := (wr (wr σ s0 s1 s2) ((wr σ s0 s1 s2).1 42 3) x1 ((wr σ s0 s1 s2).1 ((wr σ s0 s1 s2).1 42 56) x1)).1 42 57) d_M_text_216 fl_M_131 rfl g10 rfl ?_
    refine s_iload_n 1 d_M_text_219 rfl rfl ?_
    obtain ⟨g11, h⟩ := h
    refine s_ialoadv (v := (wr (wr σ s0 s1 s2) ((wr σ s0 s1 s2).1 42 3) x1 ((wr σ s0 s1 s2).1 ((wr σ s0 s1 s2).1 42 56) x1)).1 ((wr (wr σ s0 s1 s2) ((wr σ s0 s1 s2).1 42 3) x1 ((wr σ s0 s1 s2).1 ((wr σ s0 s1 s2).1 42 56) x1)).1 42 57) x1) d_M_text_220 g11 rfl ?_
    exact h
  · have h := h.2 c
    refine s_iconst d_M_text_211 ?_
    refine s_goto d_M_text_212 rfl ?_
    exact h
theorem b_M_text_221 {E : EV} {d : Nat} {Q : Option AV → St → Prop} {σ : St} (x1 s0 s1 s2 : Int) (h : (inb σ s0 20 s1) ∧ WP E m_M_text (d + 1) 142 [(0, aP 42), (1, aI (x1 + 1))] [] (wr σ s0 s1 s2) Q) : WP E m_M_text (d + 1) 221 [(0, aP 42), (1, aI x1)] [aI s2, aI s1, aP s0] σ Q := by
  obtain ⟨g1, h⟩ := h
  refine s_iastore d_M_text_221 g1 ?_
  refine s_iinc 1 d_M_text_222 rfl (by decide) rfl ?_
  refine s_goto d_M_text_225 rfl ?_
  refine wp_drop [1, 0] rfl ?_
  exact h
theorem d_M_goesOn_0 : decode m_M_goesOn.2.1 0 = .ok (.aload_n 0, 1) := by decide +kernel
theorem d_M_goesOn_1 : decode m_M_goesOn.2.1 1 = .ok (.getfield 424, 3) := by decide +kernel
theorem d_M_goesOn_4 : decode m_M_goesOn.2.1 4 = .ok (.istore_n 1, 1) := by decide +kernel
theorem d_M_goesOn_5 : decode m_M_goesOn.2.1 5 = .ok (.aload_n 0, 1) := by decide +kernel
theorem d_M_goesOn_6 : decode m_M_goesOn.2.1 6 = .ok (.getfield 421, 3) := by decide +kernel
theorem d_M_goesOn_9 : decode m_M_goesOn.2.1 9 = .ok (.istore_n 2, 1) := by decide +kernel
theorem d_M_goesOn_10 : decode m_M_goesOn.2.1 10 = .ok (.aload_n 0, 1) := by decide +kernel
theorem d_M_goesOn_11 : decode m_M_goesOn.2.1 11 = .ok (.invokevirtual 427, 3) := by decide +kernel
theorem d_M_goesOn_14 : decode m_M_goesOn.2.1 14 = .ok (.bipush 32, 2) := by decide +kernel
theorem d_M_goesOn_16 : decode m_M_goesOn.2.1 16 = .ok (.if_icmp .ne 16, 3) := by decide +kernel
theorem d_M_goesOn_19 : decode m_M_goesOn.2.1 19 = .ok (.aload_n 0, 1) := by decide +kernel
theorem d_M_goesOn_20 : decode m_M_goesOn.2.1 20 = .ok (.dup, 1) := by decide +kernel
theorem d_M_goesOn_21 : decode m_M_goesOn.2.1 21 = .ok (.getfield 421, 3) := by decide +kernel
theorem d_M_goesOn_24 : decode m_M_goesOn.2.1 24 = .ok (.iconst 1, 1) := by decide +kernel
theorem d_M_goesOn_25 : decode m_M_goesOn.2.1 25 = .ok (.iadd, 1) := by decide +kernel
theorem d_M_goesOn_26 : decode m_M_goesOn.2.1 26 = .ok (.putfield 421, 3) := by decide +kernel
theorem d_M_goesOn_29 : decode m_M_goesOn.2.1 29 = .ok (.goto (-19), 3) := by decide +kernel
theorem d_M_goesOn_32 : decode m_M_goesOn.2.1 32 = .ok (.aload_n 0, 1) := by decide +kernel
theorem d_M_goesOn_33 : decode m_M_goesOn.2.1 33 = .ok (.aload_n 0, 1) := by decide +kernel
theorem d_M_goesOn_34 : decode m_M_goesOn.2.1 34 = .ok (.getfield 421, 3) := by decide +kernel
theorem d_M_goesOn_37 : decode m_M_goesOn.2.1 37 = .ok (.putfield 430, 3) := by decide +kernel
theorem d_M_goesOn_40 : decode m_M_goesOn.2.1 40 = .ok (.aload_n 0, 1) := by decide +kernel
theorem d_M_goesOn_41 : decode m_M_goesOn.2.1 41 = .ok (.getfield 430, 3) := by decide +kernel
theorem d_M_goesOn_44 : decode m_M_goesOn.2.1 44 = .ok (.iload_n 2, 1) := by decide +kernel
theorem d_M_goesOn_45 : decode m_M_goesOn.2.1 45 = .ok (.if_icmp .ne 17, 3) := by decide +kernel
theorem d_M_goesOn_48 : decode m_M_goesOn.2.1 48 = .ok (.iload_n 1, 1) := by decide +kernel
theorem d_M_goesOn_49 : decode m_M_goesOn.2.1 49 = .ok (.iconst 1, 1) := by decide +kernel
theorem d_M_goesOn_50 : decode m_M_goesOn.2.1 50 = .ok (.if_icmp .eq 8, 3) := by decide +kernel
theorem d_M_goesOn_53 : decode m_M_goesOn.2.1 53 = .ok (.iload_n 1, 1) := by decide +kernel
theorem d_M_goesOn_54 : decode m_M_goesOn.2.1 54 = .ok (.iconst 2, 1) := by decide +kernel
theorem d_M_goesOn_55 : decode m_M_goesOn.2.1 55 = .ok (.if_icmp .ne 7, 3) := by decide +kernel
theorem d_M_goesOn_58 : decode m_M_goesOn.2.1 58 = .ok (.iconst 1, 1) := by decide +kernel
theorem d_M_goesOn_59 : decode m_M_goesOn.2.1 59 = .ok (.goto 4, 3) := by decide +kernel
theorem d_M_goesOn_62 : decode m_M_goesOn.2.1 62 = .ok (.iconst 0, 1) := by decide +kernel
theorem d_M_goesOn_63 : decode m_M_goesOn.2.1 63 = .ok (.istore_n 3, 1) := by decide +kernel
theorem d_M_goesOn_64 : decode m_M_goesOn.2.1 64 = .ok (.aload_n 0, 1) := by decide +kernel
theorem d_M_goesOn_65 : decode m_M_goesOn.2.1 65 = .ok (.invokevirtual 427, 3) := by decide +kernel
theorem d_M_goesOn_68 : decode m_M_goesOn.2.1 68 = .ok (.istore 4, 2) := by decide +kernel
theorem d_M_goesOn_70 : decode m_M_goesOn.2.1 70 = .ok (.iload 4, 2) := by decide +kernel
theorem d_M_goesOn_72 : decode m_M_goesOn.2.1 72 = .ok (.iconst (-1), 1) := by decide +kernel
theorem d_M_goesOn_73 : decode m_M_goesOn.2.1 73 = .ok (.if_icmp .ne 11, 3) := by decide +kernel
theorem d_M_goesOn_76 : decode m_M_goesOn.2.1 76 = .ok (.aload_n 0, 1) := by decide +kernel
theorem d_M_goesOn_77 : decode m_M_goesOn.2.1 77 = .ok (.iconst 0, 1) := by decide +kernel
theorem d_M_goesOn_78 : decode m_M_goesOn.2.1 78 = .ok (.putfield 424, 3) := by decide +kernel
theorem d_M_goesOn_81 : decode m_M_goesOn.2.1 81 = .ok (.goto 178, 3) := by decide +kernel
theorem d_M_goesOn_84 : decode m_M_goesOn.2.1 84 = .ok (.iload 4, 2) := by decide +kernel
theorem d_M_goesOn_86 : decode m_M_goesOn.2.1 86 = .ok (.bipush 97, 2) := by decide +kernel
theorem d_M_goesOn_88 : decode m_M_goesOn.2.1 88 = .ok (.bipush 122, 2) := by decide +kernel
theorem d_M_goesOn_90 : decode m_M_goesOn.2.1 90 = .ok (.invokestatic 167, 3) := by decide +kernel
theorem d_M_goesOn_93 : decode m_M_goesOn.2.1 93 = .ok (.ifCond .eq 46, 3) := by decide +kernel
theorem d_M_goesOn_96 : decode m_M_goesOn.2.1 96 = .ok (.aload_n 0, 1) := by decide +kernel
theorem d_M_goesOn_97 : decode m_M_goesOn.2.1 97 = .ok (.invokevirtual 427, 3) := by decide +kernel
theorem d_M_goesOn_100 : decode m_M_goesOn.2.1 100 = .ok (.bipush 97, 2) := by decide +kernel
theorem d_M_goesOn_102 : decode m_M_goesOn.2.1 102 = .ok (.bipush 122, 2) := by decide +kernel
theorem d_M_goesOn_104 : decode m_M_goesOn.2.1 104 = .ok (.invokestatic 167, 3) := by decide +kernel
theorem d_M_goesOn_107 : decode m_M_goesOn.2.1 107 = .ok (.ifCond .eq 16, 3) := by decide +kernel
theorem d_M_goesOn_110 : decode m_M_goesOn.2.1 110 = .ok (.aload_n 0, 1) := by decide +kernel
theorem d_M_goesOn_111 : decode m_M_goesOn.2.1 111 = .ok (.dup, 1) := by decide +kernel
theorem d_M_goesOn_112 : decode m_M_goesOn.2.1 112 = .ok (.getfield 421, 3) := by decide +kernel
theorem d_M_goesOn_115 : decode m_M_goesOn.2.1 115 = .ok (.iconst 1, 1) := by decide +kernel
theorem d_M_goesOn_116 : decode m_M_goesOn.2.1 116 = .ok (.iadd, 1) := by decide +kernel
theorem d_M_goesOn_117 : decode m_M_goesOn.2.1 117 = .ok (.putfield 421, 3) := by decide +kernel
theorem d_M_goesOn_120 : decode m_M_goesOn.2.1 120 = .ok (.goto (-24), 3) := by decide +kernel
theorem d_M_goesOn_123 : decode m_M_goesOn.2.1 123 = .ok (.aload_n 0, 1) := by decide +kernel
theorem d_M_goesOn_124 : decode m_M_goesOn.2.1 124 = .ok (.iload_n 3, 1) := by decide +kernel
theorem d_M_goesOn_125 : decode m_M_goesOn.2.1 125 = .ok (.ifCond .eq 7, 3) := by decide +kernel
theorem d_M_goesOn_128 : decode m_M_goesOn.2.1 128 = .ok (.iconst 4, 1) := by decide +kernel
theorem d_M_goesOn_129 : decode m_M_goesOn.2.1 129 = .ok (.goto 4, 3) := by decide +kernel
theorem d_M_goesOn_132 : decode m_M_goesOn.2.1 132 = .ok (.iconst 1, 1) := by decide +kernel
theorem d_M_goesOn_133 : decode m_M_goesOn.2.1 133 = .ok (.putfield 424, 3) := by decide +kernel
theorem d_M_goesOn_136 : decode m_M_goesOn.2.1 136 = .ok (.goto 123, 3) := by decide +kernel
theorem d_M_goesOn_139 : decode m_M_goesOn.2.1 139 = .ok (.iload 4, 2) := by decide +kernel
theorem d_M_goesOn_141 : decode m_M_goesOn.2.1 141 = .ok (.bipush 48, 2) := by decide +kernel
theorem d_M_goesOn_143 : decode m_M_goesOn.2.1 143 = .ok (.bipush 57, 2) := by decide +kernel
theorem d_M_goesOn_145 : decode m_M_goesOn.2.1 145 = .ok (.invokestatic 167, 3) := by decide +kernel
theorem d_M_goesOn_148 : decode m_M_goesOn.2.1 148 = .ok (.ifCond .eq 96, 3) := by decide +kernel
theorem d_M_goesOn_151 : decode m_M_goesOn.2.1 151 = .ok (.aload_n 0, 1) := by decide +kernel
theorem d_M_goesOn_152 : decode m_M_goesOn.2.1 152 = .ok (.iconst 0, 1) := by decide +kernel
theorem d_M_goesOn_153 : decode m_M_goesOn.2.1 153 = .ok (.putfield 433, 3) := by decide +kernel
theorem d_M_goesOn_156 : decode m_M_goesOn.2.1 156 = .ok (.aload_n 0, 1) := by decide +kernel
theorem d_M_goesOn_157 : decode m_M_goesOn.2.1 157 = .ok (.invokevirtual 427, 3) := by decide +kernel
theorem d_M_goesOn_160 : decode m_M_goesOn.2.1 160 = .ok (.bipush 48, 2) := by decide +kernel
theorem d_M_goesOn_162 : decode m_M_goesOn.2.1 162 = .ok (.bipush 57, 2) := by decide +kernel
theorem d_M_goesOn_164 : decode m_M_goesOn.2.1 164 = .ok (.invokestatic 167, 3) := by decide +kernel
theorem d_M_goesOn_167 : decode m_M_goesOn.2.1 167 = .ok (.ifCond .eq 48, 3) := by decide +kernel
theorem d_M_goesOn_170 : decode m_M_goesOn.2.1 170 = .ok (.aload_n 0, 1) := by decide +kernel
theorem d_M_goesOn_171 : decode m_M_goesOn.2.1 171 = .ok (.getfield 421, 3) := by decide +kernel
theorem d_M_goesOn_174 : decode m_M_goesOn.2.1 174 = .ok (.aload_n 0, 1) := by decide +kernel
theorem d_M_goesOn_175 : decode m_M_goesOn.2.1 175 = .ok (.getfield 430, 3) := by decide +kernel
theorem d_M_goesOn_178 : decode m_M_goesOn.2.1 178 = .ok (.isub, 1) := by decide +kernel
theorem d_M_goesOn_179 : decode m_M_goesOn.2.1 179 = .ok (.iconst 2, 1) := by decide +kernel
theorem d_M_goesOn_180 : decode m_M_goesOn.2.1 180 = .ok (.if_icmp .ge 22, 3) := by decide +kernel
theorem d_M_goesOn_183 : decode m_M_goesOn.2.1 183 = .ok (.aload_n 0, 1) := by decide +kernel
theorem d_M_goesOn_184 : decode m_M_goesOn.2.1 184 = .ok (.bipush 10, 2) := by decide +kernel
theorem d_M_goesOn_186 : decode m_M_goesOn.2.1 186 = .ok (.aload_n 0, 1) := by decide +kernel
theorem d_M_goesOn_187 : decode m_M_goesOn.2.1 187 = .ok (.getfield 433, 3) := by decide +kernel
theorem d_M_goesOn_190 : decode m_M_goesOn.2.1 190 = .ok (.imul, 1) := by decide +kernel
theorem d_M_goesOn_191 : decode m_M_goesOn.2.1 191 = .ok (.aload_n 0, 1) := by decide +kernel
theorem d_M_goesOn_192 : decode m_M_goesOn.2.1 192 = .ok (.invokevirtual 427, 3) := by decide +kernel
theorem d_M_goesOn_195 : decode m_M_goesOn.2.1 195 = .ok (.iadd, 1) := by decide +kernel
theorem d_M_goesOn_196 : decode m_M_goesOn.2.1 196 = .ok (.bipush 48, 2) := by decide +kernel
theorem d_M_goesOn_198 : decode m_M_goesOn.2.1 198 = .ok (.isub, 1) := by decide +kernel
theorem d_M_goesOn_199 : decode m_M_goesOn.2.1 199 = .ok (.putfield 433, 3) := by decide +kernel
theorem d_M_goesOn_202 : decode m_M_goesOn.2.1 202 = .ok (.aload_n 0, 1) := by decide +kernel
theorem d_M_goesOn_203 : decode m_M_goesOn.2.1 203 = .ok (.dup, 1) := by decide +kernel
theorem d_M_goesOn_204 : decode m_M_goesOn.2.1 204 = .ok (.getfield 421, 3) := by decide +kernel
theorem d_M_goesOn_207 : decode m_M_goesOn.2.1 207 = .ok (.iconst 1, 1) := by decide +kernel
theorem d_M_goesOn_208 : decode m_M_goesOn.2.1 208 = .ok (.iadd, 1) := by decide +kernel
theorem d_M_goesOn_209 : decode m_M_goesOn.2.1 209 = .ok (.putfield 421, 3) := by decide +kernel
theorem d_M_goesOn_212 : decode m_M_goesOn.2.1 212 = .ok (.goto (-56), 3) := by decide +kernel
theorem d_M_goesOn_215 : decode m_M_goesOn.2.1 215 = .ok (.aload_n 0, 1) := by decide +kernel
theorem d_M_goesOn_216 : decode m_M_goesOn.2.1 216 = .ok (.iload_n 3, 1) := by decide +kernel
theorem d_M_goesOn_217 : decode m_M_goesOn.2.1 217 = .ok (.ifCond .ne 16, 3) := by decide +kernel
theorem d_M_goesOn_220 : decode m_M_goesOn.2.1 220 = .ok (.aload_n 0, 1) := by decide +kernel
theorem d_M_goesOn_221 : decode m_M_goesOn.2.1 221 = .ok (.getfield 421, 3) := by decide +kernel
theorem d_M_goesOn_224 : decode m_M_goesOn.2.1 224 = .ok (.aload_n 0, 1) := by decide +kernel
theorem d_M_goesOn_225 : decode m_M_goesOn.2.1 225 = .ok (.getfield 430, 3) := by decide +kernel
theorem d_M_goesOn_228 : decode m_M_goesOn.2.1 228 = .ok (.isub, 1) := by decide +kernel
theorem d_M_goesOn_229 : decode m_M_goesOn.2.1 229 = .ok (.iconst 2, 1) := by decide +kernel
theorem d_M_goesOn_230 : decode m_M_goesOn.2.1 230 = .ok (.if_icmp .le 7, 3) := by decide +kernel
theorem d_M_goesOn_233 : decode m_M_goesOn.2.1 233 = .ok (.iconst 4, 1) := by decide +kernel
theorem d_M_goesOn_234 : decode m_M_goesOn.2.1 234 = .ok (.goto 4, 3) := by decide +kernel
theorem d_M_goesOn_237 : decode m_M_goesOn.2.1 237 = .ok (.iconst 2, 1) := by decide +kernel
theorem d_M_goesOn_238 : decode m_M_goesOn.2.1 238 = .ok (.putfield 424, 3) := by decide +kernel
theorem d_M_goesOn_241 : decode m_M_goesOn.2.1 241 = .ok (.goto 18, 3) := by decide +kernel
theorem d_M_goesOn_244 : decode m_M_goesOn.2.1 244 = .ok (.aload_n 0, 1) := by decide +kernel
theorem d_M_goesOn_245 : decode m_M_goesOn.2.1 245 = .ok (.iconst 3, 1) := by decide +kernel
theorem d_M_goesOn_246 : decode m_M_goesOn.2.1 246 = .ok (.putfield 424, 3) := by decide +kernel
theorem d_M_goesOn_249 : decode m_M_goesOn.2.1 249 = .ok (.aload_n 0, 1) := by decide +kernel
theorem d_M_goesOn_250 : decode m_M_goesOn.2.1 250 = .ok (.dup, 1) := by decide +kernel
theorem d_M_goesOn_251 : decode m_M_goesOn.2.1 251 = .ok (.getfield 421, 3) := by decide +kernel
theorem d_M_goesOn_254 : decode m_M_goesOn.2.1 254 = .ok (.iconst 1, 1) := by decide +kernel
theorem d_M_goesOn_255 : decode m_M_goesOn.2.1 255 = .ok (.iadd, 1) := by decide +kernel
theorem d_M_goesOn_256 : decode m_M_goesOn.2.1 256 = .ok (.putfield 421, 3) := by decide +kernel
theorem d_M_goesOn_259 : decode m_M_goesOn.2.1 259 = .ok (.return_, 1) := by decide +kernel
theorem b_M_goesOn_0 {E : EV} {d : Nat} {Q : Option AV → St → Prop} {σ : St} (hF : Fix σ) (h : WP E m_M_goesOn (d + 1) 10 [(0, aP 42), (1, aI (σ.1 42 50)), (2, aI (σ.1 42 49))] [] σ Q) : WP E m_M_goesOn (d + 1) 0 [(0, aP 42)] [] σ Q := by
  refine s_aload_n 0 d_M_goesOn_0 rfl rfl ?_
  refine s_getF (v := σ.1 42 50) d_M_goesOn_1 fl_M_424 rfl (sf_42 hF) rfl ?_
  refine s_istore_n d_M_goesOn_4 rfl (by decide) rfl ?_
  refine s_aload_n 1 d_M_goesOn_5 rfl rfl ?_
  refine s_getF (v := σ.1 42 49) d_M_goesOn_6 fl_M_421 rfl (sf_42 hF) rfl ?_
  refine s_istore_n d_M_goesOn_9 rfl (by decide) rfl ?_
  refine wp_drop [2, 1, 0] rfl ?_
  exact h
theorem e_M_goesOn {E : EV} {d : Nat} {Q : Option AV → St → Prop} {σ : St} (hF : Fix σ) (h : WP E m_M_goesOn (d + 1) 10 [(0, aP 42), (1, aI (σ.1 42 50)), (2, aI (σ.1 42 49))] [] σ Q) : WM E m_M_goesOn (d + 1) [aP 42] σ Q := s_meth (by decide) (Nat.le_of_ble_eq_true rfl) rfl (b_M_goesOn_0 hF h)
theorem b_M_goesOn_10 {E : EV} {d : Nat} {Q : Option AV → St → Prop} {σ : St} (x1 x2 : Int) (hF : Fix σ) (h : (WMi E m_M_here d [aP 42] σ (fun v1 σ1 => Fix σ1 ∧ (rI v1) ∧ ((¬ v1 = 32 → (rI (σ1.1 42 49)) ∧ (rI x2) ∧ ((¬ (σ1.1 42 49) = x2 → WP E m_M_goesOn (d + 1) 62 [(0, aP 42)] [] (wr σ1 42 51 (σ1.1 42 49)) Q) ∧ ((σ1.1 42 49) = x2 → (rI x1) ∧ ((x1 = 1 → WP E m_M_goesOn (d + 1) 58 [(0, aP 42)] [] (wr σ1 42 51 (σ1.1 42 49)) Q) ∧ (¬ x1 = 1 → (rI x1) ∧ ((¬ x1 = 2 → WP E m_M_goesOn (d + 1) 62 [(0, aP 42)] [] (wr σ1 42 51 (σ1.1 42 49)) Q) ∧ (x1 = 2 → WP E m_M_goesOn (d + 1) 58 [(0, aP 42)] [] (wr σ1 42 51 (σ1.1 42 49)) Q))))))) ∧ (v1 = 32 → WP E m_M_goesOn (d + 1) 10 [(0, aP 42), (1, aI x1), (2, aI x2)] [] (wr σ1 42 49 ((σ1.1 42 49) + 1)) Q))))) : WP E m_M_goesOn (d + 1) 10 [(0, aP 42), (1, aI x1), (2, aI x2)] [] σ Q := by
  refine s_aload_n 0 d_M_goesOn_10 rfl rfl ?_
  refine s_callV (as := []) (ci := 10) d_M_goesOn_11 ok_M_here lk_M_427 io_M_here so_M_here (by decide) rfl rfl rfl (Nat.le_of_ble_eq_true rfl) rfl (sf_42 hF) (WM.mono h ?_)
  rintro _ σ1 ⟨v1, rfl, hp, h⟩
  obtain ⟨hF1, h⟩ := h
  show WP E m_M_goesOn (d + 1) 14 [(0, aP 42), (1, aI x1), (2, aI x2)] [aI v1] σ1 Q
  refine s_bipush d_M_goesOn_14 (by decide) ?_
  obtain ⟨g2, h⟩ := h
  refine s_icmp_ne d_M_goesOn_16 rfl g2 (by decide) (fun c => ?_) (fun c => ?_)
  · have h := h.1 c
    refine s_aload_n 0 d_M_goesOn_32 rfl rfl ?_
    refine s_aload_n 0 d_M_goesOn_33 rfl rfl ?_
    refine s_getF (v := σ1.1 42 49) d_M_goesOn_34 fl_M_421 rfl (sf_42 hF1) rfl ?_
    refine s_putf 51 rfl d_M_goesOn_37 fl_M_430 (fun C T h => by cases h; exact Or.inl rfl) rfl (Or.inl rfl) (fun h => nomatch h) (sf_42 hF1) ?_
    refine s_aload_n 0 d_M_goesOn_40 rfl rfl ?_
    refine s_getF (v := σ1.1 42 49) d_M_goesOn_41 fl_M_430 rfl (sf_42 (hF1.wf (a := 42) (k := 51) (by decide))) rfl ?_
    refine s_iload_n 2 d_M_goesOn_44 rfl rfl ?_
    obtain ⟨g3, h⟩ := h
    obtain ⟨g4, h⟩ := h
    refine s_icmp_ne d_M_goesOn_45 rfl g3 g4 (fun c => ?_) (fun c => ?_)
    · have h := h.1 c
      refine wp_drop [0] rfl ?_
      exact h
    · have h := h.2 c
      refine s_iload_n 1 d_M_goesOn_48 rfl rfl ?_
      refine s_iconst d_M_goesOn_49 ?_
      obtain ⟨g5, h⟩ := h
      refine s_icmp_eq d_M_goesOn_50 rfl g5 (by decide) (fun c => ?_) (fun c => ?_)
      · have h := h.1 c
        refine wp_drop [0] rfl ?_
        exact h
      · have h := h.2 c
        refine s_iload_n 1 d_M_goesOn_53 rfl rfl ?_
        refine s_iconst d_M_goesOn_54 ?_
        obtain ⟨g6, h⟩ := h
        refine s_icmp_ne d_M_goesOn_55 rfl g6 (by decide) (fun c => ?_) (fun c => ?_)
        · have h := h.1 c
          refine wp_drop [0] rfl ?_
          exact h
        · have h := h.2 c
          refine wp_drop [0] rfl ?_
          exact h
  · have h := h.2 c
    refine s_aload_n 0 d_M_goesOn_19 rfl rfl ?_
    refine s_dup d_M_goesOn_20 (Nat.ne_of_beq_eq_false rfl) ?_
    refine s_getF (v := σ1.1 42 49) d_M_goesOn_21 fl_M_421 rfl (sf_42 hF1) rfl ?_
    refine s_iconst d_M_goesOn_24 ?_
    refine s_iadd d_M_goesOn_25 ?_
    refine s_putf 49 rfl d_M_goesOn_26 fl_M_421 (fun C T h => by cases h; exact Or.inl rfl) rfl (Or.inl rfl) (fun h => nomatch h) (sf_42 hF1) ?_
    refine s_goto d_M_goesOn_29 rfl ?_
    exact h
theorem b_M_goesOn_58 {E : EV} {d : Nat} {Q : Option AV → St → Prop} {σ : St} (h : WP E m_M_goesOn (d + 1) 63 [(0, aP 42)] [aI 1] σ Q) : WP E m_M_goesOn (d + 1) 58 [(0, aP 42)] [] σ Q := by
  refine s_iconst d_M_goesOn_58 ?_
  refine s_goto d_M_goesOn_59 rfl ?_
  exact h
theorem b_M_goesOn_62 {E : EV} {d : Nat} {Q : Option AV → St → Prop} {σ : St} (h : WP E m_M_goesOn (d + 1) 63 [(0, aP 42)] [aI 0] σ Q) : WP E m_M_goesOn (d + 1) 62 [(0, aP 42)] [] σ Q := by
  refine s_iconst d_M_goesOn_62 ?_
  exact h
theorem b_M_goesOn_63 {E : EV} {d : Nat} {Q : Option AV → St → Prop} {σ : St} (s0 : Int) (hF : Fix σ) (h : (WMi E m_M_here d [aP 42] σ (fun v1 σ1 => Fix σ1 ∧ (rI v1) ∧ ((¬ v1 = (-1) → (WMi E m_M_in d [aI v1, aI 97, aI 122] σ1 (fun v3 σ3 => Fix σ3 ∧ (rI v3) ∧ ((v3 = 0 → (WMi E m_M_in d [aI v1, aI 48, aI 57] σ3 (fun v5 σ5 => Fix σ5 ∧ (rI v5) ∧ ((v5 = 0 → Q none (wr (wr σ5 42 50 3) 42 49 ((σ5.1 42 49) + 1))) ∧ (¬ v5 = 0 → WP E m_M_goesOn (d + 1) 156 [(0, aP 42), (3, aI s0)] [] (wr σ5 42 52 0) Q))))) ∧ (¬ v3 = 0 → WP E m_M_goesOn (d + 1) 96 [(0, aP 42), (3, aI s0)] [] σ3 Q))))) ∧ (v1 = (-1) → Q none (wr σ1 42 50 0)))))) : WP E m_M_goesOn (d + 1) 63 [(0, aP 42)] [aI s0] σ Q := by
  refine s_istore_n d_M_goesOn_63 rfl (by decide) rfl ?_
  refine s_aload_n 1 d_M_goesOn_64 rfl rfl ?_
  refine s_callV (as := []) (ci := 10) d_M_goesOn_65 ok_M_here lk_M_427 io_M_here so_M_here (by decide) rfl rfl rfl (Nat.le_of_ble_eq_true rfl) rfl (sf_42 hF) (WM.mono h ?_)
  rintro _ σ1 ⟨v1, rfl, hp, h⟩
  obtain ⟨hF1, h⟩ := h
  show WP E m_M_goesOn (d + 1) 68 [(3, aI s0), (0, aP 42)] [aI v1] σ1 Q
  refine s_istore d_M_goesOn_68 (by decide) rfl ?_
  refine s_iload 0 d_M_goesOn_70 rfl ?_
  refine s_iconst d_M_goesOn_72 ?_
  obtain ⟨g2, h⟩ := h
  refine s_icmp_ne d_M_goesOn_73 rfl g2 (by decide) (fun c => ?_) (fun c => ?_)
  · have h := h.1 c
    refine s_iload 0 d_M_goesOn_84 rfl ?_
    refine s_bipush d_M_goesOn_86 (by decide) ?_
    refine s_bipush d_M_goesOn_88 (by decide) ?_
    refine s_callS (as := [aI v1, aI 97, aI 122]) d_M_goesOn_90 ok_M_in lk_M_167 to_M_in rfl (Nat.le_of_ble_eq_true rfl) rfl (WM.mono h ?_)
    rintro _ σ3 ⟨v3, rfl, hp, h⟩
    obtain ⟨hF3, h⟩ := h
    show WP E m_M_goesOn (d + 1) 93 [(4, aI v1), (3, aI s0), (0, aP 42)] [aI v3] σ3 Q
    obtain ⟨g4, h⟩ := h
    refine s_if_eq d_M_goesOn_93 rfl g4 (fun c => ?_) (fun c => ?_)
    · have h := h.1 c
      refine s_iload 0 d_M_goesOn_139 rfl ?_
      refine s_bipush d_M_goesOn_141 (by decide) ?_
      refine s_bipush d_M_goesOn_143 (by decide) ?_
      refine s_callS (as := [aI v1, aI 48, aI 57]) d_M_goesOn_145 ok_M_in lk_M_167 to_M_in rfl (Nat.le_of_ble_eq_true rfl) rfl (WM.mono h ?_)
      rintro _ σ5 ⟨v5, rfl, hp, h⟩
      obtain ⟨hF5, h⟩ := h
      show WP E m_M_goesOn (d + 1) 148 [(4, aI v1), (3, aI s0), (0, aP 42)] [aI v5] σ5 Q
      obtain ⟨g6, h⟩ := h
      refine s_if_eq d_M_goesOn_148 rfl g6 (fun c => ?_) (fun c => ?_)
      · have h := h.1 c
        refine s_aload_n 2 d_M_goesOn_244 rfl rfl ?_
        refine s_iconst d_M_goesOn_245 ?_
        refine s_putf 50 rfl d_M_goesOn_246 fl_M_424 (fun C T h => by cases h; exact Or.inl rfl) rfl (Or.inl rfl) (fun h => nomatch h) (sf_42 hF5) ?_
        refine s_aload_n 2 d_M_goesOn_249 rfl rfl ?_
        refine s_dup d_M_goesOn_250 (Nat.ne_of_beq_eq_false rfl) ?_
        refine s_getF (v := σ5.1 42 49) d_M_goesOn_251 fl_M_421 rfl (sf_42 (hF5.wf (a := 42) (k := 50) (by decide))) rfl ?_
        refine s_iconst d_M_goesOn_254 ?_
        refine s_iadd d_M_goesOn_255 ?_
        refine s_putf 49 rfl d_M_goesOn_256 fl_M_421 (fun C T h => by cases h; exact Or.inl rfl) rfl (Or.inl rfl) (fun h => nomatch h) (sf_42 (hF5.wf (a := 42) (k := 50) (by decide))) ?_
        exact s_return d_M_goesOn_259 rfl h
      · have h := h.2 c
        refine s_aload_n 2 d_M_goesOn_151 rfl rfl ?_
        refine s_iconst d_M_goesOn_152 ?_
        refine s_putf 52 rfl d_M_goesOn_153 fl_M_433 (fun C T h => by cases h; exact Or.inl rfl) rfl (Or.inl rfl) (fun h => nomatch h) (sf_42 hF5) ?_
        refine wp_drop [2, 1] rfl ?_
        exact h
    · have h := h.2 c
      refine wp_drop [2, 1] rfl ?_
      exact h
  · have h := h.2 c
    refine s_aload_n 2 d_M_goesOn_76 rfl rfl ?_
    refine s_iconst d_M_goesOn_77 ?_
    refine s_putf 50 rfl d_M_goesOn_78 fl_M_424 (fun C T h => by cases h; exact Or.inl rfl) rfl (Or.inl rfl) (fun h => nomatch h) (sf_42 hF1) ?_
    refine s_goto d_M_goesOn_81 rfl ?_
    exact s_return d_M_goesOn_259 rfl h
theorem b_M_goesOn_96 {E : EV} {d : Nat} {Q : Option AV → St → Prop} {σ : St} (x3 : Int) (hF : Fix σ) (h : (WMi E m_M_here d [aP 42] σ (fun v1 σ1 => Fix σ1 ∧ (WMi E m_M_in d [aI v1, aI 97, aI 122] σ1 (fun v2 σ2 => Fix σ2 ∧ (rI v2) ∧ ((v2 = 0 → (rI x3) ∧ ((x3 = 0 → WP E m_M_goesOn (d + 1) 133 [] [aI 1, aP 42] σ2 Q) ∧ (¬ x3 = 0 → WP E m_M_goesOn (d + 1) 133 [] [aI 4, aP 42] σ2 Q))) ∧ (¬ v2 = 0 → WP E m_M_goesOn (d + 1) 96 [(0, aP 42), (3, aI x3)] [] (wr σ2 42 49 ((σ2.1 42 49) + 1)) Q))))))) : WP E m_M_goesOn (d + 1) 96 [(0, aP 42), (3, aI x3)] [] σ Q := by
  refine s_aload_n 0 d_M_goesOn_96 rfl rfl ?_
  refine s_callV (as := []) (ci := 10) d_M_goesOn_97 ok_M_here lk_M_427 io_M_here so_M_here (by decide) rfl rfl rfl (Nat.le_of_ble_eq_true rfl) rfl (sf_42 hF) (WM.mono h ?_)
  rintro _ σ1 ⟨v1, rfl, hp, h⟩
  obtain ⟨hF1, h⟩ := h
  show WP E m_M_goesOn (d + 1) 100 [(0, aP 42), (3, aI x3)] [aI v1] σ1 Q
  refine s_bipush d_M_goesOn_100 (by decide) ?_
  refine s_bipush d_M_goesOn_102 (by decide) ?_
  refine s_callS (as := [aI v1, aI 97, aI 122]) d_M_goesOn_104 ok_M_in lk_M_167 to_M_in rfl (Nat.le_of_ble_eq_true rfl) rfl (WM.mono h ?_)
  rintro _ σ2 ⟨v2, rfl, hp, h⟩
  obtain ⟨hF2, h⟩ := h
  show WP E m_M_goesOn (d + 1) 107 [(0, aP 42), (3, aI x3)] [aI v2] σ2 Q
  obtain ⟨g3, h⟩ := h
  refine s_if_eq d_M_goesOn_107 rfl g3 (fun c => ?_) (fun c => ?_)
  · have h := h.1 c
    refine s_aload_n 0 d_M_goesOn_123 rfl rfl ?_
    refine s_iload_n 1 d_M_goesOn_124 rfl rfl ?_
    obtain ⟨g4, h⟩ := h
    refine s_if_eq d_M_goesOn_125 rfl g4 (fun c => ?_) (fun c => ?_)
    · have h := h.1 c
      refine s_iconst d_M_goesOn_132 ?_
      refine wp_drop [] rfl ?_
      exact h
    · have h := h.2 c
      refine s_iconst d_M_goesOn_128 ?_
      refine s_goto d_M_goesOn_129 rfl ?_
      refine wp_drop [] rfl ?_
      exact h
  · have h := h.2 c
    refine s_aload_n 0 d_M_goesOn_110 rfl rfl ?_
    refine s_dup d_M_goesOn_111 (Nat.ne_of_beq_eq_false rfl) ?_
    refine s_getF (v := σ2.1 42 49) d_M_goesOn_112 fl_M_421 rfl (sf_42 hF2) rfl ?_
    refine s_iconst d_M_goesOn_115 ?_
    refine s_iadd d_M_goesOn_116 ?_
    refine s_putf 49 rfl d_M_goesOn_117 fl_M_421 (fun C T h => by cases h; exact Or.inl rfl) rfl (Or.inl rfl) (fun h => nomatch h) (sf_42 hF2) ?_
    refine s_goto d_M_goesOn_120 rfl ?_
    exact h
theorem b_M_goesOn_133 {E : EV} {d : Nat} {Q : Option AV → St → Prop} {σ : St} (s0 s1 : Int) (h : (sh σ s0 = some (10, 74)) ∧ Q none (wr σ s0 50 s1)) : WP E m_M_goesOn (d + 1) 133 [] [aI s1, aP s0] σ Q := by
  obtain ⟨g1, h⟩ := h
  refine s_putf 50 rfl d_M_goesOn_133 fl_M_424 (fun C T h => by cases h; exact Or.inl rfl) rfl (Or.inl rfl) (fun h => nomatch h) g1 ?_
  refine s_goto d_M_goesOn_136 rfl ?_
  exact s_return d_M_goesOn_259 rfl h
theorem b_M_goesOn_156 {E : EV} {d : Nat} {Q : Option AV → St → Prop} {σ : St} (x3 : Int) (hF : Fix σ) (h : (WMi E m_M_here d [aP 42] σ (fun v1 σ1 => Fix σ1 ∧ (WMi E m_M_in d [aI v1, aI 48, aI 57] σ1 (fun v2 σ2 => Fix σ2 ∧ (rI v2) ∧ ((v2 = 0 → (rI x3) ∧ ((¬ x3 = 0 → WP E m_M_goesOn (d + 1) 233 [] [aP 42] σ2 Q) ∧ (x3 = 0 → (rI ((σ2.1 42 49) - (σ2.1 42 51))) ∧ ((((σ2.1 42 49) - (σ2.1 42 51)) ≤ 2 → WP E m_M_goesOn (d + 1) 238 [] [aI 2, aP 42] σ2 Q) ∧ (¬ ((σ2.1 42 49) - (σ2.1 42 51)) ≤ 2 → WP E m_M_goesOn (d + 1) 233 [] [aP 42] σ2 Q))))) ∧ (¬ v2 = 0 → (rI ((σ2.1 42 49) - (σ2.1 42 51))) ∧ ((2 ≤ ((σ2.1 42 49) - (σ2.1 42 51)) → WP E m_M_goesOn (d + 1) 202 [(0, aP 42), (3, aI x3)] [] σ2 Q) ∧ (¬ 2 ≤ ((σ2.1 42 49) - (σ2.1 42 51)) → (WMi E m_M_here d [aP 42] σ2 (fun v7 σ7 => Fix σ7 ∧ WP E m_M_goesOn (d + 1) 202 [(0, aP 42), (3, aI x3)] [] (wr σ7 42 52 (((10 * (σ2.1 42 52)) + v7) - 48)) Q))))))))))) : WP E m_M_goesOn (d + 1) 156 [(0, aP 42), (3, aI x3)] [] σ Q := by
  refine s_aload_n 0 d_M_goesOn_156 rfl rfl ?_
  refine s_callV (as := []) (ci := 10) d_M_goesOn_157 ok_M_here lk_M_427 io_M_here so_M_here (by decide) rfl rfl rfl (Nat.le_of_ble_eq_true rfl) rfl (sf_42 hF) (WM.mono h ?_)
  rintro _ σ1 ⟨v1, rfl, hp, h⟩
  obtain ⟨hF1, h⟩ := h
  show WP E m_M_goesOn (d + 1) 160 [(0, aP 42), (3, aI x3)] [aI v1] σ1 Q
  refine s_bipush d_M_goesOn_160 (by decide) ?_
  refine s_bipush d_M_goesOn_162 (by decide) ?_
  refine s_callS (as := [aI v1, aI 48, aI 57]) d_M_goesOn_164 ok_M_in lk_M_167 to_M_in rfl (Nat.le_of_ble_eq_true rfl) rfl (WM.mono h ?_)
  rintro _ σ2 ⟨v2, rfl, hp, h⟩
  obtain ⟨hF2, h⟩ := h
  show WP E m_M_goesOn (d + 1) 167 [(0, aP 42), (3, aI x3)] [aI v2] σ2 Q
  obtain ⟨g3, h⟩ := h
  refine s_if_eq d_M_goesOn_167 rfl g3 (fun c => ?_) (fun c => ?_)
  · have h := h.1 c
    refine s_aload_n 0 d_M_goesOn_215 rfl rfl ?_
    refine s_iload_n 1 d_M_goesOn_216 rfl rfl ?_
    obtain ⟨g4, h⟩ := h
    refine s_if_ne d_M_goesOn_217 rfl g4 (fun c => ?_) (fun c => ?_)
    · have h := h.1 c
      refine wp_drop [] rfl ?_
      exact h
    · have h := h.2 c
      refine s_aload_n 0 d_M_goesOn_220 rfl rfl ?_
      refine s_getF (v := σ2.1 42 49) d_M_goesOn_221 fl_M_421 rfl (sf_42 hF2) rfl ?_
      refine s_aload_n 0 d_M_goesOn_224 rfl rfl ?_
      refine s_getF (v := σ2.1 42 51) d_M_goesOn_225 fl_M_430 rfl (sf_42 hF2) rfl ?_
      refine s_isub d_M_goesOn_228 ?_
      refine s_iconst d_M_goesOn_229 ?_
      obtain ⟨g5, h⟩ := h
      refine s_icmp_le d_M_goesOn_230 rfl g5 (by decide) (fun c => ?_) (fun c => ?_)
      · have h := h.1 c
        refine s_iconst d_M_goesOn_237 ?_
        refine wp_drop [] rfl ?_
        exact h
      · have h := h.2 c
        refine wp_drop [] rfl ?_
        exact h
  · have h := h.2 c
    refine s_aload_n 0 d_M_goesOn_170 rfl rfl ?_
    refine s_getF (v := σ2.1 42 49) d_M_goesOn_171 fl_M_421 rfl (sf_42 hF2) rfl ?_
    refine s_aload_n 0 d_M_goesOn_174 rfl rfl ?_
    refine s_getF (v := σ2.1 42 51) d_M_goesOn_175 fl_M_430 rfl (sf_42 hF2) rfl ?_
    refine s_isub d_M_goesOn_178 ?_
    refine s_iconst d_M_goesOn_179 ?_
    obtain ⟨g6, h⟩ := h
    refine s_icmp_ge d_M_goesOn_180 rfl g6 (by decide) (fun c => ?_) (fun c => ?_)
    · have h := h.1 c
      exact h
    · have h := h.2 c
      refine s_aload_n 0 d_M_goesOn_183 rfl rfl ?_
      refine s_bipush d_M_goesOn_184 (by decide) ?_
      refine s_aload_n 0 d_M_goesOn_186 rfl rfl ?_
      refine s_getF (v := σ2.1 42 52) d_M_goesOn_187 fl_M_433 rfl (sf_42 hF2) rfl ?_
      refine s_imul d_M_goesOn_190 ?_
      refine s_aload_n 0 d_M_goesOn_191 rfl rfl ?_
      refine s_callV (as := []) (ci := 10) d_M_goesOn_192 ok_M_here lk_M_427 io_M_here so_M_here (by decide) rfl rfl rfl (Nat.le_of_ble_eq_true rfl) rfl (sf_42 hF2) (WM.mono h ?_)
      rintro _ σ7 ⟨v7, rfl, hp, h⟩
      obtain ⟨hF7, h⟩ := h
      show WP E m_M_goesOn (d + 1) 195 [(0, aP 42), (3, aI x3)] [aI v7, aI (10 * (σ2.1 42 52)), aP 42] σ7 Q
      refine s_iadd d_M_goesOn_195 ?_
      refine s_bipush d_M_goesOn_196 (by decide) ?_
      refine s_isub d_M_goesOn_198 ?_
      refine s_putf 52 rfl d_M_goesOn_199 fl_M_433 (fun C T h => by cases h; exact Or.inl rfl) rfl (Or.inl rfl) (fun h => nomatch h) (sf_42 hF7) ?_
      exact h
theorem b_M_goesOn_202 {E : EV} {d : Nat} {Q : Option AV → St → Prop} {σ : St} (x3 : Int) (hF : Fix σ) (h : WP E m_M_goesOn (d + 1) 156 [(0, aP 42), (3, aI x3)] [] (wr σ 42 49 ((σ.1 42 49) + 1)) Q) : WP E m_M_goesOn (d + 1) 202 [(0, aP 42), (3, aI x3)] [] σ Q := by
  refine s_aload_n 0 d_M_goesOn_202 rfl rfl ?_
  refine s_dup d_M_goesOn_203 (Nat.ne_of_beq_eq_false rfl) ?_
  refine s_getF (v := σ.1 42 49) d_M_goesOn_204 fl_M_421 rfl (sf_42 hF) rfl ?_
  refine s_iconst d_M_goesOn_207 ?_
  refine s_iadd d_M_goesOn_208 ?_
  refine s_putf 49 rfl d_M_goesOn_209 fl_M_421 (fun C T h => by cases h; exact Or.inl rfl) rfl (Or.inl rfl) (fun h => nomatch h) (sf_42 hF) ?_
  refine s_goto d_M_goesOn_212 rfl ?_
  exact h
theorem b_M_goesOn_233 {E : EV} {d : Nat} {Q : Option AV → St → Prop} {σ : St} (s0 : Int) (h : WP E m_M_goesOn (d + 1) 238 [] [aI 4, aP s0] σ Q) : WP E m_M_goesOn (d + 1) 233 [] [aP s0] σ Q := by
  refine s_iconst d_M_goesOn_233 ?_
  refine s_goto d_M_goesOn_234 rfl ?_
  exact h
theorem b_M_goesOn_238 {E : EV} {d : Nat} {Q : Option AV → St → Prop} {σ : St} (s0 s1 : Int) (h : (sh σ s0 = some (10, 74)) ∧ Q none (wr σ s0 50 s1)) : WP E m_M_goesOn (d + 1) 238 [] [aI s1, aP s0] σ Q := by
  obtain ⟨g1, h⟩ := h
  refine s_putf 50 rfl d_M_goesOn_238 fl_M_424 (fun C T h => by cases h; exact Or.inl rfl) rfl (Or.inl rfl) (fun h => nomatch h) g1 ?_
  refine s_goto d_M_goesOn_241 rfl ?_
  exact s_return d_M_goesOn_259 rfl h
theorem d_M_here_0 : decode m_M_here.2.1 0 = .ok (.aload_n 0, 1) := by decide +kernel
theorem d_M_here_1 : decode m_M_here.2.1 1 = .ok (.getfield 421, 3) := by decide +kernel
theorem d_M_here_4 : decode m_M_here.2.1 4 = .ok (.aload_n 0, 1) := by decide +kernel
theorem d_M_here_5 : decode m_M_here.2.1 5 = .ok (.getfield 418, 3) := by decide +kernel
theorem d_M_here_8 : decode m_M_here.2.1 8 = .ok (.if_icmp .ge 15, 3) := by decide +kernel
theorem d_M_here_11 : decode m_M_here.2.1 11 = .ok (.aload_n 0, 1) := by decide +kernel
theorem d_M_here_12 : decode m_M_here.2.1 12 = .ok (.getfield 115, 3) := by decide +kernel
theorem d_M_here_15 : decode m_M_here.2.1 15 = .ok (.aload_n 0, 1) := by decide +kernel
theorem d_M_here_16 : decode m_M_here.2.1 16 = .ok (.getfield 421, 3) := by decide +kernel
theorem d_M_here_19 : decode m_M_here.2.1 19 = .ok (.iaload, 1) := by decide +kernel
theorem d_M_here_20 : decode m_M_here.2.1 20 = .ok (.goto 4, 3) := by decide +kernel
theorem d_M_here_23 : decode m_M_here.2.1 23 = .ok (.iconst (-1), 1) := by decide +kernel
theorem d_M_here_24 : decode m_M_here.2.1 24 = .ok (.ireturn, 1) := by decide +kernel
theorem b_M_here_0 {E : EV} {d : Nat} {Q : Option AV → St → Prop} {σ : St} (hF : Fix σ) (h : (rI (σ.1 42 49)) ∧ (rI (σ.1 42 47)) ∧ (((σ.1 42 47) ≤ (σ.1 42 49) → Q (some (aI (-1))) σ) ∧ (¬ (σ.1 42 47) ≤ (σ.1 42 49) → (0 ≤ (σ.1 42 49) ∧ (σ.1 42 49) < 400) ∧ Q (some (aI (σ.1 76 (σ.1 42 49)))) σ))) : WP E m_M_here d 0 [(0, aP 42)] [] σ Q := by
  refine s_aload_n 0 d_M_here_0 rfl rfl ?_
  refine s_getF (v := σ.1 42 49) d_M_here_1 fl_M_421 rfl (sf_42 hF) rfl ?_
  refine s_aload_n 0 d_M_here_4 rfl rfl ?_
  refine s_getF (v := σ.1 42 47) d_M_here_5 fl_M_418 rfl (sf_42 hF) rfl ?_
  obtain ⟨g1, h⟩ := h
  obtain ⟨g2, h⟩ := h
  refine s_icmp_ge d_M_here_8 rfl g1 g2 (fun c => ?_) (fun c => ?_)
  · have h := h.1 c
    refine s_iconst d_M_here_23 ?_
    exact s_ireturn d_M_here_24 rfl h
  · have h := h.2 c
    refine s_aload_n 0 d_M_here_11 rfl rfl ?_
    refine s_getF (v := 76) d_M_here_12 fl_M_115 rfl (sf_42 hF) (ff_61 hF) ?_
    refine s_aload_n 0 d_M_here_15 rfl rfl ?_
    refine s_getF (v := σ.1 42 49) d_M_here_16 fl_M_421 rfl (sf_42 hF) rfl ?_
    obtain ⟨g3, h⟩ := h
    refine s_ialoadv (v := σ.1 76 (σ.1 42 49)) d_M_here_19 ⟨_, sf_76 hF, g3.1, g3.2, by have := g3.2; omega⟩ rfl ?_
    refine s_goto d_M_here_20 rfl ?_
    exact s_ireturn d_M_here_24 rfl h
theorem e_M_here {E : EV} {d : Nat} {Q : Option AV → St → Prop} {σ : St} (hF : Fix σ) (h : (rI (σ.1 42 49)) ∧ (rI (σ.1 42 47)) ∧ (((σ.1 42 47) ≤ (σ.1 42 49) → Q (some (aI (-1))) σ) ∧ (¬ (σ.1 42 47) ≤ (σ.1 42 49) → (0 ≤ (σ.1 42 49) ∧ (σ.1 42 49) < 400) ∧ Q (some (aI (σ.1 76 (σ.1 42 49)))) σ))) : WM E m_M_here d [aP 42] σ Q := s_meth (by decide) (Nat.le_of_ble_eq_true rfl) rfl (b_M_here_0 hF h)
theorem d_M_readsAll_0 : decode m_M_readsAll.2.1 0 = .ok (.aload_n 0, 1) := by decide +kernel
theorem d_M_readsAll_1 : decode m_M_readsAll.2.1 1 = .ok (.getfield 436, 3) := by decide +kernel
theorem d_M_readsAll_4 : decode m_M_readsAll.2.1 4 = .ok (.ifCond .ne 133, 3) := by decide +kernel
theorem d_M_readsAll_7 : decode m_M_readsAll.2.1 7 = .ok (.aload_n 0, 1) := by decide +kernel
theorem d_M_readsAll_8 : decode m_M_readsAll.2.1 8 = .ok (.getfield 424, 3) := by decide +kernel
theorem d_M_readsAll_11 : decode m_M_readsAll.2.1 11 = .ok (.ifCond .eq 126, 3) := by decide +kernel
theorem d_M_readsAll_14 : decode m_M_readsAll.2.1 14 = .ok (.aload_n 0, 1) := by decide +kernel
theorem d_M_readsAll_15 : decode m_M_readsAll.2.1 15 = .ok (.iconst 0, 1) := by decide +kernel
theorem d_M_readsAll_16 : decode m_M_readsAll.2.1 16 = .ok (.invokevirtual 455, 3) := by decide +kernel
theorem d_M_readsAll_19 : decode m_M_readsAll.2.1 19 = .ok (.ifCond .eq 29, 3) := by decide +kernel
theorem d_M_readsAll_22 : decode m_M_readsAll.2.1 22 = .ok (.aload_n 0, 1) := by decide +kernel
theorem d_M_readsAll_23 : decode m_M_readsAll.2.1 23 = .ok (.invokevirtual 440, 3) := by decide +kernel
theorem d_M_readsAll_26 : decode m_M_readsAll.2.1 26 = .ok (.aload_n 0, 1) := by decide +kernel
theorem d_M_readsAll_27 : decode m_M_readsAll.2.1 27 = .ok (.getfield 29, 3) := by decide +kernel
theorem d_M_readsAll_30 : decode m_M_readsAll.2.1 30 = .ok (.iconst 0, 1) := by decide +kernel
theorem d_M_readsAll_31 : decode m_M_readsAll.2.1 31 = .ok (.aload_n 0, 1) := by decide +kernel
theorem d_M_readsAll_32 : decode m_M_readsAll.2.1 32 = .ok (.iconst 1, 1) := by decide +kernel
theorem d_M_readsAll_33 : decode m_M_readsAll.2.1 33 = .ok (.bipush 24, 2) := by decide +kernel
theorem d_M_readsAll_35 : decode m_M_readsAll.2.1 35 = .ok (.invokevirtual 452, 3) := by decide +kernel
theorem d_M_readsAll_38 : decode m_M_readsAll.2.1 38 = .ok (.iastore, 1) := by decide +kernel
theorem d_M_readsAll_39 : decode m_M_readsAll.2.1 39 = .ok (.aload_n 0, 1) := by decide +kernel
theorem d_M_readsAll_40 : decode m_M_readsAll.2.1 40 = .ok (.bipush 59, 2) := by decide +kernel
theorem d_M_readsAll_42 : decode m_M_readsAll.2.1 42 = .ok (.invokevirtual 458, 3) := by decide +kernel
theorem d_M_readsAll_45 : decode m_M_readsAll.2.1 45 = .ok (.goto (-45), 3) := by decide +kernel
theorem d_M_readsAll_48 : decode m_M_readsAll.2.1 48 = .ok (.aload_n 0, 1) := by decide +kernel
theorem d_M_readsAll_49 : decode m_M_readsAll.2.1 49 = .ok (.iconst 1, 1) := by decide +kernel
theorem d_M_readsAll_50 : decode m_M_readsAll.2.1 50 = .ok (.invokevirtual 455, 3) := by decide +kernel
theorem d_M_readsAll_53 : decode m_M_readsAll.2.1 53 = .ok (.ifCond .eq 28, 3) := by decide +kernel
theorem d_M_readsAll_56 : decode m_M_readsAll.2.1 56 = .ok (.aload_n 0, 1) := by decide +kernel
theorem d_M_readsAll_57 : decode m_M_readsAll.2.1 57 = .ok (.invokevirtual 440, 3) := by decide +kernel
theorem d_M_readsAll_60 : decode m_M_readsAll.2.1 60 = .ok (.aload_n 0, 1) := by decide +kernel
theorem d_M_readsAll_61 : decode m_M_readsAll.2.1 61 = .ok (.getfield 29, 3) := by decide +kernel
theorem d_M_readsAll_64 : decode m_M_readsAll.2.1 64 = .ok (.iconst 1, 1) := by decide +kernel
theorem d_M_readsAll_65 : decode m_M_readsAll.2.1 65 = .ok (.aload_n 0, 1) := by decide +kernel
theorem d_M_readsAll_66 : decode m_M_readsAll.2.1 66 = .ok (.iconst 0, 1) := by decide +kernel
theorem d_M_readsAll_67 : decode m_M_readsAll.2.1 67 = .ok (.iconst 3, 1) := by decide +kernel
theorem d_M_readsAll_68 : decode m_M_readsAll.2.1 68 = .ok (.invokevirtual 452, 3) := by decide +kernel
theorem d_M_readsAll_71 : decode m_M_readsAll.2.1 71 = .ok (.iastore, 1) := by decide +kernel
theorem d_M_readsAll_72 : decode m_M_readsAll.2.1 72 = .ok (.aload_n 0, 1) := by decide +kernel
theorem d_M_readsAll_73 : decode m_M_readsAll.2.1 73 = .ok (.bipush 59, 2) := by decide +kernel
theorem d_M_readsAll_75 : decode m_M_readsAll.2.1 75 = .ok (.invokevirtual 458, 3) := by decide +kernel
theorem d_M_readsAll_78 : decode m_M_readsAll.2.1 78 = .ok (.goto (-78), 3) := by decide +kernel
theorem d_M_readsAll_81 : decode m_M_readsAll.2.1 81 = .ok (.aload_n 0, 1) := by decide +kernel
theorem d_M_readsAll_82 : decode m_M_readsAll.2.1 82 = .ok (.iconst 2, 1) := by decide +kernel
theorem d_M_readsAll_83 : decode m_M_readsAll.2.1 83 = .ok (.invokevirtual 455, 3) := by decide +kernel
theorem d_M_readsAll_86 : decode m_M_readsAll.2.1 86 = .ok (.ifCond .eq 14, 3) := by decide +kernel
theorem d_M_readsAll_89 : decode m_M_readsAll.2.1 89 = .ok (.aload_n 0, 1) := by decide +kernel
theorem d_M_readsAll_90 : decode m_M_readsAll.2.1 90 = .ok (.invokevirtual 440, 3) := by decide +kernel
theorem d_M_readsAll_93 : decode m_M_readsAll.2.1 93 = .ok (.aload_n 0, 1) := by decide +kernel
theorem d_M_readsAll_94 : decode m_M_readsAll.2.1 94 = .ok (.invokevirtual 503, 3) := by decide +kernel
theorem d_M_readsAll_97 : decode m_M_readsAll.2.1 97 = .ok (.goto (-97), 3) := by decide +kernel
theorem d_M_readsAll_100 : decode m_M_readsAll.2.1 100 = .ok (.aload_n 0, 1) := by decide +kernel
theorem d_M_readsAll_101 : decode m_M_readsAll.2.1 101 = .ok (.iconst 4, 1) := by decide +kernel
theorem d_M_readsAll_102 : decode m_M_readsAll.2.1 102 = .ok (.invokevirtual 455, 3) := by decide +kernel
theorem d_M_readsAll_105 : decode m_M_readsAll.2.1 105 = .ok (.ifCond .eq 24, 3) := by decide +kernel
theorem d_M_readsAll_108 : decode m_M_readsAll.2.1 108 = .ok (.aload_n 0, 1) := by decide +kernel
theorem d_M_readsAll_109 : decode m_M_readsAll.2.1 109 = .ok (.getfield 29, 3) := by decide +kernel
theorem d_M_readsAll_112 : decode m_M_readsAll.2.1 112 = .ok (.iconst 2, 1) := by decide +kernel
theorem d_M_readsAll_113 : decode m_M_readsAll.2.1 113 = .ok (.iaload, 1) := by decide +kernel
theorem d_M_readsAll_114 : decode m_M_readsAll.2.1 114 = .ok (.iconst 4, 1) := by decide +kernel
theorem d_M_readsAll_115 : decode m_M_readsAll.2.1 115 = .ok (.if_icmp .ge 14, 3) := by decide +kernel
theorem d_M_readsAll_118 : decode m_M_readsAll.2.1 118 = .ok (.aload_n 0, 1) := by decide +kernel
theorem d_M_readsAll_119 : decode m_M_readsAll.2.1 119 = .ok (.invokevirtual 440, 3) := by decide +kernel
theorem d_M_readsAll_122 : decode m_M_readsAll.2.1 122 = .ok (.aload_n 0, 1) := by decide +kernel
theorem d_M_readsAll_123 : decode m_M_readsAll.2.1 123 = .ok (.invokevirtual 506, 3) := by decide +kernel
theorem d_M_readsAll_126 : decode m_M_readsAll.2.1 126 = .ok (.goto (-126), 3) := by decide +kernel
theorem d_M_readsAll_129 : decode m_M_readsAll.2.1 129 = .ok (.aload_n 0, 1) := by decide +kernel
theorem d_M_readsAll_130 : decode m_M_readsAll.2.1 130 = .ok (.iconst 1, 1) := by decide +kernel
theorem d_M_readsAll_131 : decode m_M_readsAll.2.1 131 = .ok (.putfield 436, 3) := by decide +kernel
theorem d_M_readsAll_134 : decode m_M_readsAll.2.1 134 = .ok (.goto (-134), 3) := by decide +kernel
theorem d_M_readsAll_137 : decode m_M_readsAll.2.1 137 = .ok (.return_, 1) := by decide +kernel
theorem b_M_readsAll_0 {E : EV} {d : Nat} {Q : Option AV → St → Prop} {σ : St} (hF : Fix σ) (h : (rI (σ.1 42 53)) ∧ ((¬ (σ.1 42 53) = 0 → Q none σ) ∧ ((σ.1 42 53) = 0 → (rI (σ.1 42 50)) ∧ (((σ.1 42 50) = 0 → Q none σ) ∧ (¬ (σ.1 42 50) = 0 → (WMi E m_M_isWord d [aP 42, aI 0] σ (fun v3 σ3 => Fix σ3 ∧ (rI v3) ∧ ((v3 = 0 → (WMi E m_M_isWord d [aP 42, aI 1] σ3 (fun v5 σ5 => Fix σ5 ∧ (rI v5) ∧ ((v5 = 0 → (WMi E m_M_isWord d [aP 42, aI 2] σ5 (fun v7 σ7 => Fix σ7 ∧ (rI v7) ∧ ((v7 = 0 → (WMi E m_M_isWord d [aP 42, aI 4] σ7 (fun v9 σ9 => Fix σ9 ∧ (rI v9) ∧ ((v9 = 0 → WP E m_M_readsAll (d + 1) 129 [(0, aP 42)] [] σ9 Q) ∧ (¬ v9 = 0 → (rI (σ9.1 48 2)) ∧ ((4 ≤ (σ9.1 48 2) → WP E m_M_readsAll (d + 1) 129 [(0, aP 42)] [] σ9 Q) ∧ (¬ 4 ≤ (σ9.1 48 2) → (WMv E m_M_goesOn d [aP 42] σ9 (fun σ12 => Fix σ12 ∧ (WMv E m_M_readsLine d [aP 42] σ12 (fun σ13 => WP E m_M_readsAll (d + 1) 0 [(0, aP 42)] [] σ13 Q))))))))))) ∧ (¬ v7 = 0 → (WMv E m_M_goesOn d [aP 42] σ7 (fun σ14 => Fix σ14 ∧ (WMv E m_M_readsSign d [aP 42] σ14 (fun σ15 => WP E m_M_readsAll (d + 1) 0 [(0, aP 42)] [] σ15 Q))))))))) ∧ (¬ v5 = 0 → (WMv E m_M_goesOn d [aP 42] σ5 (fun σ16 => Fix σ16 ∧ (WMi E m_M_needsNumber d [aP 42, aI 0, aI 3] σ16 (fun v17 σ17 => Fix σ17 ∧ (WMv E m_M_needsMark d [aP 42, aI 59] (wr σ17 48 1 v17) (fun σ18 => WP E m_M_readsAll (d + 1) 0 [(0, aP 42)] [] σ18 Q))))))))))) ∧ (¬ v3 = 0 → (WMv E m_M_goesOn d [aP 42] σ3 (fun σ19 => Fix σ19 ∧ (WMi E m_M_needsNumber d [aP 42, aI 1, aI 24] σ19 (fun v20 σ20 => Fix σ20 ∧ (WMv E m_M_needsMark d [aP 42, aI 59] (wr σ20 48 0 v20) (fun σ21 => WP E m_M_readsAll (d + 1) 0 [(0, aP 42)] [] σ21 Q))))))))))))))) : WP E m_M_readsAll (d + 1) 0 [(0, aP 42)] [] σ Q := by
  refine s_aload_n 0 d_M_readsAll_0 rfl rfl ?_
  refine s_getF (v := σ.1 42 53) d_M_readsAll_1 fl_M_436 rfl (sf_42 hF) rfl ?_
  obtain ⟨g1, h⟩ := h
  refine s_if_ne d_M_readsAll_4 rfl g1 (fun c => ?_) (fun c => ?_)
  · have h := h.1 c
    exact s_return d_M_readsAll_137 rfl h
  · have h := h.2 c
    refine s_aload_n 0 d_M_readsAll_7 rfl rfl ?_
    refine s_getF (v := σ.1 42 50) d_M_readsAll_8 fl_M_424 rfl (sf_42 hF) rfl ?_
    obtain ⟨g2, h⟩ := h
    refine s_if_eq d_M_readsAll_11 rfl g2 (fun c => ?_) (fun c => ?_)
    · have h := h.1 c
      exact s_return d_M_readsAll_137 rfl h
    · have h := h.2 c
      refine s_aload_n 0 d_M_readsAll_14 rfl rfl ?_
      refine s_iconst d_M_readsAll_15 ?_
      refine s_callV (as := [aI 0]) (ci := 10) d_M_readsAll_16 ok_M_isWord lk_M_455 io_M_isWord so_M_isWord (by decide) rfl rfl rfl (Nat.le_of_ble_eq_true rfl) rfl (sf_42 hF) (WM.mono h ?_)
      rintro _ σ3 ⟨v3, rfl, hp, h⟩
      obtain ⟨hF3, h⟩ := h
      show WP E m_M_readsAll (d + 1) 19 [(0, aP 42)] [aI v3] σ3 Q
      obtain ⟨g4, h⟩ := h
      refine s_if_eq d_M_readsAll_19 rfl g4 (fun c => ?_) (fun c => ?_)
      · have h := h.1 c
        refine s_aload_n 0 d_M_readsAll_48 rfl rfl ?_
        refine s_iconst d_M_readsAll_49 ?_
        refine s_callV (as := [aI 1]) (ci := 10) d_M_readsAll_50 ok_M_isWord lk_M_455 io_M_isWord so_M_isWord (by decide) rfl rfl rfl (Nat.le_of_ble_eq_true rfl) rfl (sf_42 hF3) (WM.mono h ?_)
        rintro _ σ5 ⟨v5, rfl, hp, h⟩
        obtain ⟨hF5, h⟩ := h
        show WP E m_M_readsAll (d + 1) 53 [(0, aP 42)] [aI v5] σ5 Q
        obtain ⟨g6, h⟩ := h
        refine s_if_eq d_M_readsAll_53 rfl g6 (fun c => ?_) (fun c => ?_)
        · have h := h.1 c
          refine s_aload_n 0 d_M_readsAll_81 rfl rfl ?_
          refine s_iconst d_M_readsAll_82 ?_
          refine s_callV (as := [aI 2]) (ci := 10) d_M_readsAll_83 ok_M_isWord lk_M_455 io_M_isWord so_M_isWord (by decide) rfl rfl rfl (Nat.le_of_ble_eq_true rfl) rfl (sf_42 hF5) (WM.mono h ?_)
          rintro _ σ7 ⟨v7, rfl, hp, h⟩
          obtain ⟨hF7, h⟩ := h
          show WP E m_M_readsAll (d + 1) 86 [(0, aP 42)] [aI v7] σ7 Q
          obtain ⟨g8, h⟩ := h
          refine s_if_eq d_M_readsAll_86 rfl g8 (fun c => ?_) (fun c => ?_)
          · have h := h.1 c
            refine s_aload_n 0 d_M_readsAll_100 rfl rfl ?_
            refine s_iconst d_M_readsAll_101 ?_
            refine s_callV (as := [aI 4]) (ci := 10) d_M_readsAll_102 ok_M_isWord lk_M_455 io_M_isWord so_M_isWord (by decide) rfl rfl rfl (Nat.le_of_ble_eq_true rfl) rfl (sf_42 hF7) (WM.mono h ?_)
            rintro _ σ9 ⟨v9, rfl, hp, h⟩
            obtain ⟨hF9, h⟩ := h
            show WP E m_M_readsAll (d + 1) 105 [(0, aP 42)] [aI v9] σ9 Q
            obtain ⟨g10, h⟩ := h
            refine s_if_eq d_M_readsAll_105 rfl g10 (fun c => ?_) (fun c => ?_)
            · have h := h.1 c
              exact h
            · have h := h.2 c
              refine s_aload_n 0 d_M_readsAll_108 rfl rfl ?_
              refine s_getF (v := 48) d_M_readsAll_109 fl_M_29 rfl (sf_42 hF9) (ff_33 hF9) ?_
              refine s_iconst d_M_readsAll_112 ?_
              refine s_ialoadv (v := σ9.1 48 2) d_M_readsAll_113 ⟨_, sf_48 hF9, by decide, by decide, by decide⟩ rfl ?_
              refine s_iconst d_M_readsAll_114 ?_
              obtain ⟨g11, h⟩ := h
              refine s_icmp_ge d_M_readsAll_115 rfl g11 (by decide) (fun c => ?_) (fun c => ?_)
              · have h := h.1 c
                exact h
              · have h := h.2 c
                refine s_aload_n 0 d_M_readsAll_118 rfl rfl ?_
                refine s_callV (as := []) (ci := 10) d_M_readsAll_119 ok_M_goesOn lk_M_440 io_M_goesOn so_M_goesOn (by decide) rfl rfl rfl (Nat.le_of_ble_eq_true rfl) rfl (sf_42 hF9) (WM.mono h ?_)
                rintro _ σ12 ⟨rfl, hp, h⟩
                obtain ⟨hF12, h⟩ := h
                show WP E m_M_readsAll (d + 1) 122 [(0, aP 42)] [] σ12 Q
                refine s_aload_n 0 d_M_readsAll_122 rfl rfl ?_
                refine s_callV (as := []) (ci := 10) d_M_readsAll_123 ok_M_readsLine lk_M_506 io_M_readsLine so_M_readsLine (by decide) rfl rfl rfl (Nat.le_of_ble_eq_true rfl) rfl (sf_42 hF12) (WM.mono h ?_)
                rintro _ σ13 ⟨rfl, hp, h⟩
                show WP E m_M_readsAll (d + 1) 126 [(0, aP 42)] [] σ13 Q
                refine s_goto d_M_readsAll_126 rfl ?_
                exact h
          · have h := h.2 c
            refine s_aload_n 0 d_M_readsAll_89 rfl rfl ?_
            refine s_callV (as := []) (ci := 10) d_M_readsAll_90 ok_M_goesOn lk_M_440 io_M_goesOn so_M_goesOn (by decide) rfl rfl rfl (Nat.le_of_ble_eq_true rfl) rfl (sf_42 hF7) (WM.mono h ?_)
            rintro _ σ14 ⟨rfl, hp, h⟩
            obtain ⟨hF14, h⟩ := h
            show WP E m_M_readsAll (d + 1) 93 [(0, aP 42)] [] σ14 Q
            refine s_aload_n 0 d_M_readsAll_93 rfl rfl ?_
            refine s_callV (as := []) (ci := 10) d_M_readsAll_94 ok_M_readsSign lk_M_503 io_M_readsSign so_M_readsSign (by decide) rfl rfl rfl (Nat.le_of_ble_eq_true rfl) rfl (sf_42 hF14) (WM.mono h ?_)
            rintro _ σ15 ⟨rfl, hp, h⟩
            show WP E m_M_readsAll (d + 1) 97 [(0, aP 42)] [] σ15 Q
            refine s_goto d_M_readsAll_97 rfl ?_
            exact h
        · have h := h.2 c
          refine s_aload_n 0 d_M_readsAll_56 rfl rfl ?_
          refine s_callV (as := []) (ci := 10) d_M_readsAll_57 ok_M_goesOn lk_M_440 io_M_goesOn so_M_goesOn (by decide) rfl rfl rfl (Nat.le_of_ble_eq_true rfl) rfl (sf_42 hF5) (WM.mono h ?_)
          rintro _ σ16 ⟨rfl, hp, h⟩
          obtain ⟨hF16, h⟩ := h
          show WP E m_M_readsAll (d + 1) 60 [(0, aP 42)] [] σ16 Q
          refine s_aload_n 0 d_M_readsAll_60 rfl rfl ?_
          refine s_getF (v := 48) d_M_readsAll_61 fl_M_29 rfl (sf_42 hF16) (ff_33 hF16) ?_
          refine s_iconst d_M_readsAll_64 ?_
          refine s_aload_n 0 d_M_readsAll_65 rfl rfl ?_
          refine s_iconst d_M_readsAll_66 ?_
          refine s_iconst d_M_readsAll_67 ?_
          refine s_callV (as := [aI 0, aI 3]) (ci := 10) d_M_readsAll_68 ok_M_needsNumber lk_M_452 io_M_needsNumber so_M_needsNumber (by decide) rfl rfl rfl (Nat.le_of_ble_eq_true rfl) rfl (sf_42 hF16) (WM.mono h ?_)
          rintro _ σ17 ⟨v17, rfl, hp, h⟩
          obtain ⟨hF17, h⟩ := h
          show WP E m_M_readsAll (d + 1) 71 [(0, aP 42)] [aI v17, aI 1, aP 48] σ17 Q
          refine s_iastore d_M_readsAll_71 ⟨_, sf_48 hF17, by decide, by decide, by decide⟩ ?_
          refine s_aload_n 0 d_M_readsAll_72 rfl rfl ?_
          refine s_bipush d_M_readsAll_73 (by decide) ?_
          refine s_callV (as := [aI 59]) (ci := 10) d_M_readsAll_75 ok_M_needsMark lk_M_458 io_M_needsMark so_M_needsMark (by decide) rfl rfl rfl (Nat.le_of_ble_eq_true rfl) rfl (sf_42 (hF17.wa (a := 48) (by decide))) (WM.mono h ?_)
          rintro _ σ18 ⟨rfl, hp, h⟩
          show WP E m_M_readsAll (d + 1) 78 [(0, aP 42)] [] σ18 Q
          refine s_goto d_M_readsAll_78 rfl ?_
          exact h
      · have h := h.2 c
        refine s_aload_n 0 d_M_readsAll_22 rfl rfl ?_
        refine s_callV (as := []) (ci := 10) d_M_readsAll_23 ok_M_goesOn lk_M_440 io_M_goesOn so_M_goesOn (by decide) rfl rfl rfl (Nat.le_of_ble_eq_true rfl) rfl (sf_42 hF3) (WM.mono h ?_)
        rintro _ σ19 ⟨rfl, hp, h⟩
        obtain ⟨hF19, h⟩ := h
        show WP E m_M_readsAll (d + 1) 26 [(0, aP 42)] [] σ19 Q
        refine s_aload_n 0 d_M_readsAll_26 rfl rfl ?_
        refine s_getF (v := 48) d_M_readsAll_27 fl_M_29 rfl (sf_42 hF19) (ff_33 hF19) ?_
        refine s_iconst d_M_readsAll_30 ?_
        refine s_aload_n 0 d_M_readsAll_31 rfl rfl ?_
        refine s_iconst d_M_readsAll_32 ?_
        refine s_bipush d_M_readsAll_33 (by decide) ?_
        refine s_callV (as := [aI 1, aI 24]) (ci := 10) d_M_readsAll_35 ok_M_needsNumber lk_M_452 io_M_needsNumber so_M_needsNumber (by decide) rfl rfl rfl (Nat.le_of_ble_eq_true rfl) rfl (sf_42 hF19) (WM.mono h ?_)
        rintro _ σ20 ⟨v20, rfl, hp, h⟩
        obtain ⟨hF20, h⟩ := h
        show WP E m_M_readsAll (d + 1) 38 [(0, aP 42)] [aI v20, aI 0, aP 48] σ20 Q
        refine s_iastore d_M_readsAll_38 ⟨_, sf_48 hF20, by decide, by decide, by decide⟩ ?_
        refine s_aload_n 0 d_M_readsAll_39 rfl rfl ?_
        refine s_bipush d_M_readsAll_40 (by decide) ?_
        refine s_callV (as := [aI 59]) (ci := 10) d_M_readsAll_42 ok_M_needsMark lk_M_458 io_M_needsMark so_M_needsMark (by decide) rfl rfl rfl (Nat.le_of_ble_eq_true rfl) rfl (sf_42 (hF20.wa (a := 48) (by decide))) (WM.mono h ?_)
        rintro _ σ21 ⟨rfl, hp, h⟩
        show WP E m_M_readsAll (d + 1) 45 [(0, aP 42)] [] σ21 Q
        refine s_goto d_M_readsAll_45 rfl ?_
        exact h
theorem e_M_readsAll {E : EV} {d : Nat} {Q : Option AV → St → Prop} {σ : St} (hF : Fix σ) (h : (rI (σ.1 42 53)) ∧ ((¬ (σ.1 42 53) = 0 → Q none σ) ∧ ((σ.1 42 53) = 0 → (rI (σ.1 42 50)) ∧ (((σ.1 42 50) = 0 → Q none σ) ∧ (¬ (σ.1 42 50) = 0 → (WMi E m_M_isWord d [aP 42, aI 0] σ (fun v3 σ3 => Fix σ3 ∧ (rI v3) ∧ ((v3 = 0 → (WMi E m_M_isWord d [aP 42, aI 1] σ3 (fun v5 σ5 => Fix σ5 ∧ (rI v5) ∧ ((v5 = 0 → (WMi E m_M_isWord d [aP 42, aI 2] σ5 (fun v7 σ7 => Fix σ7 ∧ (rI v7) ∧ ((v7 = 0 → (WMi E m_M_isWord d [aP 42, aI 4] σ7 (fun v9 σ9 => Fix σ9 ∧ (rI v9) ∧ ((v9 = 0 → WP E m_M_readsAll (d + 1) 129 [(0, aP 42)] [] σ9 Q) ∧ (¬ v9 = 0 → (rI (σ9.1 48 2)) ∧ ((4 ≤ (σ9.1 48 2) → WP E m_M_readsAll (d + 1) 129 [(0, aP 42)] [] σ9 Q) ∧ (¬ 4 ≤ (σ9.1 48 2) → (WMv E m_M_goesOn d [aP 42] σ9 (fun σ12 => Fix σ12 ∧ (WMv E m_M_readsLine d [aP 42] σ12 (fun σ13 => WP E m_M_readsAll (d + 1) 0 [(0, aP 42)] [] σ13 Q))))))))))) ∧ (¬ v7 = 0 → (WMv E m_M_goesOn d [aP 42] σ7 (fun σ14 => Fix σ14 ∧ (WMv E m_M_readsSign d [aP 42] σ14 (fun σ15 => WP E m_M_readsAll (d + 1) 0 [(0, aP 42)] [] σ15 Q))))))))) ∧ (¬ v5 = 0 → (WMv E m_M_goesOn d [aP 42] σ5 (fun σ16 => Fix σ16 ∧ (WMi E m_M_needsNumber d [aP 42, aI 0, aI 3] σ16 (fun v17 σ17 => Fix σ17 ∧ (WMv E m_M_needsMark d [aP 42, aI 59] (wr σ17 48 1 v17) (fun σ18 => WP E m_M_readsAll (d + 1) 0 [(0, aP 42)] [] σ18 Q))))))))))) ∧ (¬ v3 = 0 → (WMv E m_M_goesOn d [aP 42] σ3 (fun σ19 => Fix σ19 ∧ (WMi E m_M_needsNumber d [aP 42, aI 1, aI 24] σ19 (fun v20 σ20 => Fix σ20 ∧ (WMv E m_M_needsMark d [aP 42, aI 59] (wr σ20 48 0 v20) (fun σ21 => WP E m_M_readsAll (d + 1) 0 [(0, aP 42)] [] σ21 Q))))))))))))))) : WM E m_M_readsAll (d + 1) [aP 42] σ Q := s_meth (by decide) (Nat.le_of_ble_eq_true rfl) rfl (b_M_readsAll_0 hF h)
theorem b_M_readsAll_129 {E : EV} {d : Nat} {Q : Option AV → St → Prop} {σ : St} (hF : Fix σ) (h : WP E m_M_readsAll (d + 1) 0 [(0, aP 42)] [] (wr σ 42 53 1) Q) : WP E m_M_readsAll (d + 1) 129 [(0, aP 42)] [] σ Q := by
  refine s_aload_n 0 d_M_readsAll_129 rfl rfl ?_
  refine s_iconst d_M_readsAll_130 ?_
  refine s_putf 53 rfl d_M_readsAll_131 fl_M_436 (fun C T h => by cases h; exact Or.inl rfl) rfl (Or.inr (Or.inr (Or.inl rfl))) (fun _ => by decide) (sf_42 hF) ?_
  refine s_goto d_M_readsAll_134 rfl ?_
  exact h
theorem d_M_isWord_0 : decode m_M_isWord.2.1 0 = .ok (.aload_n 0, 1) := by decide +kernel
theorem d_M_isWord_1 : decode m_M_isWord.2.1 1 = .ok (.getfield 424, 3) := by decide +kernel
theorem d_M_isWord_4 : decode m_M_isWord.2.1 4 = .ok (.iconst 1, 1) := by decide +kernel
theorem d_M_isWord_5 : decode m_M_isWord.2.1 5 = .ok (.if_icmp .eq 5, 3) := by decide +kernel
theorem d_M_isWord_8 : decode m_M_isWord.2.1 8 = .ok (.iconst 0, 1) := by decide +kernel
theorem d_M_isWord_9 : decode m_M_isWord.2.1 9 = .ok (.ireturn, 1) := by decide +kernel
theorem d_M_isWord_10 : decode m_M_isWord.2.1 10 = .ok (.aload_n 0, 1) := by decide +kernel
theorem d_M_isWord_11 : decode m_M_isWord.2.1 11 = .ok (.iload_n 1, 1) := by decide +kernel
theorem d_M_isWord_12 : decode m_M_isWord.2.1 12 = .ok (.invokevirtual 337, 3) := by decide +kernel
theorem d_M_isWord_15 : decode m_M_isWord.2.1 15 = .ok (.istore_n 2, 1) := by decide +kernel
theorem d_M_isWord_16 : decode m_M_isWord.2.1 16 = .ok (.iconst 0, 1) := by decide +kernel
theorem d_M_isWord_17 : decode m_M_isWord.2.1 17 = .ok (.istore_n 3, 1) := by decide +kernel
theorem d_M_isWord_18 : decode m_M_isWord.2.1 18 = .ok (.aload_n 0, 1) := by decide +kernel
theorem d_M_isWord_19 : decode m_M_isWord.2.1 19 = .ok (.getfield 430, 3) := by decide +kernel
theorem d_M_isWord_22 : decode m_M_isWord.2.1 22 = .ok (.iload_n 3, 1) := by decide +kernel
theorem d_M_isWord_23 : decode m_M_isWord.2.1 23 = .ok (.iadd, 1) := by decide +kernel
theorem d_M_isWord_24 : decode m_M_isWord.2.1 24 = .ok (.aload_n 0, 1) := by decide +kernel
theorem d_M_isWord_25 : decode m_M_isWord.2.1 25 = .ok (.getfield 421, 3) := by decide +kernel
theorem d_M_isWord_28 : decode m_M_isWord.2.1 28 = .ok (.if_icmp .ge 31, 3) := by decide +kernel
theorem d_M_isWord_31 : decode m_M_isWord.2.1 31 = .ok (.aload_n 0, 1) := by decide +kernel
theorem d_M_isWord_32 : decode m_M_isWord.2.1 32 = .ok (.getfield 118, 3) := by decide +kernel
theorem d_M_isWord_35 : decode m_M_isWord.2.1 35 = .ok (.iload_n 2, 1) := by decide +kernel
theorem d_M_isWord_36 : decode m_M_isWord.2.1 36 = .ok (.iload_n 3, 1) := by decide +kernel
theorem d_M_isWord_37 : decode m_M_isWord.2.1 37 = .ok (.iadd, 1) := by decide +kernel
theorem d_M_isWord_38 : decode m_M_isWord.2.1 38 = .ok (.baload, 1) := by decide +kernel
theorem d_M_isWord_39 : decode m_M_isWord.2.1 39 = .ok (.aload_n 0, 1) := by decide +kernel
theorem d_M_isWord_40 : decode m_M_isWord.2.1 40 = .ok (.getfield 115, 3) := by decide +kernel
theorem d_M_isWord_43 : decode m_M_isWord.2.1 43 = .ok (.aload_n 0, 1) := by decide +kernel
theorem d_M_isWord_44 : decode m_M_isWord.2.1 44 = .ok (.getfield 430, 3) := by decide +kernel
theorem d_M_isWord_47 : decode m_M_isWord.2.1 47 = .ok (.iload_n 3, 1) := by decide +kernel
theorem d_M_isWord_48 : decode m_M_isWord.2.1 48 = .ok (.iadd, 1) := by decide +kernel
theorem d_M_isWord_49 : decode m_M_isWord.2.1 49 = .ok (.iaload, 1) := by decide +kernel
theorem d_M_isWord_50 : decode m_M_isWord.2.1 50 = .ok (.if_icmp .ne 9, 3) := by decide +kernel
theorem d_M_isWord_53 : decode m_M_isWord.2.1 53 = .ok (.iinc 3 1, 3) := by decide +kernel
theorem d_M_isWord_56 : decode m_M_isWord.2.1 56 = .ok (.goto (-38), 3) := by decide +kernel
theorem d_M_isWord_59 : decode m_M_isWord.2.1 59 = .ok (.aload_n 0, 1) := by decide +kernel
theorem d_M_isWord_60 : decode m_M_isWord.2.1 60 = .ok (.getfield 430, 3) := by decide +kernel
theorem d_M_isWord_63 : decode m_M_isWord.2.1 63 = .ok (.iload_n 3, 1) := by decide +kernel
theorem d_M_isWord_64 : decode m_M_isWord.2.1 64 = .ok (.iadd, 1) := by decide +kernel
theorem d_M_isWord_65 : decode m_M_isWord.2.1 65 = .ok (.aload_n 0, 1) := by decide +kernel
theorem d_M_isWord_66 : decode m_M_isWord.2.1 66 = .ok (.getfield 421, 3) := by decide +kernel
theorem d_M_isWord_69 : decode m_M_isWord.2.1 69 = .ok (.if_icmp .ne 18, 3) := by decide +kernel
theorem d_M_isWord_72 : decode m_M_isWord.2.1 72 = .ok (.aload_n 0, 1) := by decide +kernel
theorem d_M_isWord_73 : decode m_M_isWord.2.1 73 = .ok (.getfield 118, 3) := by decide +kernel
theorem d_M_isWord_76 : decode m_M_isWord.2.1 76 = .ok (.iload_n 2, 1) := by decide +kernel
theorem d_M_isWord_77 : decode m_M_isWord.2.1 77 = .ok (.iload_n 3, 1) := by decide +kernel
theorem d_M_isWord_78 : decode m_M_isWord.2.1 78 = .ok (.iadd, 1) := by decide +kernel
theorem d_M_isWord_79 : decode m_M_isWord.2.1 79 = .ok (.baload, 1) := by decide +kernel
theorem d_M_isWord_80 : decode m_M_isWord.2.1 80 = .ok (.ifCond .ne 7, 3) := by decide +kernel
theorem d_M_isWord_83 : decode m_M_isWord.2.1 83 = .ok (.iconst 1, 1) := by decide +kernel
theorem d_M_isWord_84 : decode m_M_isWord.2.1 84 = .ok (.goto 4, 3) := by decide +kernel
theorem d_M_isWord_87 : decode m_M_isWord.2.1 87 = .ok (.iconst 0, 1) := by decide +kernel
theorem d_M_isWord_88 : decode m_M_isWord.2.1 88 = .ok (.ireturn, 1) := by decide +kernel
theorem b_M_isWord_0 {E : EV} {d : Nat} {Q : Option AV → St → Prop} {σ : St} (x1 : Int) (hF : Fix σ) (h : (rI (σ.1 42 50)) ∧ (((σ.1 42 50) = 1 → (WMi E m_M_wordFrom d [aP 42, aI x1] σ (fun v2 σ2 => WP E m_M_isWord (d + 1) 18 [(0, aP 42), (2, aI v2), (3, aI 0)] [] σ2 Q))) ∧ (¬ (σ.1 42 50) = 1 → Q (some (aI 0)) σ))) : WP E m_M_isWord (d + 1) 0 [(0, aP 42), (1, aI x1)] [] σ Q := by
  refine s_aload_n 0 d_M_isWord_0 rfl rfl ?_
  refine s_getF (v := σ.1 42 50) d_M_isWord_1 fl_M_424 rfl (sf_42 hF) rfl ?_
  refine s_iconst d_M_isWord_4 ?_
  obtain ⟨g1, h⟩ := h
  refine s_icmp_eq d_M_isWord_5 rfl g1 (by decide) (fun c => ?_) (fun c => ?_)
  · have h := h.1 c
    refine s_aload_n 0 d_M_isWord_10 rfl rfl ?_
    refine s_iload_n 1 d_M_isWord_11 rfl rfl ?_
    refine s_callV (as := [aI x1]) (ci := 10) d_M_isWord_12 ok_M_wordFrom lk_M_337 io_M_wordFrom so_M_wordFrom (by decide) rfl rfl rfl (Nat.le_of_ble_eq_true rfl) rfl (sf_42 hF) (WM.mono h ?_)
    rintro _ σ2 ⟨v2, rfl, hp, h⟩
    show WP E m_M_isWord (d + 1) 15 [(0, aP 42), (1, aI x1)] [aI v2] σ2 Q
    refine s_istore_n d_M_isWord_15 rfl (by decide) rfl ?_
    refine s_iconst d_M_isWord_16 ?_
    refine s_istore_n d_M_isWord_17 rfl (by decide) rfl ?_
    refine wp_drop [2, 1, 0] rfl ?_
    exact h
  · have h := h.2 c
    refine s_iconst d_M_isWord_8 ?_
    exact s_zreturn d_M_isWord_9 rfl (by decide) h
theorem e_M_isWord {E : EV} {d : Nat} {Q : Option AV → St → Prop} {σ : St} (x1 : Int) (hF : Fix σ) (h : (rI (σ.1 42 50)) ∧ (((σ.1 42 50) = 1 → (WMi E m_M_wordFrom d [aP 42, aI x1] σ (fun v2 σ2 => WP E m_M_isWord (d + 1) 18 [(0, aP 42), (2, aI v2), (3, aI 0)] [] σ2 Q))) ∧ (¬ (σ.1 42 50) = 1 → Q (some (aI 0)) σ))) : WM E m_M_isWord (d + 1) [aP 42, aI x1] σ Q := s_meth (by decide) (Nat.le_of_ble_eq_true rfl) rfl (b_M_isWord_0 x1 hF h)
theorem b_M_isWord_18 {E : EV} {d : Nat} {Q : Option AV → St → Prop} {σ : St} (x2 x3 : Int) (hF : Fix σ) (h : (rI ((σ.1 42 51) + x3)) ∧ (rI (σ.1 42 49)) ∧ (((σ.1 42 49) ≤ ((σ.1 42 51) + x3) → WP E m_M_isWord (d + 1) 59 [(0, aP 42), (2, aI x2), (3, aI x3)] [] σ Q) ∧ (¬ (σ.1 42 49) ≤ ((σ.1 42 51) + x3) → (0 ≤ (x2 + x3) ∧ (x2 + x3) < 29) ∧ (0 ≤ ((σ.1 42 51) + x3) ∧ ((σ.1 42 51) + x3) < 400) ∧ (rI (σ.1 77 (x2 + x3))) ∧ (rI (σ.1 76 ((σ.1 42 51) + x3))) ∧ ((¬ (σ.1 77 (x2 + x3)) = (σ.1 76 ((σ.1 42 51) + x3)) → WP E m_M_isWord (d + 1) 59 [(0, aP 42), (2, aI x2), (3, aI x3)] [] σ Q) ∧ ((σ.1 77 (x2 + x3)) = (σ.1 76 ((σ.1 42 51) + x3)) → WP E m_M_isWord (d + 1) 18 [(0, aP 42), (2, aI x2), (3, aI (x3 + 1))] [] σ Q))))) : WP E m_M_isWord (d + 1) 18 [(0, aP 42), (2, aI x2), (3, aI x3)] [] σ Q := by
  refine s_aload_n 0 d_M_isWord_18 rfl rfl ?_
  refine s_getF (v := σ.1 42 51) d_M_isWord_19 fl_M_430 rfl (sf_42 hF) rfl ?_
  refine s_iload_n 2 d_M_isWord_22 rfl rfl ?_
  refine s_iadd d_M_isWord_23 ?_
  refine s_aload_n 0 d_M_isWord_24 rfl rfl ?_
  refine s_getF (v := σ.1 42 49) d_M_isWord_25 fl_M_421 rfl (sf_42 hF) rfl ?_
  obtain ⟨g1, h⟩ := h
  obtain ⟨g2, h⟩ := h
  refine s_icmp_ge d_M_isWord_28 rfl g1 g2 (fun c => ?_) (fun c => ?_)
  · have h := h.1 c
    exact h
  · have h := h.2 c
    refine s_aload_n 0 d_M_isWord_31 rfl rfl ?_
    refine s_getF (v := 77) d_M_isWord_32 fl_M_118 rfl (sf_42 hF) (ff_62 hF) ?_
    refine s_iload_n 1 d_M_isWord_35 rfl rfl ?_
    refine s_iload_n 2 d_M_isWord_36 rfl rfl ?_
    refine s_iadd d_M_isWord_37 ?_
    obtain ⟨g3, h⟩ := h
    refine s_baloadv (v := σ.1 77 (x2 + x3)) (by decide) d_M_isWord_38 ⟨_, sf_77 hF, g3.1, g3.2, by have := g3.2; omega⟩ rfl ?_
    refine s_aload_n 0 d_M_isWord_39 rfl rfl ?_
    refine s_getF (v := 76) d_M_isWord_40 fl_M_115 rfl (sf_42 hF) (ff_61 hF) ?_
    refine s_aload_n 0 d_M_isWord_43 rfl rfl ?_
    refine s_getF (v := σ.1 42 51) d_M_isWord_44 fl_M_430 rfl (sf_42 hF) rfl ?_
    refine s_iload_n 2 d_M_isWord_47 rfl rfl ?_
    refine s_iadd d_M_isWord_48 ?_
    obtain ⟨g4, h⟩ := h
    refine s_ialoadv (v := σ.1 76 ((σ.1 42 51) + x3)) d_M_isWord_49 ⟨_, sf_76 hF, g4.1, g4.2, by have := g4.2; omega⟩ rfl ?_
    obtain ⟨g5, h⟩ := h
    obtain ⟨g6, h⟩ := h
    refine s_icmp_ne d_M_isWord_50 rfl g5 g6 (fun c => ?_) (fun c => ?_)
    · have h := h.1 c
      exact h
    · have h := h.2 c
      refine s_iinc 2 d_M_isWord_53 rfl (by decide) rfl ?_
      refine s_goto d_M_isWord_56 rfl ?_
      refine wp_drop [1, 2, 0] rfl ?_
      exact h
theorem b_M_isWord_59 {E : EV} {d : Nat} {Q : Option AV → St → Prop} {σ : St} (x2 x3 : Int) (hF : Fix σ) (h : (rI ((σ.1 42 51) + x3)) ∧ (rI (σ.1 42 49)) ∧ ((¬ ((σ.1 42 51) + x3) = (σ.1 42 49) → Q (some (aI 0)) σ) ∧ (((σ.1 42 51) + x3) = (σ.1 42 49) → (0 ≤ (x2 + x3) ∧ (x2 + x3) < 29) ∧ (rI (σ.1 77 (x2 + x3))) ∧ ((¬ (σ.1 77 (x2 + x3)) = 0 → Q (some (aI 0)) σ) ∧ ((σ.1 77 (x2 + x3)) = 0 → Q (some (aI 1)) σ))))) : WP E m_M_isWord (d + 1) 59 [(0, aP 42), (2, aI x2), (3, aI x3)] [] σ Q := by
  refine s_aload_n 0 d_M_isWord_59 rfl rfl ?_
  refine s_getF (v := σ.1 42 51) d_M_isWord_60 fl_M_430 rfl (sf_42 hF) rfl ?_
  refine s_iload_n 2 d_M_isWord_63 rfl rfl ?_
  refine s_iadd d_M_isWord_64 ?_
  refine s_aload_n 0 d_M_isWord_65 rfl rfl ?_
  refine s_getF (v := σ.1 42 49) d_M_isWord_66 fl_M_421 rfl (sf_42 hF) rfl ?_
  obtain ⟨g1, h⟩ := h
  obtain ⟨g2, h⟩ := h
  refine s_icmp_ne d_M_isWord_69 rfl g1 g2 (fun c => ?_) (fun c => ?_)
  · have h := h.1 c
    refine s_iconst d_M_isWord_87 ?_
    exact s_zreturn d_M_isWord_88 rfl (by decide) h
  · have h := h.2 c
    refine s_aload_n 0 d_M_isWord_72 rfl rfl ?_
    refine s_getF (v := 77) d_M_isWord_73 fl_M_118 rfl (sf_42 hF) (ff_62 hF) ?_
    refine s_iload_n 1 d_M_isWord_76 rfl rfl ?_
    refine s_iload_n 2 d_M_isWord_77 rfl rfl ?_
    refine s_iadd d_M_isWord_78 ?_
    obtain ⟨g3, h⟩ := h
    refine s_baloadv (v := σ.1 77 (x2 + x3)) (by decide) d_M_isWord_79 ⟨_, sf_77 hF, g3.1, g3.2, by have := g3.2; omega⟩ rfl ?_
    obtain ⟨g4, h⟩ := h
    refine s_if_ne d_M_isWord_80 rfl g4 (fun c => ?_) (fun c => ?_)
    · have h := h.1 c
      refine s_iconst d_M_isWord_87 ?_
      exact s_zreturn d_M_isWord_88 rfl (by decide) h
    · have h := h.2 c
      refine s_iconst d_M_isWord_83 ?_
      refine s_goto d_M_isWord_84 rfl ?_
      exact s_zreturn d_M_isWord_88 rfl (by decide) h
theorem d_M_needsNumber_0 : decode m_M_needsNumber.2.1 0 = .ok (.aload_n 0, 1) := by decide +kernel
theorem d_M_needsNumber_1 : decode m_M_needsNumber.2.1 1 = .ok (.getfield 436, 3) := by decide +kernel
theorem d_M_needsNumber_4 : decode m_M_needsNumber.2.1 4 = .ok (.ifCond .eq 5, 3) := by decide +kernel
theorem d_M_needsNumber_7 : decode m_M_needsNumber.2.1 7 = .ok (.iload_n 1, 1) := by decide +kernel
theorem d_M_needsNumber_8 : decode m_M_needsNumber.2.1 8 = .ok (.ireturn, 1) := by decide +kernel
theorem d_M_needsNumber_9 : decode m_M_needsNumber.2.1 9 = .ok (.aload_n 0, 1) := by decide +kernel
theorem d_M_needsNumber_10 : decode m_M_needsNumber.2.1 10 = .ok (.getfield 424, 3) := by decide +kernel
theorem d_M_needsNumber_13 : decode m_M_needsNumber.2.1 13 = .ok (.iconst 2, 1) := by decide +kernel
theorem d_M_needsNumber_14 : decode m_M_needsNumber.2.1 14 = .ok (.if_icmp .ne 15, 3) := by decide +kernel
theorem d_M_needsNumber_17 : decode m_M_needsNumber.2.1 17 = .ok (.aload_n 0, 1) := by decide +kernel
theorem d_M_needsNumber_18 : decode m_M_needsNumber.2.1 18 = .ok (.getfield 433, 3) := by decide +kernel
theorem d_M_needsNumber_21 : decode m_M_needsNumber.2.1 21 = .ok (.iload_n 1, 1) := by decide +kernel
theorem d_M_needsNumber_22 : decode m_M_needsNumber.2.1 22 = .ok (.iload_n 2, 1) := by decide +kernel
theorem d_M_needsNumber_23 : decode m_M_needsNumber.2.1 23 = .ok (.invokestatic 167, 3) := by decide +kernel
theorem d_M_needsNumber_26 : decode m_M_needsNumber.2.1 26 = .ok (.ifCond .ne 10, 3) := by decide +kernel
theorem d_M_needsNumber_29 : decode m_M_needsNumber.2.1 29 = .ok (.aload_n 0, 1) := by decide +kernel
theorem d_M_needsNumber_30 : decode m_M_needsNumber.2.1 30 = .ok (.iconst 1, 1) := by decide +kernel
theorem d_M_needsNumber_31 : decode m_M_needsNumber.2.1 31 = .ok (.putfield 436, 3) := by decide +kernel
theorem d_M_needsNumber_34 : decode m_M_needsNumber.2.1 34 = .ok (.iload_n 1, 1) := by decide +kernel
theorem d_M_needsNumber_35 : decode m_M_needsNumber.2.1 35 = .ok (.ireturn, 1) := by decide +kernel
theorem d_M_needsNumber_36 : decode m_M_needsNumber.2.1 36 = .ok (.aload_n 0, 1) := by decide +kernel
theorem d_M_needsNumber_37 : decode m_M_needsNumber.2.1 37 = .ok (.getfield 433, 3) := by decide +kernel
theorem d_M_needsNumber_40 : decode m_M_needsNumber.2.1 40 = .ok (.istore_n 3, 1) := by decide +kernel
theorem d_M_needsNumber_41 : decode m_M_needsNumber.2.1 41 = .ok (.aload_n 0, 1) := by decide +kernel
theorem d_M_needsNumber_42 : decode m_M_needsNumber.2.1 42 = .ok (.invokevirtual 440, 3) := by decide +kernel
theorem d_M_needsNumber_45 : decode m_M_needsNumber.2.1 45 = .ok (.iload_n 3, 1) := by decide +kernel
theorem d_M_needsNumber_46 : decode m_M_needsNumber.2.1 46 = .ok (.ireturn, 1) := by decide +kernel
theorem b_M_needsNumber_0 {E : EV} {d : Nat} {Q : Option AV → St → Prop} {σ : St} (x1 x2 : Int) (hF : Fix σ) (h : (rI (σ.1 42 53)) ∧ (((σ.1 42 53) = 0 → (rI (σ.1 42 50)) ∧ ((¬ (σ.1 42 50) = 2 → WP E m_M_needsNumber (d + 1) 29 [(0, aP 42), (1, aI x1)] [] σ Q) ∧ ((σ.1 42 50) = 2 → (WMi E m_M_in d [aI (σ.1 42 52), aI x1, aI x2] σ (fun v3 σ3 => Fix σ3 ∧ (rI v3) ∧ ((¬ v3 = 0 → (WMv E m_M_goesOn d [aP 42] σ3 (fun σ5 => Q (some (aI (σ3.1 42 52))) σ5))) ∧ (v3 = 0 → WP E m_M_needsNumber (d + 1) 29 [(0, aP 42), (1, aI x1)] [] σ3 Q))))))) ∧ (¬ (σ.1 42 53) = 0 → Q (some (aI x1)) σ))) : WP E m_M_needsNumber (d + 1) 0 [(0, aP 42), (1, aI x1), (2, aI x2)] [] σ Q := by
  refine s_aload_n 0 d_M_needsNumber_0 rfl rfl ?_
  refine s_getF (v := σ.1 42 53) d_M_needsNumber_1 fl_M_436 rfl (sf_42 hF) rfl ?_
  obtain ⟨g1, h⟩ := h
  refine s_if_eq d_M_needsNumber_4 rfl g1 (fun c => ?_) (fun c => ?_)
  · have h := h.1 c
    refine s_aload_n 0 d_M_needsNumber_9 rfl rfl ?_
    refine s_getF (v := σ.1 42 50) d_M_needsNumber_10 fl_M_424 rfl (sf_42 hF) rfl ?_
    refine s_iconst d_M_needsNumber_13 ?_
    obtain ⟨g2, h⟩ := h
    refine s_icmp_ne d_M_needsNumber_14 rfl g2 (by decide) (fun c => ?_) (fun c => ?_)
    · have h := h.1 c
      refine wp_drop [0, 1] rfl ?_
      exact h
    · have h := h.2 c
      refine s_aload_n 0 d_M_needsNumber_17 rfl rfl ?_
      refine s_getF (v := σ.1 42 52) d_M_needsNumber_18 fl_M_433 rfl (sf_42 hF) rfl ?_
      refine s_iload_n 1 d_M_needsNumber_21 rfl rfl ?_
      refine s_iload_n 2 d_M_needsNumber_22 rfl rfl ?_
      refine s_callS (as := [aI (σ.1 42 52), aI x1, aI x2]) d_M_needsNumber_23 ok_M_in lk_M_167 to_M_in rfl (Nat.le_of_ble_eq_true rfl) rfl (WM.mono h ?_)
      rintro _ σ3 ⟨v3, rfl, hp, h⟩
      obtain ⟨hF3, h⟩ := h
      show WP E m_M_needsNumber (d + 1) 26 [(0, aP 42), (1, aI x1), (2, aI x2)] [aI v3] σ3 Q
      obtain ⟨g4, h⟩ := h
      refine s_if_ne d_M_needsNumber_26 rfl g4 (fun c => ?_) (fun c => ?_)
      · have h := h.1 c
        refine s_aload_n 0 d_M_needsNumber_36 rfl rfl ?_
        refine s_getF (v := σ3.1 42 52) d_M_needsNumber_37 fl_M_433 rfl (sf_42 hF3) rfl ?_
        refine s_istore_n d_M_needsNumber_40 rfl (by decide) rfl ?_
        refine s_aload_n 1 d_M_needsNumber_41 rfl rfl ?_
        refine s_callV (as := []) (ci := 10) d_M_needsNumber_42 ok_M_goesOn lk_M_440 io_M_goesOn so_M_goesOn (by decide) rfl rfl rfl (Nat.le_of_ble_eq_true rfl) rfl (sf_42 hF3) (WM.mono h ?_)
        rintro _ σ5 ⟨rfl, hp, h⟩
        show WP E m_M_needsNumber (d + 1) 45 [(3, aI (σ3.1 42 52)), (0, aP 42), (1, aI x1), (2, aI x2)] [] σ5 Q
        refine s_iload_n 0 d_M_needsNumber_45 rfl rfl ?_
        exact s_ireturn d_M_needsNumber_46 rfl h
      · have h := h.2 c
        refine wp_drop [0, 1] rfl ?_
        exact h
  · have h := h.2 c
    refine s_iload_n 1 d_M_needsNumber_7 rfl rfl ?_
    exact s_ireturn d_M_needsNumber_8 rfl h
theorem e_M_needsNumber {E : EV} {d : Nat} {Q : Option AV → St → Prop} {σ : St} (x1 x2 : Int) (hF : Fix σ) (h : (rI (σ.1 42 53)) ∧ (((σ.1 42 53) = 0 → (rI (σ.1 42 50)) ∧ ((¬ (σ.1 42 50) = 2 → WP E m_M_needsNumber (d + 1) 29 [(0, aP 42), (1, aI x1)] [] σ Q) ∧ ((σ.1 42 50) = 2 → (WMi E m_M_in d [aI (σ.1 42 52), aI x1, aI x2] σ (fun v3 σ3 => Fix σ3 ∧ (rI v3) ∧ ((¬ v3 = 0 → (WMv E m_M_goesOn d [aP 42] σ3 (fun σ5 => Q (some (aI (σ3.1 42 52))) σ5))) ∧ (v3 = 0 → WP E m_M_needsNumber (d + 1) 29 [(0, aP 42), (1, aI x1)] [] σ3 Q))))))) ∧ (¬ (σ.1 42 53) = 0 → Q (some (aI x1)) σ))) : WM E m_M_needsNumber (d + 1) [aP 42, aI x1, aI x2] σ Q := s_meth (by decide) (Nat.le_of_ble_eq_true rfl) rfl (b_M_needsNumber_0 x1 x2 hF h)
theorem b_M_needsNumber_29 {E : EV} {d : Nat} {Q : Option AV → St → Prop} {σ : St} (x1 : Int) (hF : Fix σ) (h : Q (some (aI x1)) (wr σ 42 53 1)) : WP E m_M_needsNumber (d + 1) 29 [(0, aP 42), (1, aI x1)] [] σ Q := by
  refine s_aload_n 0 d_M_needsNumber_29 rfl rfl ?_
  refine s_iconst d_M_needsNumber_30 ?_
  refine s_putf 53 rfl d_M_needsNumber_31 fl_M_436 (fun C T h => by cases h; exact Or.inl rfl) rfl (Or.inr (Or.inr (Or.inl rfl))) (fun _ => by decide) (sf_42 hF) ?_
  refine s_iload_n 1 d_M_needsNumber_34 rfl rfl ?_
  exact s_ireturn d_M_needsNumber_35 rfl h
theorem d_M_needsMark_0 : decode m_M_needsMark.2.1 0 = .ok (.aload_n 0, 1) := by decide +kernel
theorem d_M_needsMark_1 : decode m_M_needsMark.2.1 1 = .ok (.getfield 436, 3) := by decide +kernel
theorem d_M_needsMark_4 : decode m_M_needsMark.2.1 4 = .ok (.ifCond .eq 4, 3) := by decide +kernel
theorem d_M_needsMark_7 : decode m_M_needsMark.2.1 7 = .ok (.return_, 1) := by decide +kernel
theorem d_M_needsMark_8 : decode m_M_needsMark.2.1 8 = .ok (.aload_n 0, 1) := by decide +kernel
theorem d_M_needsMark_9 : decode m_M_needsMark.2.1 9 = .ok (.iload_n 1, 1) := by decide +kernel
theorem d_M_needsMark_10 : decode m_M_needsMark.2.1 10 = .ok (.invokevirtual 443, 3) := by decide +kernel
theorem d_M_needsMark_13 : decode m_M_needsMark.2.1 13 = .ok (.ifCond .eq 10, 3) := by decide +kernel
theorem d_M_needsMark_16 : decode m_M_needsMark.2.1 16 = .ok (.aload_n 0, 1) := by decide +kernel
theorem d_M_needsMark_17 : decode m_M_needsMark.2.1 17 = .ok (.invokevirtual 440, 3) := by decide +kernel
theorem d_M_needsMark_20 : decode m_M_needsMark.2.1 20 = .ok (.goto 8, 3) := by decide +kernel
theorem d_M_needsMark_23 : decode m_M_needsMark.2.1 23 = .ok (.aload_n 0, 1) := by decide +kernel
theorem d_M_needsMark_24 : decode m_M_needsMark.2.1 24 = .ok (.iconst 1, 1) := by decide +kernel
theorem d_M_needsMark_25 : decode m_M_needsMark.2.1 25 = .ok (.putfield 436, 3) := by decide +kernel
theorem d_M_needsMark_28 : decode m_M_needsMark.2.1 28 = .ok (.return_, 1) := by decide +kernel
theorem b_M_needsMark_0 {E : EV} {d : Nat} {Q : Option AV → St → Prop} {σ : St} (x1 : Int) (hF : Fix σ) (h : (rI (σ.1 42 53)) ∧ (((σ.1 42 53) = 0 → (WMi E m_M_isMark d [aP 42, aI x1] σ (fun v2 σ2 => Fix σ2 ∧ (rI v2) ∧ ((v2 = 0 → Q none (wr σ2 42 53 1)) ∧ (¬ v2 = 0 → (WMv E m_M_goesOn d [aP 42] σ2 (fun σ4 => Q none σ4))))))) ∧ (¬ (σ.1 42 53) = 0 → Q none σ))) : WP E m_M_needsMark (d + 1) 0 [(0, aP 42), (1, aI x1)] [] σ Q := by
  refine s_aload_n 0 d_M_needsMark_0 rfl rfl ?_
  refine s_getF (v := σ.1 42 53) d_M_needsMark_1 fl_M_436 rfl (sf_42 hF) rfl ?_
  obtain ⟨g1, h⟩ := h
  refine s_if_eq d_M_needsMark_4 rfl g1 (fun c => ?_) (fun c => ?_)
  · have h := h.1 c
    refine s_aload_n 0 d_M_needsMark_8 rfl rfl ?_
    refine s_iload_n 1 d_M_needsMark_9 rfl rfl ?_
    refine s_callV (as := [aI x1]) (ci := 10) d_M_needsMark_10 ok_M_isMark lk_M_443 io_M_isMark so_M_isMark (by decide) rfl rfl rfl (Nat.le_of_ble_eq_true rfl) rfl (sf_42 hF) (WM.mono h ?_)
    rintro _ σ2 ⟨v2, rfl, hp, h⟩
    obtain ⟨hF2, h⟩ := h
    show WP E m_M_needsMark (d + 1) 13 [(0, aP 42), (1, aI x1)] [aI v2] σ2 Q
    obtain ⟨g3, h⟩ := h
    refine s_if_eq d_M_needsMark_13 rfl g3 (fun c => ?_) (fun c => ?_)
    · have h := h.1 c
      refine s_aload_n 0 d_M_needsMark_23 rfl rfl ?_
      refine s_iconst d_M_needsMark_24 ?_
      refine s_putf 53 rfl d_M_needsMark_25 fl_M_436 (fun C T h => by cases h; exact Or.inl rfl) rfl (Or.inr (Or.inr (Or.inl rfl))) (fun _ => by decide) (sf_42 hF2) ?_
      exact s_return d_M_needsMark_28 rfl h
    · have h := h.2 c
      refine s_aload_n 0 d_M_needsMark_16 rfl rfl ?_
      refine s_callV (as := []) (ci := 10) d_M_needsMark_17 ok_M_goesOn lk_M_440 io_M_goesOn so_M_goesOn (by decide) rfl rfl rfl (Nat.le_of_ble_eq_true rfl) rfl (sf_42 hF2) (WM.mono h ?_)
      rintro _ σ4 ⟨rfl, hp, h⟩
      show WP E m_M_needsMark (d + 1) 20 [(0, aP 42), (1, aI x1)] [] σ4 Q
      refine s_goto d_M_needsMark_20 rfl ?_
      exact s_return d_M_needsMark_28 rfl h
  · have h := h.2 c
    exact s_return d_M_needsMark_7 rfl h
theorem e_M_needsMark {E : EV} {d : Nat} {Q : Option AV → St → Prop} {σ : St} (x1 : Int) (hF : Fix σ) (h : (rI (σ.1 42 53)) ∧ (((σ.1 42 53) = 0 → (WMi E m_M_isMark d [aP 42, aI x1] σ (fun v2 σ2 => Fix σ2 ∧ (rI v2) ∧ ((v2 = 0 → Q none (wr σ2 42 53 1)) ∧ (¬ v2 = 0 → (WMv E m_M_goesOn d [aP 42] σ2 (fun σ4 => Q none σ4))))))) ∧ (¬ (σ.1 42 53) = 0 → Q none σ))) : WM E m_M_needsMark (d + 1) [aP 42, aI x1] σ Q := s_meth (by decide) (Nat.le_of_ble_eq_true rfl) rfl (b_M_needsMark_0 x1 hF h)
theorem d_M_isMark_0 : decode m_M_isMark.2.1 0 = .ok (.aload_n 0, 1) := by decide +kernel
theorem d_M_isMark_1 : decode m_M_isMark.2.1 1 = .ok (.getfield 424, 3) := by decide +kernel
theorem d_M_isMark_4 : decode m_M_isMark.2.1 4 = .ok (.iconst 3, 1) := by decide +kernel
theorem d_M_isMark_5 : decode m_M_isMark.2.1 5 = .ok (.if_icmp .ne 20, 3) := by decide +kernel
theorem d_M_isMark_8 : decode m_M_isMark.2.1 8 = .ok (.aload_n 0, 1) := by decide +kernel
theorem d_M_isMark_9 : decode m_M_isMark.2.1 9 = .ok (.getfield 115, 3) := by decide +kernel
theorem d_M_isMark_12 : decode m_M_isMark.2.1 12 = .ok (.aload_n 0, 1) := by decide +kernel
theorem d_M_isMark_13 : decode m_M_isMark.2.1 13 = .ok (.getfield 430, 3) := by decide +kernel
theorem d_M_isMark_16 : decode m_M_isMark.2.1 16 = .ok (.iaload, 1) := by decide +kernel
theorem d_M_isMark_17 : decode m_M_isMark.2.1 17 = .ok (.iload_n 1, 1) := by decide +kernel
theorem d_M_isMark_18 : decode m_M_isMark.2.1 18 = .ok (.if_icmp .ne 7, 3) := by decide +kernel
theorem d_M_isMark_21 : decode m_M_isMark.2.1 21 = .ok (.iconst 1, 1) := by decide +kernel
theorem d_M_isMark_22 : decode m_M_isMark.2.1 22 = .ok (.goto 4, 3) := by decide +kernel
theorem d_M_isMark_25 : decode m_M_isMark.2.1 25 = .ok (.iconst 0, 1) := by decide +kernel
theorem d_M_isMark_26 : decode m_M_isMark.2.1 26 = .ok (.ireturn, 1) := by decide +kernel
theorem b_M_isMark_0 {E : EV} {d : Nat} {Q : Option AV → St → Prop} {σ : St} (x1 : Int) (hF : Fix σ) (h : (rI (σ.1 42 50)) ∧ ((¬ (σ.1 42 50) = 3 → Q (some (aI 0)) σ) ∧ ((σ.1 42 50) = 3 → (0 ≤ (σ.1 42 51) ∧ (σ.1 42 51) < 400) ∧ (rI (σ.1 76 (σ.1 42 51))) ∧ (rI x1) ∧ ((¬ (σ.1 76 (σ.1 42 51)) = x1 → Q (some (aI 0)) σ) ∧ ((σ.1 76 (σ.1 42 51)) = x1 → Q (some (aI 1)) σ))))) : WP E m_M_isMark d 0 [(0, aP 42), (1, aI x1)] [] σ Q := by
  refine s_aload_n 0 d_M_isMark_0 rfl rfl ?_
  refine s_getF (v := σ.1 42 50) d_M_isMark_1 fl_M_424 rfl (sf_42 hF) rfl ?_
  refine s_iconst d_M_isMark_4 ?_
  obtain ⟨g1, h⟩ := h
  refine s_icmp_ne d_M_isMark_5 rfl g1 (by decide) (fun c => ?_) (fun c => ?_)
  · have h := h.1 c
    refine s_iconst d_M_isMark_25 ?_
    exact s_zreturn d_M_isMark_26 rfl (by decide) h
  · have h := h.2 c
    refine s_aload_n 0 d_M_isMark_8 rfl rfl ?_
    refine s_getF (v := 76) d_M_isMark_9 fl_M_115 rfl (sf_42 hF) (ff_61 hF) ?_
    refine s_aload_n 0 d_M_isMark_12 rfl rfl ?_
    refine s_getF (v := σ.1 42 51) d_M_isMark_13 fl_M_430 rfl (sf_42 hF) rfl ?_
    obtain ⟨g2, h⟩ := h
    refine s_ialoadv (v := σ.1 76 (σ.1 42 51)) d_M_isMark_16 ⟨_, sf_76 hF, g2.1, g2.2, by have := g2.2; omega⟩ rfl ?_
    refine s_iload_n 1 d_M_isMark_17 rfl rfl ?_
    obtain ⟨g3, h⟩ := h
    obtain ⟨g4, h⟩ := h
    refine s_icmp_ne d_M_isMark_18 rfl g3 g4 (fun c => ?_) (fun c => ?_)
    · have h := h.1 c
      refine s_iconst d_M_isMark_25 ?_
      exact s_zreturn d_M_isMark_26 rfl (by decide) h
    · have h := h.2 c
      refine s_iconst d_M_isMark_21 ?_
      refine s_goto d_M_isMark_22 rfl ?_
      exact s_zreturn d_M_isMark_26 rfl (by decide) h
theorem e_M_isMark {E : EV} {d : Nat} {Q : Option AV → St → Prop} {σ : St} (x1 : Int) (hF : Fix σ) (h : (rI (σ.1 42 50)) ∧ ((¬ (σ.1 42 50) = 3 → Q (some (aI 0)) σ) ∧ ((σ.1 42 50) = 3 → (0 ≤ (σ.1 42 51) ∧ (σ.1 42 51) < 400) ∧ (rI (σ.1 76 (σ.1 42 51))) ∧ (rI x1) ∧ ((¬ (σ.1 76 (σ.1 42 51)) = x1 → Q (some (aI 0)) σ) ∧ ((σ.1 76 (σ.1 42 51)) = x1 → Q (some (aI 1)) σ))))) : WM E m_M_isMark d [aP 42, aI x1] σ Q := s_meth (by decide) (Nat.le_of_ble_eq_true rfl) rfl (b_M_isMark_0 x1 hF h)
theorem d_M_readsSign_0 : decode m_M_readsSign.2.1 0 = .ok (.aload_n 0, 1) := by decide +kernel
theorem d_M_readsSign_1 : decode m_M_readsSign.2.1 1 = .ok (.invokevirtual 446, 3) := by decide +kernel
theorem d_M_readsSign_4 : decode m_M_readsSign.2.1 4 = .ok (.istore_n 1, 1) := by decide +kernel
theorem d_M_readsSign_5 : decode m_M_readsSign.2.1 5 = .ok (.iload_n 1, 1) := by decide +kernel
theorem d_M_readsSign_6 : decode m_M_readsSign.2.1 6 = .ok (.iconst (-1), 1) := by decide +kernel
theorem d_M_readsSign_7 : decode m_M_readsSign.2.1 7 = .ok (.if_icmp .eq 21, 3) := by decide +kernel
theorem d_M_readsSign_10 : decode m_M_readsSign.2.1 10 = .ok (.aload_n 0, 1) := by decide +kernel
theorem d_M_readsSign_11 : decode m_M_readsSign.2.1 11 = .ok (.getfield 122, 3) := by decide +kernel
theorem d_M_readsSign_14 : decode m_M_readsSign.2.1 14 = .ok (.iload_n 1, 1) := by decide +kernel
theorem d_M_readsSign_15 : decode m_M_readsSign.2.1 15 = .ok (.iaload, 1) := by decide +kernel
theorem d_M_readsSign_16 : decode m_M_readsSign.2.1 16 = .ok (.ifCond .gt 12, 3) := by decide +kernel
theorem d_M_readsSign_19 : decode m_M_readsSign.2.1 19 = .ok (.aload_n 0, 1) := by decide +kernel
theorem d_M_readsSign_20 : decode m_M_readsSign.2.1 20 = .ok (.getfield 449, 3) := by decide +kernel
theorem d_M_readsSign_23 : decode m_M_readsSign.2.1 23 = .ok (.bipush 12, 2) := by decide +kernel
theorem d_M_readsSign_25 : decode m_M_readsSign.2.1 25 = .ok (.if_icmp .ne 9, 3) := by decide +kernel
theorem d_M_readsSign_28 : decode m_M_readsSign.2.1 28 = .ok (.aload_n 0, 1) := by decide +kernel
theorem d_M_readsSign_29 : decode m_M_readsSign.2.1 29 = .ok (.iconst 1, 1) := by decide +kernel
theorem d_M_readsSign_30 : decode m_M_readsSign.2.1 30 = .ok (.putfield 436, 3) := by decide +kernel
theorem d_M_readsSign_33 : decode m_M_readsSign.2.1 33 = .ok (.return_, 1) := by decide +kernel
theorem d_M_readsSign_34 : decode m_M_readsSign.2.1 34 = .ok (.aload_n 0, 1) := by decide +kernel
theorem d_M_readsSign_35 : decode m_M_readsSign.2.1 35 = .ok (.invokevirtual 440, 3) := by decide +kernel
theorem d_M_readsSign_38 : decode m_M_readsSign.2.1 38 = .ok (.aload_n 0, 1) := by decide +kernel
theorem d_M_readsSign_39 : decode m_M_readsSign.2.1 39 = .ok (.iconst 1, 1) := by decide +kernel
theorem d_M_readsSign_40 : decode m_M_readsSign.2.1 40 = .ok (.bipush 12, 2) := by decide +kernel
theorem d_M_readsSign_42 : decode m_M_readsSign.2.1 42 = .ok (.invokevirtual 452, 3) := by decide +kernel
theorem d_M_readsSign_45 : decode m_M_readsSign.2.1 45 = .ok (.istore_n 2, 1) := by decide +kernel
theorem d_M_readsSign_46 : decode m_M_readsSign.2.1 46 = .ok (.aload_n 0, 1) := by decide +kernel
theorem d_M_readsSign_47 : decode m_M_readsSign.2.1 47 = .ok (.iconst 1, 1) := by decide +kernel
theorem d_M_readsSign_48 : decode m_M_readsSign.2.1 48 = .ok (.bipush 12, 2) := by decide +kernel
theorem d_M_readsSign_50 : decode m_M_readsSign.2.1 50 = .ok (.invokevirtual 452, 3) := by decide +kernel
theorem d_M_readsSign_53 : decode m_M_readsSign.2.1 53 = .ok (.istore_n 3, 1) := by decide +kernel
theorem d_M_readsSign_54 : decode m_M_readsSign.2.1 54 = .ok (.iconst 0, 1) := by decide +kernel
theorem d_M_readsSign_55 : decode m_M_readsSign.2.1 55 = .ok (.istore 4, 2) := by decide +kernel
theorem d_M_readsSign_57 : decode m_M_readsSign.2.1 57 = .ok (.iconst 0, 1) := by decide +kernel
theorem d_M_readsSign_58 : decode m_M_readsSign.2.1 58 = .ok (.istore 5, 2) := by decide +kernel
theorem d_M_readsSign_60 : decode m_M_readsSign.2.1 60 = .ok (.aload_n 0, 1) := by decide +kernel
theorem d_M_readsSign_61 : decode m_M_readsSign.2.1 61 = .ok (.getfield 436, 3) := by decide +kernel
theorem d_M_readsSign_64 : decode m_M_readsSign.2.1 64 = .ok (.ifCond .ne 31, 3) := by decide +kernel
theorem d_M_readsSign_67 : decode m_M_readsSign.2.1 67 = .ok (.aload_n 0, 1) := by decide +kernel
theorem d_M_readsSign_68 : decode m_M_readsSign.2.1 68 = .ok (.iconst 3, 1) := by decide +kernel
theorem d_M_readsSign_69 : decode m_M_readsSign.2.1 69 = .ok (.invokevirtual 455, 3) := by decide +kernel
theorem d_M_readsSign_72 : decode m_M_readsSign.2.1 72 = .ok (.ifCond .eq 23, 3) := by decide +kernel
theorem d_M_readsSign_75 : decode m_M_readsSign.2.1 75 = .ok (.aload_n 0, 1) := by decide +kernel
theorem d_M_readsSign_76 : decode m_M_readsSign.2.1 76 = .ok (.invokevirtual 440, 3) := by decide +kernel
theorem d_M_readsSign_79 : decode m_M_readsSign.2.1 79 = .ok (.aload_n 0, 1) := by decide +kernel
theorem d_M_readsSign_80 : decode m_M_readsSign.2.1 80 = .ok (.iconst 1, 1) := by decide +kernel
theorem d_M_readsSign_81 : decode m_M_readsSign.2.1 81 = .ok (.iload_n 2, 1) := by decide +kernel
theorem d_M_readsSign_82 : decode m_M_readsSign.2.1 82 = .ok (.invokevirtual 452, 3) := by decide +kernel
theorem d_M_readsSign_85 : decode m_M_readsSign.2.1 85 = .ok (.istore 4, 2) := by decide +kernel
theorem d_M_readsSign_87 : decode m_M_readsSign.2.1 87 = .ok (.aload_n 0, 1) := by decide +kernel
theorem d_M_readsSign_88 : decode m_M_readsSign.2.1 88 = .ok (.iconst 1, 1) := by decide +kernel
theorem d_M_readsSign_89 : decode m_M_readsSign.2.1 89 = .ok (.iload_n 3, 1) := by decide +kernel
theorem d_M_readsSign_90 : decode m_M_readsSign.2.1 90 = .ok (.invokevirtual 452, 3) := by decide +kernel
theorem d_M_readsSign_93 : decode m_M_readsSign.2.1 93 = .ok (.istore 5, 2) := by decide +kernel
theorem d_M_readsSign_95 : decode m_M_readsSign.2.1 95 = .ok (.aload_n 0, 1) := by decide +kernel
theorem d_M_readsSign_96 : decode m_M_readsSign.2.1 96 = .ok (.bipush 59, 2) := by decide +kernel
theorem d_M_readsSign_98 : decode m_M_readsSign.2.1 98 = .ok (.invokevirtual 458, 3) := by decide +kernel
theorem d_M_readsSign_101 : decode m_M_readsSign.2.1 101 = .ok (.aload_n 0, 1) := by decide +kernel
theorem d_M_readsSign_102 : decode m_M_readsSign.2.1 102 = .ok (.getfield 122, 3) := by decide +kernel
theorem d_M_readsSign_105 : decode m_M_readsSign.2.1 105 = .ok (.iload_n 1, 1) := by decide +kernel
theorem d_M_readsSign_106 : decode m_M_readsSign.2.1 106 = .ok (.iload_n 2, 1) := by decide +kernel
theorem d_M_readsSign_107 : decode m_M_readsSign.2.1 107 = .ok (.iastore, 1) := by decide +kernel
theorem d_M_readsSign_108 : decode m_M_readsSign.2.1 108 = .ok (.aload_n 0, 1) := by decide +kernel
theorem d_M_readsSign_109 : decode m_M_readsSign.2.1 109 = .ok (.getfield 125, 3) := by decide +kernel
theorem d_M_readsSign_112 : decode m_M_readsSign.2.1 112 = .ok (.iload_n 1, 1) := by decide +kernel
theorem d_M_readsSign_113 : decode m_M_readsSign.2.1 113 = .ok (.iload_n 3, 1) := by decide +kernel
theorem d_M_readsSign_114 : decode m_M_readsSign.2.1 114 = .ok (.iastore, 1) := by decide +kernel
theorem d_M_readsSign_115 : decode m_M_readsSign.2.1 115 = .ok (.aload_n 0, 1) := by decide +kernel
theorem d_M_readsSign_116 : decode m_M_readsSign.2.1 116 = .ok (.getfield 128, 3) := by decide +kernel
theorem d_M_readsSign_119 : decode m_M_readsSign.2.1 119 = .ok (.iload_n 1, 1) := by decide +kernel
theorem d_M_readsSign_120 : decode m_M_readsSign.2.1 120 = .ok (.iload 4, 2) := by decide +kernel
theorem d_M_readsSign_122 : decode m_M_readsSign.2.1 122 = .ok (.iastore, 1) := by decide +kernel
theorem d_M_readsSign_123 : decode m_M_readsSign.2.1 123 = .ok (.aload_n 0, 1) := by decide +kernel
theorem d_M_readsSign_124 : decode m_M_readsSign.2.1 124 = .ok (.getfield 131, 3) := by decide +kernel
theorem d_M_readsSign_127 : decode m_M_readsSign.2.1 127 = .ok (.iload_n 1, 1) := by decide +kernel
theorem d_M_readsSign_128 : decode m_M_readsSign.2.1 128 = .ok (.iload 5, 2) := by decide +kernel
theorem d_M_readsSign_130 : decode m_M_readsSign.2.1 130 = .ok (.iastore, 1) := by decide +kernel
theorem d_M_readsSign_131 : decode m_M_readsSign.2.1 131 = .ok (.aload_n 0, 1) := by decide +kernel
theorem d_M_readsSign_132 : decode m_M_readsSign.2.1 132 = .ok (.dup, 1) := by decide +kernel
theorem d_M_readsSign_133 : decode m_M_readsSign.2.1 133 = .ok (.getfield 449, 3) := by decide +kernel
theorem d_M_readsSign_136 : decode m_M_readsSign.2.1 136 = .ok (.iconst 1, 1) := by decide +kernel
theorem d_M_readsSign_137 : decode m_M_readsSign.2.1 137 = .ok (.iadd, 1) := by decide +kernel
theorem d_M_readsSign_138 : decode m_M_readsSign.2.1 138 = .ok (.putfield 449, 3) := by decide +kernel
theorem d_M_readsSign_141 : decode m_M_readsSign.2.1 141 = .ok (.return_, 1) := by decide +kernel
theorem b_M_readsSign_0 {E : EV} {d : Nat} {Q : Option AV → St → Prop} {σ : St} (hF : Fix σ) (h : (WMi E m_M_letterHere d [aP 42] σ (fun v1 σ1 => Fix σ1 ∧ (rI v1) ∧ ((v1 = (-1) → WP E m_M_readsSign (d + 1) 28 [(0, aP 42)] [] σ1 Q) ∧ (¬ v1 = (-1) → (0 ≤ v1 ∧ v1 < 26) ∧ (rI (σ1.1 78 v1)) ∧ ((0 < (σ1.1 78 v1) → WP E m_M_readsSign (d + 1) 28 [(0, aP 42)] [] σ1 Q) ∧ (¬ 0 < (σ1.1 78 v1) → (rI (σ1.1 42 58)) ∧ ((¬ (σ1.1 42 58) = 12 → (WMv E m_M_goesOn d [aP 42] σ1 (fun σ6 => Fix σ6 ∧ (WMi E m_M_needsNumber d [aP 42, aI 1, aI 12] σ6 (fun v7 σ7 => Fix σ7 ∧ (WMi E m_M_needsNumber d [aP 42, aI 1, aI 12] σ7 (fun v8 σ8 => Fix σ8 ∧ (rI (σ8.1 42 53)) ∧ ((¬ (σ8.1 42 53) = 0 → WP E m_M_readsSign (d + 1) 95 [(0, aP 42), (1, aI v1), (2, aI v7), (3, aI v8), (4, aI 0), (5, aI 0)] [] σ8 Q) ∧ ((σ8.1 42 53) = 0 → (WMi E m_M_isWord d [aP 42, aI 3] σ8 (fun v10 σ10 => Fix σ10 ∧ (rI v10) ∧ ((v10 = 0 → WP E m_M_readsSign (d + 1) 95 [(0, aP 42), (1, aI v1), (2, aI v7), (3, aI v8), (4, aI 0), (5, aI 0)] [] σ10 Q) ∧ (¬ v10 = 0 → (WMv E m_M_goesOn d [aP 42] σ10 (fun σ12 => Fix σ12 ∧ (WMi E m_M_needsNumber d [aP 42, aI 1, aI v7] σ12 (fun v13 σ13 => Fix σ13 ∧ (WMi E m_M_needsNumber d [aP 42, aI 1, aI v8] σ13 (fun v14 σ14 => WP E m_M_readsSign (d + 1) 95 [(0, aP 42), (1, aI v1), (2, aI v7), (3, aI v8), (4, aI v13), (5, aI v14)] [] σ14 Q))))))))))))))))))) ∧ ((σ1.1 42 58) = 12 → WP E m_M_readsSign (d + 1) 28 [(0, aP 42)] [] σ1 Q))))))))) : WP E m_M_readsSign (d + 1) 0 [(0, aP 42)] [] σ Q := by
  refine s_aload_n 0 d_M_readsSign_0 rfl rfl ?_
  refine s_callV (as := []) (ci := 10) d_M_readsSign_1 ok_M_letterHere lk_M_446 io_M_letterHere so_M_letterHere (by decide) rfl rfl rfl (Nat.le_of_ble_eq_true rfl) rfl (sf_42 hF) (WM.mono h ?_)
  rintro _ σ1 ⟨v1, rfl, hp, h⟩
  obtain ⟨hF1, h⟩ := h
  show WP E m_M_readsSign (d + 1) 4 [(0, aP 42)] [aI v1] σ1 Q
  refine s_istore_n d_M_readsSign_4 rfl (by decide) rfl ?_
  refine s_iload_n 0 d_M_readsSign_5 rfl rfl ?_
  refine s_iconst d_M_readsSign_6 ?_
  obtain ⟨g2, h⟩ := h
  refine s_icmp_eq d_M_readsSign_7 rfl g2 (by decide) (fun c => ?_) (fun c => ?_)
  · have h := h.1 c
    refine wp_drop [1] rfl ?_
    exact h
  · have h := h.2 c
    refine s_aload_n 1 d_M_readsSign_10 rfl rfl ?_
    refine s_getF (v := 78) d_M_readsSign_11 fl_M_122 rfl (sf_42 hF1) (ff_63 hF1) ?_
    refine s_iload_n 0 d_M_readsSign_14 rfl rfl ?_
    obtain ⟨g3, h⟩ := h
    refine s_ialoadv (v := σ1.1 78 v1) d_M_readsSign_15 ⟨_, sf_78 hF1, g3.1, g3.2, by have := g3.2; omega⟩ rfl ?_
    obtain ⟨g4, h⟩ := h
    refine s_if_gt d_M_readsSign_16 rfl g4 (fun c => ?_) (fun c => ?_)
    · have h := h.1 c
      refine wp_drop [1] rfl ?_
      exact h
    · have h := h.2 c
      refine s_aload_n 1 d_M_readsSign_19 rfl rfl ?_
      refine s_getF (v := σ1.1 42 58) d_M_readsSign_20 fl_M_449 rfl (sf_42 hF1) rfl ?_
      refine s_bipush d_M_readsSign_23 (by decide) ?_
      obtain ⟨g5, h⟩ := h
      refine s_icmp_ne d_M_readsSign_25 rfl g5 (by decide) (fun c => ?_) (fun c => ?_)
      · have h := h.1 c
        refine s_aload_n 1 d_M_readsSign_34 rfl rfl ?_
        refine s_callV (as := []) (ci := 10) d_M_readsSign_35 ok_M_goesOn lk_M_440 io_M_goesOn so_M_goesOn (by decide) rfl rfl rfl (Nat.le_of_ble_eq_true rfl) rfl (sf_42 hF1) (WM.mono h ?_)
        rintro _ σ6 ⟨rfl, hp, h⟩
        obtain ⟨hF6, h⟩ := h
        show WP E m_M_readsSign (d + 1) 38 [(1, aI v1), (0, aP 42)] [] σ6 Q
        refine s_aload_n 1 d_M_readsSign_38 rfl rfl ?_
        refine s_iconst d_M_readsSign_39 ?_
        refine s_bipush d_M_readsSign_40 (by decide) ?_
        refine s_callV (as := [aI 1, aI 12]) (ci := 10) d_M_readsSign_42 ok_M_needsNumber lk_M_452 io_M_needsNumber so_M_needsNumber (by decide) rfl rfl rfl (Nat.le_of_ble_eq_true rfl) rfl (sf_42 hF6) (WM.mono h ?_)
        rintro _ σ7 ⟨v7, rfl, hp, h⟩
        obtain ⟨hF7, h⟩ := h
        show WP E m_M_readsSign (d + 1) 45 [(1, aI v1), (0, aP 42)] [aI v7] σ7 Q
        refine s_istore_n d_M_readsSign_45 rfl (by decide) rfl ?_
        refine s_aload_n 2 d_M_readsSign_46 rfl rfl ?_
        refine s_iconst d_M_readsSign_47 ?_
        refine s_bipush d_M_readsSign_48 (by decide) ?_
        refine s_callV (as := [aI 1, aI 12]) (ci := 10) d_M_readsSign_50 ok_M_needsNumber lk_M_452 io_M_needsNumber so_M_needsNumber (by decide) rfl rfl rfl (Nat.le_of_ble_eq_true rfl) rfl (sf_42 hF7) (WM.mono h ?_)
        rintro _ σ8 ⟨v8, rfl, hp, h⟩
        obtain ⟨hF8, h⟩ := h
        show WP E m_M_readsSign (d + 1) 53 [(2, aI v7), (1, aI v1), (0, aP 42)] [aI v8] σ8 Q
        refine s_istore_n d_M_readsSign_53 rfl (by decide) rfl ?_
        refine s_iconst d_M_readsSign_54 ?_
        refine s_istore d_M_readsSign_55 (by decide) rfl ?_
        refine s_iconst d_M_readsSign_57 ?_
        refine s_istore d_M_readsSign_58 (by decide) rfl ?_
        refine s_aload_n 5 d_M_readsSign_60 rfl rfl ?_
        refine s_getF (v := σ8.1 42 53) d_M_readsSign_61 fl_M_436 rfl (sf_42 hF8) rfl ?_
        obtain ⟨g9, h⟩ := h
        refine s_if_ne d_M_readsSign_64 rfl g9 (fun c => ?_) (fun c => ?_)
        · have h := h.1 c
          refine wp_drop [5, 4, 3, 2, 1, 0] rfl ?_
          exact h
        · have h := h.2 c
          refine s_aload_n 5 d_M_readsSign_67 rfl rfl ?_
          refine s_iconst d_M_readsSign_68 ?_
          refine s_callV (as := [aI 3]) (ci := 10) d_M_readsSign_69 ok_M_isWord lk_M_455 io_M_isWord so_M_isWord (by decide) rfl rfl rfl (Nat.le_of_ble_eq_true rfl) rfl (sf_42 hF8) (WM.mono h ?_)
          rintro _ σ10 ⟨v10, rfl, hp, h⟩
          obtain ⟨hF10, h⟩ := h
          show WP E m_M_readsSign (d + 1) 72 [(5, aI 0), (4, aI 0), (3, aI v8), (2, aI v7), (1, aI v1), (0, aP 42)] [aI v10] σ10 Q
          obtain ⟨g11, h⟩ := h
          refine s_if_eq d_M_readsSign_72 rfl g11 (fun c => ?_) (fun c => ?_)
          · have h := h.1 c
            refine wp_drop [5, 4, 3, 2, 1, 0] rfl ?_
            exact h
          · have h := h.2 c
            refine s_aload_n 5 d_M_readsSign_75 rfl rfl ?_
            refine s_callV (as := []) (ci := 10) d_M_readsSign_76 ok_M_goesOn lk_M_440 io_M_goesOn so_M_goesOn (by decide) rfl rfl rfl (Nat.le_of_ble_eq_true rfl) rfl (sf_42 hF10) (WM.mono h ?_)
            rintro _ σ12 ⟨rfl, hp, h⟩
            obtain ⟨hF12, h⟩ := h
            show WP E m_M_readsSign (d + 1) 79 [(5, aI 0), (4, aI 0), (3, aI v8), (2, aI v7), (1, aI v1), (0, aP 42)] [] σ12 Q
            refine s_aload_n 5 d_M_readsSign_79 rfl rfl ?_
            refine s_iconst d_M_readsSign_80 ?_
            refine s_iload_n 3 d_M_readsSign_81 rfl rfl ?_
            refine s_callV (as := [aI 1, aI v7]) (ci := 10) d_M_readsSign_82 ok_M_needsNumber lk_M_452 io_M_needsNumber so_M_needsNumber (by decide) rfl rfl rfl (Nat.le_of_ble_eq_true rfl) rfl (sf_42 hF12) (WM.mono h ?_)
            rintro _ σ13 ⟨v13, rfl, hp, h⟩
            obtain ⟨hF13, h⟩ := h
            show WP E m_M_readsSign (d + 1) 85 [(5, aI 0), (4, aI 0), (3, aI v8), (2, aI v7), (1, aI v1), (0, aP 42)] [aI v13] σ13 Q
            refine s_istore d_M_readsSign_85 (by decide) rfl ?_
            refine s_aload_n 5 d_M_readsSign_87 rfl rfl ?_
            refine s_iconst d_M_readsSign_88 ?_
            refine s_iload_n 2 d_M_readsSign_89 rfl rfl ?_
            refine s_callV (as := [aI 1, aI v8]) (ci := 10) d_M_readsSign_90 ok_M_needsNumber lk_M_452 io_M_needsNumber so_M_needsNumber (by decide) rfl rfl rfl (Nat.le_of_ble_eq_true rfl) rfl (sf_42 hF13) (WM.mono h ?_)
            rintro _ σ14 ⟨v14, rfl, hp, h⟩
            show WP E m_M_readsSign (d + 1) 93 [(4, aI v13), (5, aI 0), (3, aI v8), (2, aI v7), (1, aI v1), (0, aP 42)] [aI v14] σ14 Q
            refine s_istore d_M_readsSign_93 (by decide) rfl ?_
            refine wp_drop [5, 4, 3, 2, 1, 0] rfl ?_
            exact h
      · have h := h.2 c
        refine wp_drop [1] rfl ?_
        exact h
theorem e_M_readsSign {E : EV} {d : Nat} {Q : Option AV → St → Prop} {σ : St} (hF : Fix σ) (h : (WMi E m_M_letterHere d [aP 42] σ (fun v1 σ1 => Fix σ1 ∧ (rI v1) ∧ ((v1 = (-1) → WP E m_M_readsSign (d + 1) 28 [(0, aP 42)] [] σ1 Q) ∧ (¬ v1 = (-1) → (0 ≤ v1 ∧ v1 < 26) ∧ (rI (σ1.1 78 v1)) ∧ ((0 < (σ1.1 78 v1) → WP E m_M_readsSign (d + 1) 28 [(0, aP 42)] [] σ1 Q) ∧ (¬ 0 < (σ1.1 78 v1) → (rI (σ1.1 42 58)) ∧ ((¬ (σ1.1 42 58) = 12 → (WMv E m_M_goesOn d [aP 42] σ1 (fun σ6 => Fix σ6 ∧ (WMi E m_M_needsNumber d [aP 42, aI 1, aI 12] σ6 (fun v7 σ7 => Fix σ7 ∧ (WMi E m_M_needsNumber d [aP 42, aI 1, aI 12] σ7 (fun v8 σ8 => Fix σ8 ∧ (rI (σ8.1 42 53)) ∧ ((¬ (σ8.1 42 53) = 0 → WP E m_M_readsSign (d + 1) 95 [(0, aP 42), (1, aI v1), (2, aI v7), (3, aI v8), (4, aI 0), (5, aI 0)] [] σ8 Q) ∧ ((σ8.1 42 53) = 0 → (WMi E m_M_isWord d [aP 42, aI 3] σ8 (fun v10 σ10 => Fix σ10 ∧ (rI v10) ∧ ((v10 = 0 → WP E m_M_readsSign (d + 1) 95 [(0, aP 42), (1, aI v1), (2, aI v7), (3, aI v8), (4, aI 0), (5, aI 0)] [] σ10 Q) ∧ (¬ v10 = 0 → (WMv E m_M_goesOn d [aP 42] σ10 (fun σ12 => Fix σ12 ∧ (WMi E m_M_needsNumber d [aP 42, aI 1, aI v7] σ12 (fun v13 σ13 => Fix σ13 ∧ (WMi E m_M_needsNumber d [aP 42, aI 1, aI v8] σ13 (fun v14 σ14 => WP E m_M_readsSign (d + 1) 95 [(0, aP 42), (1, aI v1), (2, aI v7), (3, aI v8), (4, aI v13), (5, aI v14)] [] σ14 Q))))))))))))))))))) ∧ ((σ1.1 42 58) = 12 → WP E m_M_readsSign (d + 1) 28 [(0, aP 42)] [] σ1 Q))))))))) : WM E m_M_readsSign (d + 1) [aP 42] σ Q := s_meth (by decide) (Nat.le_of_ble_eq_true rfl) rfl (b_M_readsSign_0 hF h)
theorem b_M_readsSign_28 {E : EV} {d : Nat} {Q : Option AV → St → Prop} {σ : St} (hF : Fix σ) (h : Q none (wr σ 42 53 1)) : WP E m_M_readsSign (d + 1) 28 [(0, aP 42)] [] σ Q := by
  refine s_aload_n 0 d_M_readsSign_28 rfl rfl ?_
  refine s_iconst d_M_readsSign_29 ?_
  refine s_putf 53 rfl d_M_readsSign_30 fl_M_436 (fun C T h => by cases h; exact Or.inl rfl) rfl (Or.inr (Or.inr (Or.inl rfl))) (fun _ => by decide) (sf_42 hF) ?_
  exact s_return d_M_readsSign_33 rfl h
theorem b_M_readsSign_95 {E : EV} {d : Nat} {Q : Option AV → St → Prop} {σ : St} (x1 x2 x3 x4 x5 : Int) (hF : Fix σ) (h : (WMv E m_M_needsMark d [aP 42, aI 59] σ (fun σ1 => Fix σ1 ∧ (0 ≤ x1 ∧ x1 < 26) ∧ (0 ≤ x1 ∧ x1 < 26) ∧ (0 ≤ x1 ∧ x1 < 26) ∧ (0 ≤ x1 ∧ x1 < 26) ∧ Q none (wr (wr (wr (wr (wr σ1 78 x1 x2) 79 x1 x3) 80 x1 x4) 81 x1 x5) 42 58 ((σ1.1 42 58) + 1))))) : WP E m_M_readsSign (d + 1) 95 [(0, aP 42), (1, aI x1), (2, aI x2), (3, aI x3), (4, aI x4), (5, aI x5)] [] σ Q := by
  refine s_aload_n 0 d_M_readsSign_95 rfl rfl ?_
  refine s_bipush d_M_readsSign_96 (by decide) ?_
  refine s_callV (as := [aI 59]) (ci := 10) d_M_readsSign_98 ok_M_needsMark lk_M_458 io_M_needsMark so_M_needsMark (by decide) rfl rfl rfl (Nat.le_of_ble_eq_true rfl) rfl (sf_42 hF) (WM.mono h ?_)
  rintro _ σ1 ⟨rfl, hp, h⟩
  obtain ⟨hF1, h⟩ := h
  show WP E m_M_readsSign (d + 1) 101 [(0, aP 42), (1, aI x1), (2, aI x2), (3, aI x3), (4, aI x4), (5, aI x5)] [] σ1 Q
  refine s_aload_n 0 d_M_readsSign_101 rfl rfl ?_
  refine s_getF (v := 78) d_M_readsSign_102 fl_M_122 rfl (sf_42 hF1) (ff_63 hF1) ?_
  refine s_iload_n 1 d_M_readsSign_105 rfl rfl ?_
  refine s_iload_n 2 d_M_readsSign_106 rfl rfl ?_
  obtain ⟨g2, h⟩ := h
  refine s_iastore d_M_readsSign_107 ⟨_, sf_78 hF1, g2.1, g2.2, by have := g2.2; omega⟩ ?_
  refine s_aload_n 0 d_M_readsSign_108 rfl rfl ?_
  refine s_getF (v := 79) d_M_readsSign_109 fl_M_125 rfl (sf_42 (hF1.wa (a := 78) (by decide))) (ff_64 (hF1.wa (a := 78) (by decide))) ?_
  refine s_iload_n 1 d_M_readsSign_112 rfl rfl ?_
  refine s_iload_n 3 d_M_readsSign_113 rfl rfl ?_
  obtain ⟨g3, h⟩ := h
  refine s_iastore d_M_readsSign_114 ⟨_, sf_79 (hF1.wa (a := 78) (by decide)), g3.1, g3.2, by have := g3.2; omega⟩ ?_
  refine s_aload_n 0 d_M_readsSign_115 rfl rfl ?_
  refine s_getF (v := 80) d_M_readsSign_116 fl_M_128 rfl (sf_42 ((hF1.wa (a := 78) (by decide)).wa (a := 79) (by decide))) (ff_65 ((hF1.wa (a := 78) (by decide)).wa (a := 79) (by decide))) ?_
  refine s_iload_n 1 d_M_readsSign_119 rfl rfl ?_
  refine s_iload 4 d_M_readsSign_120 rfl ?_
  obtain ⟨g4, h⟩ := h
  refine s_iastore d_M_readsSign_122 ⟨_, sf_80 ((hF1.wa (a := 78) (by decide)).wa (a := 79) (by decide)), g4.1, g4.2, by have := g4.2; omega⟩ ?_
  refine s_aload_n 0 d_M_readsSign_123 rfl rfl ?_
  refine s_getF (v := 81) d_M_readsSign_124 fl_M_131 rfl (sf_42 (((hF1.wa (a := 78) (by decide)).wa (a := 79) (by decide)).wa (a := 80) (by decide))) (ff_66 (((hF1.wa (a := 78) (by decide)).wa (a := 79) (by decide)).wa (a := 80) (by decide))) ?_
  refine s_iload_n 1 d_M_readsSign_127 rfl rfl ?_
  refine s_iload 5 d_M_readsSign_128 rfl ?_
  obtain ⟨g5, h⟩ := h
  refine s_iastore d_M_readsSign_130 ⟨_, sf_81 (((hF1.wa (a := 78) (by decide)).wa (a := 79) (by decide)).wa (a := 80) (by decide)), g5.1, g5.2, by have := g5.2; omega⟩ ?_
  refine s_aload_n 0 d_M_readsSign_131 rfl rfl ?_
  refine s_dup d_M_readsSign_132 (Nat.ne_of_beq_eq_false rfl) ?_
  refine s_getF (v := σ1.1 42 58) d_M_readsSign_133 fl_M_449 rfl (sf_42 ((((hF1.wa (a := 78) (by decide)).wa (a := 79) (by decide)).wa (a := 80) (by decide)).wa (a := 81) (by decide))) rfl ?_
  refine s_iconst d_M_readsSign_136 ?_
  refine s_iadd d_M_readsSign_137 ?_
  refine s_putf 58 rfl d_M_readsSign_138 fl_M_449 (fun C T h => by cases h; exact Or.inl rfl) rfl (Or.inl rfl) (fun h => nomatch h) (sf_42 ((((hF1.wa (a := 78) (by decide)).wa (a := 79) (by decide)).wa (a := 80) (by decide)).wa (a := 81) (by decide))) ?_
  exact s_return d_M_readsSign_141 rfl h
theorem d_M_letterHere_0 : decode m_M_letterHere.2.1 0 = .ok (.aload_n 0, 1) := by decide +kernel
theorem d_M_letterHere_1 : decode m_M_letterHere.2.1 1 = .ok (.getfield 424, 3) := by decide +kernel
theorem d_M_letterHere_4 : decode m_M_letterHere.2.1 4 = .ok (.iconst 1, 1) := by decide +kernel
theorem d_M_letterHere_5 : decode m_M_letterHere.2.1 5 = .ok (.if_icmp .ne 31, 3) := by decide +kernel
theorem d_M_letterHere_8 : decode m_M_letterHere.2.1 8 = .ok (.aload_n 0, 1) := by decide +kernel
theorem d_M_letterHere_9 : decode m_M_letterHere.2.1 9 = .ok (.getfield 421, 3) := by decide +kernel
theorem d_M_letterHere_12 : decode m_M_letterHere.2.1 12 = .ok (.aload_n 0, 1) := by decide +kernel
theorem d_M_letterHere_13 : decode m_M_letterHere.2.1 13 = .ok (.getfield 430, 3) := by decide +kernel
theorem d_M_letterHere_16 : decode m_M_letterHere.2.1 16 = .ok (.iconst 1, 1) := by decide +kernel
theorem d_M_letterHere_17 : decode m_M_letterHere.2.1 17 = .ok (.iadd, 1) := by decide +kernel
theorem d_M_letterHere_18 : decode m_M_letterHere.2.1 18 = .ok (.if_icmp .ne 18, 3) := by decide +kernel
theorem d_M_letterHere_21 : decode m_M_letterHere.2.1 21 = .ok (.aload_n 0, 1) := by decide +kernel
theorem d_M_letterHere_22 : decode m_M_letterHere.2.1 22 = .ok (.getfield 115, 3) := by decide +kernel
theorem d_M_letterHere_25 : decode m_M_letterHere.2.1 25 = .ok (.aload_n 0, 1) := by decide +kernel
theorem d_M_letterHere_26 : decode m_M_letterHere.2.1 26 = .ok (.getfield 430, 3) := by decide +kernel
theorem d_M_letterHere_29 : decode m_M_letterHere.2.1 29 = .ok (.iaload, 1) := by decide +kernel
theorem d_M_letterHere_30 : decode m_M_letterHere.2.1 30 = .ok (.bipush 97, 2) := by decide +kernel
theorem d_M_letterHere_32 : decode m_M_letterHere.2.1 32 = .ok (.isub, 1) := by decide +kernel
theorem d_M_letterHere_33 : decode m_M_letterHere.2.1 33 = .ok (.goto 4, 3) := by decide +kernel
theorem d_M_letterHere_36 : decode m_M_letterHere.2.1 36 = .ok (.iconst (-1), 1) := by decide +kernel
theorem d_M_letterHere_37 : decode m_M_letterHere.2.1 37 = .ok (.ireturn, 1) := by decide +kernel
theorem b_M_letterHere_0 {E : EV} {d : Nat} {Q : Option AV → St → Prop} {σ : St} (hF : Fix σ) (h : (rI (σ.1 42 50)) ∧ ((¬ (σ.1 42 50) = 1 → Q (some (aI (-1))) σ) ∧ ((σ.1 42 50) = 1 → (rI (σ.1 42 49)) ∧ (rI ((σ.1 42 51) + 1)) ∧ ((¬ (σ.1 42 49) = ((σ.1 42 51) + 1) → Q (some (aI (-1))) σ) ∧ ((σ.1 42 49) = ((σ.1 42 51) + 1) → (0 ≤ (σ.1 42 51) ∧ (σ.1 42 51) < 400) ∧ Q (some (aI ((σ.1 76 (σ.1 42 51)) - 97))) σ))))) : WP E m_M_letterHere d 0 [(0, aP 42)] [] σ Q := by
  refine s_aload_n 0 d_M_letterHere_0 rfl rfl ?_
  refine s_getF (v := σ.1 42 50) d_M_letterHere_1 fl_M_424 rfl (sf_42 hF) rfl ?_
  refine s_iconst d_M_letterHere_4 ?_
  obtain ⟨g1, h⟩ := h
  refine s_icmp_ne d_M_letterHere_5 rfl g1 (by decide) (fun c => ?_) (fun c => ?_)
  · have h := h.1 c
    refine s_iconst d_M_letterHere_36 ?_
    exact s_ireturn d_M_letterHere_37 rfl h
  · have h := h.2 c
    refine s_aload_n 0 d_M_letterHere_8 rfl rfl ?_
    refine s_getF (v := σ.1 42 49) d_M_letterHere_9 fl_M_421 rfl (sf_42 hF) rfl ?_
    refine s_aload_n 0 d_M_letterHere_12 rfl rfl ?_
    refine s_getF (v := σ.1 42 51) d_M_letterHere_13 fl_M_430 rfl (sf_42 hF) rfl ?_
    refine s_iconst d_M_letterHere_16 ?_
    refine s_iadd d_M_letterHere_17 ?_
    obtain ⟨g2, h⟩ := h
    obtain ⟨g3, h⟩ := h
    refine s_icmp_ne d_M_letterHere_18 rfl g2 g3 (fun c => ?_) (fun c => ?_)
    · have h := h.1 c
      refine s_iconst d_M_letterHere_36 ?_
      exact s_ireturn d_M_letterHere_37 rfl h
    · have h := h.2 c
      refine s_aload_n 0 d_M_letterHere_21 rfl rfl ?_
      refine s_getF (v := 76) d_M_letterHere_22 fl_M_115 rfl (sf_42 hF) (ff_61 hF) ?_
      refine s_aload_n 0 d_M_letterHere_25 rfl rfl ?_
      refine s_getF (v := σ.1 42 51) d_M_letterHere_26 fl_M_430 rfl (sf_42 hF) rfl ?_
      obtain ⟨g4, h⟩ := h
      refine s_ialoadv (v := σ.1 76 (σ.1 42 51)) d_M_letterHere_29 ⟨_, sf_76 hF, g4.1, g4.2, by have := g4.2; omega⟩ rfl ?_
      refine s_bipush d_M_letterHere_30 (by decide) ?_
      refine s_isub d_M_letterHere_32 ?_
      refine s_goto d_M_letterHere_33 rfl ?_
      exact s_ireturn d_M_letterHere_37 rfl h
theorem e_M_letterHere {E : EV} {d : Nat} {Q : Option AV → St → Prop} {σ : St} (hF : Fix σ) (h : (rI (σ.1 42 50)) ∧ ((¬ (σ.1 42 50) = 1 → Q (some (aI (-1))) σ) ∧ ((σ.1 42 50) = 1 → (rI (σ.1 42 49)) ∧ (rI ((σ.1 42 51) + 1)) ∧ ((¬ (σ.1 42 49) = ((σ.1 42 51) + 1) → Q (some (aI (-1))) σ) ∧ ((σ.1 42 49) = ((σ.1 42 51) + 1) → (0 ≤ (σ.1 42 51) ∧ (σ.1 42 51) < 400) ∧ Q (some (aI ((σ.1 76 (σ.1 42 51)) - 97))) σ))))) : WM E m_M_letterHere d [aP 42] σ Q := s_meth (by decide) (Nat.le_of_ble_eq_true rfl) rfl (b_M_letterHere_0 hF h)
theorem d_M_readsLine_0 : decode m_M_readsLine.2.1 0 = .ok (.aload_n 0, 1) := by decide +kernel
theorem d_M_readsLine_1 : decode m_M_readsLine.2.1 1 = .ok (.getfield 29, 3) := by decide +kernel
theorem d_M_readsLine_4 : decode m_M_readsLine.2.1 4 = .ok (.iconst 2, 1) := by decide +kernel
theorem d_M_readsLine_5 : decode m_M_readsLine.2.1 5 = .ok (.iaload, 1) := by decide +kernel
theorem d_M_readsLine_6 : decode m_M_readsLine.2.1 6 = .ok (.istore_n 1, 1) := by decide +kernel
theorem d_M_readsLine_7 : decode m_M_readsLine.2.1 7 = .ok (.iconst 3, 1) := by decide +kernel
theorem d_M_readsLine_8 : decode m_M_readsLine.2.1 8 = .ok (.sipush 170, 3) := by decide +kernel
theorem d_M_readsLine_11 : decode m_M_readsLine.2.1 11 = .ok (.iload_n 1, 1) := by decide +kernel
theorem d_M_readsLine_12 : decode m_M_readsLine.2.1 12 = .ok (.imul, 1) := by decide +kernel
theorem d_M_readsLine_13 : decode m_M_readsLine.2.1 13 = .ok (.iadd, 1) := by decide +kernel
theorem d_M_readsLine_14 : decode m_M_readsLine.2.1 14 = .ok (.istore_n 2, 1) := by decide +kernel
theorem d_M_readsLine_15 : decode m_M_readsLine.2.1 15 = .ok (.aload_n 0, 1) := by decide +kernel
theorem d_M_readsLine_16 : decode m_M_readsLine.2.1 16 = .ok (.getfield 29, 3) := by decide +kernel
theorem d_M_readsLine_19 : decode m_M_readsLine.2.1 19 = .ok (.iload_n 2, 1) := by decide +kernel
theorem d_M_readsLine_20 : decode m_M_readsLine.2.1 20 = .ok (.iconst 0, 1) := by decide +kernel
theorem d_M_readsLine_21 : decode m_M_readsLine.2.1 21 = .ok (.iastore, 1) := by decide +kernel
theorem d_M_readsLine_22 : decode m_M_readsLine.2.1 22 = .ok (.aload_n 0, 1) := by decide +kernel
theorem d_M_readsLine_23 : decode m_M_readsLine.2.1 23 = .ok (.getfield 29, 3) := by decide +kernel
theorem d_M_readsLine_26 : decode m_M_readsLine.2.1 26 = .ok (.iload_n 2, 1) := by decide +kernel
theorem d_M_readsLine_27 : decode m_M_readsLine.2.1 27 = .ok (.iconst 1, 1) := by decide +kernel
theorem d_M_readsLine_28 : decode m_M_readsLine.2.1 28 = .ok (.iadd, 1) := by decide +kernel
theorem d_M_readsLine_29 : decode m_M_readsLine.2.1 29 = .ok (.iconst 0, 1) := by decide +kernel
theorem d_M_readsLine_30 : decode m_M_readsLine.2.1 30 = .ok (.iastore, 1) := by decide +kernel
theorem d_M_readsLine_31 : decode m_M_readsLine.2.1 31 = .ok (.aload_n 0, 1) := by decide +kernel
theorem d_M_readsLine_32 : decode m_M_readsLine.2.1 32 = .ok (.iconst 5, 1) := by decide +kernel
theorem d_M_readsLine_33 : decode m_M_readsLine.2.1 33 = .ok (.invokevirtual 455, 3) := by decide +kernel
theorem d_M_readsLine_36 : decode m_M_readsLine.2.1 36 = .ok (.ifCond .eq 16, 3) := by decide +kernel
theorem d_M_readsLine_39 : decode m_M_readsLine.2.1 39 = .ok (.aload_n 0, 1) := by decide +kernel
theorem d_M_readsLine_40 : decode m_M_readsLine.2.1 40 = .ok (.getfield 29, 3) := by decide +kernel
theorem d_M_readsLine_43 : decode m_M_readsLine.2.1 43 = .ok (.iload_n 2, 1) := by decide +kernel
theorem d_M_readsLine_44 : decode m_M_readsLine.2.1 44 = .ok (.iconst 1, 1) := by decide +kernel
theorem d_M_readsLine_45 : decode m_M_readsLine.2.1 45 = .ok (.iadd, 1) := by decide +kernel
theorem d_M_readsLine_46 : decode m_M_readsLine.2.1 46 = .ok (.iconst 1, 1) := by decide +kernel
theorem d_M_readsLine_47 : decode m_M_readsLine.2.1 47 = .ok (.iastore, 1) := by decide +kernel
theorem d_M_readsLine_48 : decode m_M_readsLine.2.1 48 = .ok (.aload_n 0, 1) := by decide +kernel
theorem d_M_readsLine_49 : decode m_M_readsLine.2.1 49 = .ok (.invokevirtual 440, 3) := by decide +kernel
theorem d_M_readsLine_52 : decode m_M_readsLine.2.1 52 = .ok (.iconst 1, 1) := by decide +kernel
theorem d_M_readsLine_53 : decode m_M_readsLine.2.1 53 = .ok (.istore_n 3, 1) := by decide +kernel
theorem d_M_readsLine_54 : decode m_M_readsLine.2.1 54 = .ok (.iload_n 3, 1) := by decide +kernel
theorem d_M_readsLine_55 : decode m_M_readsLine.2.1 55 = .ok (.ifCond .eq 136, 3) := by decide +kernel
theorem d_M_readsLine_58 : decode m_M_readsLine.2.1 58 = .ok (.aload_n 0, 1) := by decide +kernel
theorem d_M_readsLine_59 : decode m_M_readsLine.2.1 59 = .ok (.getfield 436, 3) := by decide +kernel
theorem d_M_readsLine_62 : decode m_M_readsLine.2.1 62 = .ok (.ifCond .ne 129, 3) := by decide +kernel
theorem d_M_readsLine_65 : decode m_M_readsLine.2.1 65 = .ok (.aload_n 0, 1) := by decide +kernel
theorem d_M_readsLine_66 : decode m_M_readsLine.2.1 66 = .ok (.invokevirtual 500, 3) := by decide +kernel
theorem d_M_readsLine_69 : decode m_M_readsLine.2.1 69 = .ok (.aload_n 0, 1) := by decide +kernel
theorem d_M_readsLine_70 : decode m_M_readsLine.2.1 70 = .ok (.getfield 436, 3) := by decide +kernel
theorem d_M_readsLine_73 : decode m_M_readsLine.2.1 73 = .ok (.ifCond .eq 4, 3) := by decide +kernel
theorem d_M_readsLine_76 : decode m_M_readsLine.2.1 76 = .ok (.return_, 1) := by decide +kernel
theorem d_M_readsLine_77 : decode m_M_readsLine.2.1 77 = .ok (.iload_n 2, 1) := by decide +kernel
theorem d_M_readsLine_78 : decode m_M_readsLine.2.1 78 = .ok (.iconst 2, 1) := by decide +kernel
theorem d_M_readsLine_79 : decode m_M_readsLine.2.1 79 = .ok (.iadd, 1) := by decide +kernel
theorem d_M_readsLine_80 : decode m_M_readsLine.2.1 80 = .ok (.bipush 21, 2) := by decide +kernel
theorem d_M_readsLine_82 : decode m_M_readsLine.2.1 82 = .ok (.aload_n 0, 1) := by decide +kernel
theorem d_M_readsLine_83 : decode m_M_readsLine.2.1 83 = .ok (.getfield 29, 3) := by decide +kernel
theorem d_M_readsLine_86 : decode m_M_readsLine.2.1 86 = .ok (.iload_n 2, 1) := by decide +kernel
theorem d_M_readsLine_87 : decode m_M_readsLine.2.1 87 = .ok (.iaload, 1) := by decide +kernel
theorem d_M_readsLine_88 : decode m_M_readsLine.2.1 88 = .ok (.imul, 1) := by decide +kernel
theorem d_M_readsLine_89 : decode m_M_readsLine.2.1 89 = .ok (.iadd, 1) := by decide +kernel
theorem d_M_readsLine_90 : decode m_M_readsLine.2.1 90 = .ok (.istore 4, 2) := by decide +kernel
theorem d_M_readsLine_92 : decode m_M_readsLine.2.1 92 = .ok (.aload_n 0, 1) := by decide +kernel
theorem d_M_readsLine_93 : decode m_M_readsLine.2.1 93 = .ok (.getfield 29, 3) := by decide +kernel
theorem d_M_readsLine_96 : decode m_M_readsLine.2.1 96 = .ok (.iload 4, 2) := by decide +kernel
theorem d_M_readsLine_98 : decode m_M_readsLine.2.1 98 = .ok (.aload_n 0, 1) := by decide +kernel
theorem d_M_readsLine_99 : decode m_M_readsLine.2.1 99 = .ok (.getfield 192, 3) := by decide +kernel
theorem d_M_readsLine_102 : decode m_M_readsLine.2.1 102 = .ok (.iastore, 1) := by decide +kernel
theorem d_M_readsLine_103 : decode m_M_readsLine.2.1 103 = .ok (.iconst 0, 1) := by decide +kernel
theorem d_M_readsLine_104 : decode m_M_readsLine.2.1 104 = .ok (.istore 5, 2) := by decide +kernel
theorem d_M_readsLine_106 : decode m_M_readsLine.2.1 106 = .ok (.iload 5, 2) := by decide +kernel
theorem d_M_readsLine_108 : decode m_M_readsLine.2.1 108 = .ok (.aload_n 0, 1) := by decide +kernel
theorem d_M_readsLine_109 : decode m_M_readsLine.2.1 109 = .ok (.getfield 192, 3) := by decide +kernel
theorem d_M_readsLine_112 : decode m_M_readsLine.2.1 112 = .ok (.if_icmp .ge 28, 3) := by decide +kernel
theorem d_M_readsLine_115 : decode m_M_readsLine.2.1 115 = .ok (.aload_n 0, 1) := by decide +kernel
theorem d_M_readsLine_116 : decode m_M_readsLine.2.1 116 = .ok (.getfield 29, 3) := by decide +kernel
theorem d_M_readsLine_119 : decode m_M_readsLine.2.1 119 = .ok (.iload 4, 2) := by decide +kernel
theorem d_M_readsLine_121 : decode m_M_readsLine.2.1 121 = .ok (.iconst 1, 1) := by decide +kernel
theorem d_M_readsLine_122 : decode m_M_readsLine.2.1 122 = .ok (.iadd, 1) := by decide +kernel
theorem d_M_readsLine_123 : decode m_M_readsLine.2.1 123 = .ok (.iload 5, 2) := by decide +kernel
theorem d_M_readsLine_125 : decode m_M_readsLine.2.1 125 = .ok (.iadd, 1) := by decide +kernel
theorem d_M_readsLine_126 : decode m_M_readsLine.2.1 126 = .ok (.aload_n 0, 1) := by decide +kernel
theorem d_M_readsLine_127 : decode m_M_readsLine.2.1 127 = .ok (.getfield 38, 3) := by decide +kernel
theorem d_M_readsLine_130 : decode m_M_readsLine.2.1 130 = .ok (.iload 5, 2) := by decide +kernel
theorem d_M_readsLine_132 : decode m_M_readsLine.2.1 132 = .ok (.iaload, 1) := by decide +kernel
theorem d_M_readsLine_133 : decode m_M_readsLine.2.1 133 = .ok (.iastore, 1) := by decide +kernel
theorem d_M_readsLine_134 : decode m_M_readsLine.2.1 134 = .ok (.iinc 5 1, 3) := by decide +kernel
theorem d_M_readsLine_137 : decode m_M_readsLine.2.1 137 = .ok (.goto (-31), 3) := by decide +kernel
theorem d_M_readsLine_140 : decode m_M_readsLine.2.1 140 = .ok (.aload_n 0, 1) := by decide +kernel
theorem d_M_readsLine_141 : decode m_M_readsLine.2.1 141 = .ok (.getfield 29, 3) := by decide +kernel
theorem d_M_readsLine_144 : decode m_M_readsLine.2.1 144 = .ok (.iload_n 2, 1) := by decide +kernel
theorem d_M_readsLine_145 : decode m_M_readsLine.2.1 145 = .ok (.dup2, 1) := by decide +kernel
theorem d_M_readsLine_146 : decode m_M_readsLine.2.1 146 = .ok (.iaload, 1) := by decide +kernel
theorem d_M_readsLine_147 : decode m_M_readsLine.2.1 147 = .ok (.iconst 1, 1) := by decide +kernel
theorem d_M_readsLine_148 : decode m_M_readsLine.2.1 148 = .ok (.iadd, 1) := by decide +kernel
theorem d_M_readsLine_149 : decode m_M_readsLine.2.1 149 = .ok (.iastore, 1) := by decide +kernel
theorem d_M_readsLine_150 : decode m_M_readsLine.2.1 150 = .ok (.aload_n 0, 1) := by decide +kernel
theorem d_M_readsLine_151 : decode m_M_readsLine.2.1 151 = .ok (.bipush 45, 2) := by decide +kernel
theorem d_M_readsLine_153 : decode m_M_readsLine.2.1 153 = .ok (.invokevirtual 443, 3) := by decide +kernel
theorem d_M_readsLine_156 : decode m_M_readsLine.2.1 156 = .ok (.istore_n 3, 1) := by decide +kernel
theorem d_M_readsLine_157 : decode m_M_readsLine.2.1 157 = .ok (.iload_n 3, 1) := by decide +kernel
theorem d_M_readsLine_158 : decode m_M_readsLine.2.1 158 = .ok (.ifCond .eq 22, 3) := by decide +kernel
theorem d_M_readsLine_161 : decode m_M_readsLine.2.1 161 = .ok (.aload_n 0, 1) := by decide +kernel
theorem d_M_readsLine_162 : decode m_M_readsLine.2.1 162 = .ok (.getfield 29, 3) := by decide +kernel
theorem d_M_readsLine_165 : decode m_M_readsLine.2.1 165 = .ok (.iload_n 2, 1) := by decide +kernel
theorem d_M_readsLine_166 : decode m_M_readsLine.2.1 166 = .ok (.iaload, 1) := by decide +kernel
theorem d_M_readsLine_167 : decode m_M_readsLine.2.1 167 = .ok (.bipush 8, 2) := by decide +kernel
theorem d_M_readsLine_169 : decode m_M_readsLine.2.1 169 = .ok (.if_icmp .ne 11, 3) := by decide +kernel
theorem d_M_readsLine_172 : decode m_M_readsLine.2.1 172 = .ok (.aload_n 0, 1) := by decide +kernel
theorem d_M_readsLine_173 : decode m_M_readsLine.2.1 173 = .ok (.iconst 1, 1) := by decide +kernel
theorem d_M_readsLine_174 : decode m_M_readsLine.2.1 174 = .ok (.putfield 436, 3) := by decide +kernel
theorem d_M_readsLine_177 : decode m_M_readsLine.2.1 177 = .ok (.goto 11, 3) := by decide +kernel
theorem d_M_readsLine_180 : decode m_M_readsLine.2.1 180 = .ok (.iload_n 3, 1) := by decide +kernel
theorem d_M_readsLine_181 : decode m_M_readsLine.2.1 181 = .ok (.ifCond .eq 7, 3) := by decide +kernel
theorem d_M_readsLine_184 : decode m_M_readsLine.2.1 184 = .ok (.aload_n 0, 1) := by decide +kernel
theorem d_M_readsLine_185 : decode m_M_readsLine.2.1 185 = .ok (.invokevirtual 440, 3) := by decide +kernel
theorem d_M_readsLine_188 : decode m_M_readsLine.2.1 188 = .ok (.goto (-134), 3) := by decide +kernel
theorem d_M_readsLine_191 : decode m_M_readsLine.2.1 191 = .ok (.aload_n 0, 1) := by decide +kernel
theorem d_M_readsLine_192 : decode m_M_readsLine.2.1 192 = .ok (.bipush 59, 2) := by decide +kernel
theorem d_M_readsLine_194 : decode m_M_readsLine.2.1 194 = .ok (.invokevirtual 458, 3) := by decide +kernel
theorem d_M_readsLine_197 : decode m_M_readsLine.2.1 197 = .ok (.aload_n 0, 1) := by decide +kernel
theorem d_M_readsLine_198 : decode m_M_readsLine.2.1 198 = .ok (.getfield 29, 3) := by decide +kernel
theorem d_M_readsLine_201 : decode m_M_readsLine.2.1 201 = .ok (.iconst 2, 1) := by decide +kernel
theorem d_M_readsLine_202 : decode m_M_readsLine.2.1 202 = .ok (.dup2, 1) := by decide +kernel
theorem d_M_readsLine_203 : decode m_M_readsLine.2.1 203 = .ok (.iaload, 1) := by decide +kernel
theorem d_M_readsLine_204 : decode m_M_readsLine.2.1 204 = .ok (.iconst 1, 1) := by decide +kernel
theorem d_M_readsLine_205 : decode m_M_readsLine.2.1 205 = .ok (.iadd, 1) := by decide +kernel
theorem d_M_readsLine_206 : decode m_M_readsLine.2.1 206 = .ok (.iastore, 1) := by decide +kernel
theorem d_M_readsLine_207 : decode m_M_readsLine.2.1 207 = .ok (.return_, 1) := by decide +kernel
theorem b_M_readsLine_0 {E : EV} {d : Nat} {Q : Option AV → St → Prop} {σ : St} (hF : Fix σ) (h : (0 ≤ (3 + (170 * (σ.1 48 2))) ∧ (3 + (170 * (σ.1 48 2))) < 683) ∧ (0 ≤ ((3 + (170 * (σ.1 48 2))) + 1) ∧ ((3 + (170 * (σ.1 48 2))) + 1) < 683) ∧ (WMi E m_M_isWord d [aP 42, aI 5] (wr (wr σ 48 (3 + (170 * (σ.1 48 2))) 0) 48 ((3 + (170 * (σ.1 48 2))) + 1) 0) (fun v3 σ3 => Fix σ3 ∧ (rI v3) ∧ ((v3 = 0 → WP E m_M_readsLine (d + 1) 52 [(0, aP 42), (2, aI (3 + (170 * (σ.1 48 2))))] [] σ3 Q) ∧ (¬ v3 = 0 → (0 ≤ ((3 + (170 * (σ.1 48 2))) + 1) ∧ ((3 + (170 * (σ.1 48 2))) + 1) < 683) ∧ (WMv E m_M_goesOn d [aP 42] (wr σ3 48 ((3 + (170 * (σ.1 48 2))) + 1) 1) (fun σ6 => WP E m_M_readsLine (d + 1) 52 [(0, aP 42), (2, aI (3 + (170 * (σ.1 48 2))))] [] σ6 Q))))))) : WP E m_M_readsLine (d + 1) 0 [(0, aP 42)] [] σ Q := by
  refine s_aload_n 0 d_M_readsLine_0 rfl rfl ?_
  refine s_getF (v := 48) d_M_readsLine_1 fl_M_29 rfl (sf_42 hF) (ff_33 hF) ?_
  refine s_iconst d_M_readsLine_4 ?_
  refine s_ialoadv (v := σ.1 48 2) d_M_readsLine_5 ⟨_, sf_48 hF, by decide, by decide, by decide⟩ rfl ?_
  refine s_istore_n d_M_readsLine_6 rfl (by decide) rfl ?_
  refine s_iconst d_M_readsLine_7 ?_
  refine s_sipush d_M_readsLine_8 (by decide) ?_
  refine s_iload_n 0 d_M_readsLine_11 rfl rfl ?_
  refine s_imul d_M_readsLine_12 ?_
  refine s_iadd d_M_readsLine_13 ?_
  refine s_istore_n d_M_readsLine_14 rfl (by decide) rfl ?_
  refine s_aload_n 2 d_M_readsLine_15 rfl rfl ?_
  refine s_getF (v := 48) d_M_readsLine_16 fl_M_29 rfl (sf_42 hF) (ff_33 hF) ?_
  refine s_iload_n 0 d_M_readsLine_19 rfl rfl ?_
  refine s_iconst d_M_readsLine_20 ?_
  obtain ⟨g1, h⟩ := h
  refine s_iastore d_M_readsLine_21 ⟨_, sf_48 hF, g1.1, g1.2, by have := g1.2; omega⟩ ?_
  refine s_aload_n 2 d_M_readsLine_22 rfl rfl ?_
  refine s_getF (v := 48) d_M_readsLine_23 fl_M_29 rfl (sf_42 (hF.wa (a := 48) (by decide))) (ff_33 (hF.wa (a := 48) (by decide))) ?_
  refine s_iload_n 0 d_M_readsLine_26 rfl rfl ?_
  refine s_iconst d_M_readsLine_27 ?_
  refine s_iadd d_M_readsLine_28 ?_
  refine s_iconst d_M_readsLine_29 ?_
  obtain ⟨g2, h⟩ := h
  refine s_iastore d_M_readsLine_30 ⟨_, sf_48 (hF.wa (a := 48) (by decide)), g2.1, g2.2, by have := g2.2; omega⟩ ?_
  refine s_aload_n 2 d_M_readsLine_31 rfl rfl ?_
  refine s_iconst d_M_readsLine_32 ?_
  refine s_callV (as := [aI 5]) (ci := 10) d_M_readsLine_33 ok_M_isWord lk_M_455 io_M_isWord so_M_isWord (by decide) rfl rfl rfl (Nat.le_of_ble_eq_true rfl) rfl (sf_42 ((hF.wa (a := 48) (by decide)).wa (a := 48) (by decide))) (WM.mono h ?_)
  rintro _ σ3 ⟨v3, rfl, hp, h⟩
  obtain ⟨hF3, h⟩ := h
  show WP E m_M_readsLine (d + 1) 36 [(2, aI (3 + (170 * (σ.1 48 2)))), (1, aI (σ.1 48 2)), (0, aP 42)] [aI v3] σ3 Q
  obtain ⟨g4, h⟩ := h
  refine s_if_eq d_M_readsLine_36 rfl g4 (fun c => ?_) (fun c => ?_)
  · have h := h.1 c
    refine wp_drop [2, 0] rfl ?_
    exact h
  · have h := h.2 c
    refine s_aload_n 2 d_M_readsLine_39 rfl rfl ?_
    refine s_getF (v := 48) d_M_readsLine_40 fl_M_29 rfl (sf_42 hF3) (ff_33 hF3) ?_
    refine s_iload_n 0 d_M_readsLine_43 rfl rfl ?_
    refine s_iconst d_M_readsLine_44 ?_
    refine s_iadd d_M_readsLine_45 ?_
    refine s_iconst d_M_readsLine_46 ?_
    obtain ⟨g5, h⟩ := h
    refine s_iastore d_M_readsLine_47 ⟨_, sf_48 hF3, g5.1, g5.2, by have := g5.2; omega⟩ ?_
    refine s_aload_n 2 d_M_readsLine_48 rfl rfl ?_
    refine s_callV (as := []) (ci := 10) d_M_readsLine_49 ok_M_goesOn lk_M_440 io_M_goesOn so_M_goesOn (by decide) rfl rfl rfl (Nat.le_of_ble_eq_true rfl) rfl (sf_42 (hF3.wa (a := 48) (by decide))) (WM.mono h ?_)
    rintro _ σ6 ⟨rfl, hp, h⟩
    show WP E m_M_readsLine (d + 1) 52 [(2, aI (3 + (170 * (σ.1 48 2)))), (1, aI (σ.1 48 2)), (0, aP 42)] [] σ6 Q
    refine wp_drop [2, 0] rfl ?_
    exact h
theorem e_M_readsLine {E : EV} {d : Nat} {Q : Option AV → St → Prop} {σ : St} (hF : Fix σ) (h : (0 ≤ (3 + (170 * (σ.1 48 2))) ∧ (3 + (170 * (σ.1 48 2))) < 683) ∧ (0 ≤ ((3 + (170 * (σ.1 48 2))) + 1) ∧ ((3 + (170 * (σ.1 48 2))) + 1) < 683) ∧ (WMi E m_M_isWord d [aP 42, aI 5] (wr (wr σ 48 (3 + (170 * (σ.1 48 2))) 0) 48 ((3 + (170 * (σ.1 48 2))) + 1) 0) (fun v3 σ3 => Fix σ3 ∧ (rI v3) ∧ ((v3 = 0 → WP E m_M_readsLine (d + 1) 52 [(0, aP 42), (2, aI (3 + (170 * (σ.1 48 2))))] [] σ3 Q) ∧ (¬ v3 = 0 → (0 ≤ ((3 + (170 * (σ.1 48 2))) + 1) ∧ ((3 + (170 * (σ.1 48 2))) + 1) < 683) ∧ (WMv E m_M_goesOn d [aP 42] (wr σ3 48 ((3 + (170 * (σ.1 48 2))) + 1) 1) (fun σ6 => WP E m_M_readsLine (d + 1) 52 [(0, aP 42), (2, aI (3 + (170 * (σ.1 48 2))))] [] σ6 Q))))))) : WM E m_M_readsLine (d + 1) [aP 42] σ Q := s_meth (by decide) (Nat.le_of_ble_eq_true rfl) rfl (b_M_readsLine_0 hF h)
theorem b_M_readsLine_52 {E : EV} {d : Nat} {Q : Option AV → St → Prop} {σ : St} (x2 : Int) (h : WP E m_M_readsLine (d + 1) 54 [(0, aP 42), (2, aI x2), (3, aI 1)] [] σ Q) : WP E m_M_readsLine (d + 1) 52 [(0, aP 42), (2, aI x2)] [] σ Q := by
  refine s_iconst d_M_readsLine_52 ?_
  refine s_istore_n d_M_readsLine_53 rfl (by decide) rfl ?_
  refine wp_drop [1, 2, 0] rfl ?_
  exact h
theorem b_M_readsLine_54 {E : EV} {d : Nat} {Q : Option AV → St → Prop} {σ : St} (x2 x3 : Int) (hF : Fix σ) (h : (rI x3) ∧ ((x3 = 0 → WP E m_M_readsLine (d + 1) 191 [(0, aP 42)] [] σ Q) ∧ (¬ x3 = 0 → (rI (σ.1 42 53)) ∧ ((¬ (σ.1 42 53) = 0 → WP E m_M_readsLine (d + 1) 191 [(0, aP 42)] [] σ Q) ∧ ((σ.1 42 53) = 0 → (WMv E m_M_readsSquare d [aP 42] σ (fun σ3 => Fix σ3 ∧ (rI (σ3.1 42 53)) ∧ (((σ3.1 42 53) = 0 → (0 ≤ x2 ∧ x2 < 683) ∧ (0 ≤ ((x2 + 2) + (21 * (σ3.1 48 x2))) ∧ ((x2 + 2) + (21 * (σ3.1 48 x2))) < 683) ∧ WP E m_M_readsLine (d + 1) 106 [(0, aP 42), (2, aI x2), (4, aI ((x2 + 2) + (21 * (σ3.1 48 x2)))), (5, aI 0)] [] (wr σ3 48 ((x2 + 2) + (21 * (σ3.1 48 x2))) (σ3.1 42 12)) Q) ∧ (¬ (σ3.1 42 53) = 0 → Q none σ3))))))))) : WP E m_M_readsLine (d + 1) 54 [(0, aP 42), (2, aI x2), (3, aI x3)] [] σ Q := by
  refine s_iload_n 2 d_M_readsLine_54 rfl rfl ?_
  obtain ⟨g1, h⟩ := h
  refine s_if_eq d_M_readsLine_55 rfl g1 (fun c => ?_) (fun c => ?_)
  · have h := h.1 c
    refine wp_drop [0] rfl ?_
    exact h
  · have h := h.2 c
    refine s_aload_n 0 d_M_readsLine_58 rfl rfl ?_
    refine s_getF (v := σ.1 42 53) d_M_readsLine_59 fl_M_436 rfl (sf_42 hF) rfl ?_
    obtain ⟨g2, h⟩ := h
    refine s_if_ne d_M_readsLine_62 rfl g2 (fun c => ?_) (fun c => ?_)
    · have h := h.1 c
      refine wp_drop [0] rfl ?_
      exact h
    · have h := h.2 c
      refine s_aload_n 0 d_M_readsLine_65 rfl rfl ?_
      refine s_callV (as := []) (ci := 10) d_M_readsLine_66 ok_M_readsSquare lk_M_500 io_M_readsSquare so_M_readsSquare (by decide) rfl rfl rfl (Nat.le_of_ble_eq_true rfl) rfl (sf_42 hF) (WM.mono h ?_)
      rintro _ σ3 ⟨rfl, hp, h⟩
      obtain ⟨hF3, h⟩ := h
      show WP E m_M_readsLine (d + 1) 69 [(0, aP 42), (2, aI x2), (3, aI x3)] [] σ3 Q
      refine s_aload_n 0 d_M_readsLine_69 rfl rfl ?_
      refine s_getF (v := σ3.1 42 53) d_M_readsLine_70 fl_M_436 rfl (sf_42 hF3) rfl ?_
      obtain ⟨g4, h⟩ := h
      refine s_if_eq d_M_readsLine_73 rfl g4 (fun c => ?_) (fun c => ?_)
      · have h := h.1 c
        refine s_iload_n 1 d_M_readsLine_77 rfl rfl ?_
        refine s_iconst d_M_readsLine_78 ?_
        refine s_iadd d_M_readsLine_79 ?_
        refine s_bipush d_M_readsLine_80 (by decide) ?_
        refine s_aload_n 0 d_M_readsLine_82 rfl rfl ?_
        refine s_getF (v := 48) d_M_readsLine_83 fl_M_29 rfl (sf_42 hF3) (ff_33 hF3) ?_
        refine s_iload_n 1 d_M_readsLine_86 rfl rfl ?_
        obtain ⟨g5, h⟩ := h
        refine s_ialoadv (v := σ3.1 48 x2) d_M_readsLine_87 ⟨_, sf_48 hF3, g5.1, g5.2, by have := g5.2; omega⟩ rfl ?_
        refine s_imul d_M_readsLine_88 ?_
        refine s_iadd d_M_readsLine_89 ?_
        refine s_istore d_M_readsLine_90 (by decide) rfl ?_
        refine s_aload_n 1 d_M_readsLine_92 rfl rfl ?_
        refine s_getF (v := 48) d_M_readsLine_93 fl_M_29 rfl (sf_42 hF3) (ff_33 hF3) ?_
        refine s_iload 0 d_M_readsLine_96 rfl ?_
        refine s_aload_n 1 d_M_readsLine_98 rfl rfl ?_
        refine s_getF (v := σ3.1 42 12) d_M_readsLine_99 fl_M_192 rfl (sf_42 hF3) rfl ?_
        obtain ⟨g6, h⟩ := h
        refine s_iastore d_M_readsLine_102 ⟨_, sf_48 hF3, g6.1, g6.2, by have := g6.2; omega⟩ ?_
        refine s_iconst d_M_readsLine_103 ?_
        refine s_istore d_M_readsLine_104 (by decide) rfl ?_
        refine wp_drop [2, 3, 1, 0] rfl ?_
        exact h
      · have h := h.2 c
        exact s_return d_M_readsLine_76 rfl h
theorem b_M_readsLine_106 {E : EV} {d : Nat} {Q : Option AV → St → Prop} {σ : St} (x2 x4 x5 : Int) (hF : Fix σ) (h : (rI x5) ∧ (rI (σ.1 42 12)) ∧ (((σ.1 42 12) ≤ x5 → (0 ≤ x2 ∧ x2 < 683) ∧ (0 ≤ x2 ∧ x2 < 683) ∧ (WMi E m_M_isMark d [aP 42, aI 45] (wr σ 48 x2 ((σ.1 48 x2) + 1)) (fun v5 σ5 => Fix σ5 ∧ (rI v5) ∧ ((v5 = 0 → WP E m_M_readsLine (d + 1) 180 [(0, aP 42), (2, aI x2), (3, aI v5)] [] σ5 Q) ∧ (¬ v5 = 0 → (0 ≤ x2 ∧ x2 < 683) ∧ (rI (σ5.1 48 x2)) ∧ ((¬ (σ5.1 48 x2) = 8 → WP E m_M_readsLine (d + 1) 180 [(0, aP 42), (2, aI x2), (3, aI v5)] [] σ5 Q) ∧ ((σ5.1 48 x2) = 8 → WP E m_M_readsLine (d + 1) 188 [(0, aP 42), (2, aI x2), (3, aI v5)] [] (wr σ5 42 53 1) Q))))))) ∧ (¬ (σ.1 42 12) ≤ x5 → (0 ≤ x5 ∧ x5 < 48) ∧ (0 ≤ ((x4 + 1) + x5) ∧ ((x4 + 1) + x5) < 683) ∧ WP E m_M_readsLine (d + 1) 106 [(0, aP 42), (2, aI x2), (4, aI x4), (5, aI (x5 + 1))] [] (wr σ 48 ((x4 + 1) + x5) (σ.1 51 x5)) Q))) : WP E m_M_readsLine (d + 1) 106 [(0, aP 42), (2, aI x2), (4, aI x4), (5, aI x5)] [] σ Q := by
  refine s_iload 3 d_M_readsLine_106 rfl ?_
  refine s_aload_n 0 d_M_readsLine_108 rfl rfl ?_
  refine s_getF (v := σ.1 42 12) d_M_readsLine_109 fl_M_192 rfl (sf_42 hF) rfl ?_
  obtain ⟨g1, h⟩ := h
  obtain ⟨g2, h⟩ := h
  refine s_icmp_ge d_M_readsLine_112 rfl g1 g2 (fun c => ?_) (fun c => ?_)
  · have h := h.1 c
    refine s_aload_n 0 d_M_readsLine_140 rfl rfl ?_
    refine s_getF (v := 48) d_M_readsLine_141 fl_M_29 rfl (sf_42 hF) (ff_33 hF) ?_
    refine s_iload_n 1 d_M_readsLine_144 rfl rfl ?_
    refine s_dup2 d_M_readsLine_145 (Nat.ne_of_beq_eq_false rfl) (Nat.ne_of_beq_eq_false rfl) ?_
    obtain ⟨g3, h⟩ := h
    refine s_ialoadv (v := σ.1 48 x2) d_M_readsLine_146 ⟨_, sf_48 hF, g3.1, g3.2, by have := g3.2; omega⟩ rfl ?_
    refine s_iconst d_M_readsLine_147 ?_
    refine s_iadd d_M_readsLine_148 ?_
    obtain ⟨g4, h⟩ := h
    refine s_iastore d_M_readsLine_149 ⟨_, sf_48 hF, g4.1, g4.2, by have := g4.2; omega⟩ ?_
    refine s_aload_n 0 d_M_readsLine_150 rfl rfl ?_
    refine s_bipush d_M_readsLine_151 (by decide) ?_
    refine s_callV (as := [aI 45]) (ci := 10) d_M_readsLine_153 ok_M_isMark lk_M_443 io_M_isMark so_M_isMark (by decide) rfl rfl rfl (Nat.le_of_ble_eq_true rfl) rfl (sf_42 (hF.wa (a := 48) (by decide))) (WM.mono h ?_)
    rintro _ σ5 ⟨v5, rfl, hp, h⟩
    obtain ⟨hF5, h⟩ := h
    show WP E m_M_readsLine (d + 1) 156 [(0, aP 42), (2, aI x2), (4, aI x4), (5, aI x5)] [aI v5] σ5 Q
    refine s_istore_n d_M_readsLine_156 rfl (by decide) rfl ?_
    refine s_iload_n 0 d_M_readsLine_157 rfl rfl ?_
    obtain ⟨g6, h⟩ := h
    refine s_if_eq d_M_readsLine_158 rfl g6 (fun c => ?_) (fun c => ?_)
    · have h := h.1 c
      refine wp_drop [1, 2, 0] rfl ?_
      exact h
    · have h := h.2 c
      refine s_aload_n 1 d_M_readsLine_161 rfl rfl ?_
      refine s_getF (v := 48) d_M_readsLine_162 fl_M_29 rfl (sf_42 hF5) (ff_33 hF5) ?_
      refine s_iload_n 2 d_M_readsLine_165 rfl rfl ?_
      obtain ⟨g7, h⟩ := h
      refine s_ialoadv (v := σ5.1 48 x2) d_M_readsLine_166 ⟨_, sf_48 hF5, g7.1, g7.2, by have := g7.2; omega⟩ rfl ?_
      refine s_bipush d_M_readsLine_167 (by decide) ?_
      obtain ⟨g8, h⟩ := h
      refine s_icmp_ne d_M_readsLine_169 rfl g8 (by decide) (fun c => ?_) (fun c => ?_)
      · have h := h.1 c
        refine wp_drop [1, 2, 0] rfl ?_
        exact h
      · have h := h.2 c
        refine s_aload_n 1 d_M_readsLine_172 rfl rfl ?_
        refine s_iconst d_M_readsLine_173 ?_
        refine s_putf 53 rfl d_M_readsLine_174 fl_M_436 (fun C T h => by cases h; exact Or.inl rfl) rfl (Or.inr (Or.inr (Or.inl rfl))) (fun _ => by decide) (sf_42 hF5) ?_
        refine s_goto d_M_readsLine_177 rfl ?_
        refine wp_drop [1, 2, 0] rfl ?_
        exact h
  · have h := h.2 c
    refine s_aload_n 0 d_M_readsLine_115 rfl rfl ?_
    refine s_getF (v := 48) d_M_readsLine_116 fl_M_29 rfl (sf_42 hF) (ff_33 hF) ?_
    refine s_iload 2 d_M_readsLine_119 rfl ?_
    refine s_iconst d_M_readsLine_121 ?_
    refine s_iadd d_M_readsLine_122 ?_
    refine s_iload 3 d_M_readsLine_123 rfl ?_
    refine s_iadd d_M_readsLine_125 ?_
    refine s_aload_n 0 d_M_readsLine_126 rfl rfl ?_
    refine s_getF (v := 51) d_M_readsLine_127 fl_M_38 rfl (sf_42 hF) (ff_36 hF) ?_
    refine s_iload 3 d_M_readsLine_130 rfl ?_
    obtain ⟨g9, h⟩ := h
    refine s_ialoadv (v := σ.1 51 x5) d_M_readsLine_132 ⟨_, sf_51 hF, g9.1, g9.2, by have := g9.2; omega⟩ rfl ?_
    obtain ⟨g10, h⟩ := h
    refine s_iastore d_M_readsLine_133 ⟨_, sf_48 hF, g10.1, g10.2, by have := g10.2; omega⟩ ?_
    refine s_iinc 3 d_M_readsLine_134 rfl (by decide) rfl ?_
    refine s_goto d_M_readsLine_137 rfl ?_
    refine wp_drop [1, 2, 3, 0] rfl ?_
    exact h
theorem b_M_readsLine_180 {E : EV} {d : Nat} {Q : Option AV → St → Prop} {σ : St} (x2 x3 : Int) (hF : Fix σ) (h : (rI x3) ∧ ((x3 = 0 → WP E m_M_readsLine (d + 1) 188 [(0, aP 42), (2, aI x2), (3, aI x3)] [] σ Q) ∧ (¬ x3 = 0 → (WMv E m_M_goesOn d [aP 42] σ (fun σ2 => WP E m_M_readsLine (d + 1) 188 [(0, aP 42), (2, aI x2), (3, aI x3)] [] σ2 Q))))) : WP E m_M_readsLine (d + 1) 180 [(0, aP 42), (2, aI x2), (3, aI x3)] [] σ Q := by
  refine s_iload_n 2 d_M_readsLine_180 rfl rfl ?_
  obtain ⟨g1, h⟩ := h
  refine s_if_eq d_M_readsLine_181 rfl g1 (fun c => ?_) (fun c => ?_)
  · have h := h.1 c
    exact h
  · have h := h.2 c
    refine s_aload_n 0 d_M_readsLine_184 rfl rfl ?_
    refine s_callV (as := []) (ci := 10) d_M_readsLine_185 ok_M_goesOn lk_M_440 io_M_goesOn so_M_goesOn (by decide) rfl rfl rfl (Nat.le_of_ble_eq_true rfl) rfl (sf_42 hF) (WM.mono h ?_)
    rintro _ σ2 ⟨rfl, hp, h⟩
    show WP E m_M_readsLine (d + 1) 188 [(0, aP 42), (2, aI x2), (3, aI x3)] [] σ2 Q
    exact h
theorem b_M_readsLine_188 {E : EV} {d : Nat} {Q : Option AV → St → Prop} {σ : St} (x2 x3 : Int) (h : WP E m_M_readsLine (d + 1) 54 [(0, aP 42), (2, aI x2), (3, aI x3)] [] σ Q) : WP E m_M_readsLine (d + 1) 188 [(0, aP 42), (2, aI x2), (3, aI x3)] [] σ Q := by
  refine s_goto d_M_readsLine_188 rfl ?_
  exact h
theorem b_M_readsLine_191 {E : EV} {d : Nat} {Q : Option AV → St → Prop} {σ : St} (hF : Fix σ) (h : (WMv E m_M_needsMark d [aP 42, aI 59] σ (fun σ1 => Fix σ1 ∧ Q none (wr σ1 48 2 ((σ1.1 48 2) + 1))))) : WP E m_M_readsLine (d + 1) 191 [(0, aP 42)] [] σ Q := by
  refine s_aload_n 0 d_M_readsLine_191 rfl rfl ?_
  refine s_bipush d_M_readsLine_192 (by decide) ?_
  refine s_callV (as := [aI 59]) (ci := 10) d_M_readsLine_194 ok_M_needsMark lk_M_458 io_M_needsMark so_M_needsMark (by decide) rfl rfl rfl (Nat.le_of_ble_eq_true rfl) rfl (sf_42 hF) (WM.mono h ?_)
  rintro _ σ1 ⟨rfl, hp, h⟩
  obtain ⟨hF1, h⟩ := h
  show WP E m_M_readsLine (d + 1) 197 [(0, aP 42)] [] σ1 Q
  refine s_aload_n 0 d_M_readsLine_197 rfl rfl ?_
  refine s_getF (v := 48) d_M_readsLine_198 fl_M_29 rfl (sf_42 hF1) (ff_33 hF1) ?_
  refine s_iconst d_M_readsLine_201 ?_
  refine s_dup2 d_M_readsLine_202 (Nat.ne_of_beq_eq_false rfl) (Nat.ne_of_beq_eq_false rfl) ?_
  refine s_ialoadv (v := σ1.1 48 2) d_M_readsLine_203 ⟨_, sf_48 hF1, by decide, by decide, by decide⟩ rfl ?_
  refine s_iconst d_M_readsLine_204 ?_
  refine s_iadd d_M_readsLine_205 ?_
  refine s_iastore d_M_readsLine_206 ⟨_, sf_48 hF1, by decide, by decide, by decide⟩ ?_
  exact s_return d_M_readsLine_207 rfl h
theorem d_M_readsSquare_0 : decode m_M_readsSquare.2.1 0 = .ok (.aload_n 0, 1) := by decide +kernel
theorem d_M_readsSquare_1 : decode m_M_readsSquare.2.1 1 = .ok (.iconst 0, 1) := by decide +kernel
theorem d_M_readsSquare_2 : decode m_M_readsSquare.2.1 2 = .ok (.putfield 461, 3) := by decide +kernel
theorem d_M_readsSquare_5 : decode m_M_readsSquare.2.1 5 = .ok (.aload_n 0, 1) := by decide +kernel
theorem d_M_readsSquare_6 : decode m_M_readsSquare.2.1 6 = .ok (.iconst 0, 1) := by decide +kernel
theorem d_M_readsSquare_7 : decode m_M_readsSquare.2.1 7 = .ok (.putfield 464, 3) := by decide +kernel
theorem d_M_readsSquare_10 : decode m_M_readsSquare.2.1 10 = .ok (.aload_n 0, 1) := by decide +kernel
theorem d_M_readsSquare_11 : decode m_M_readsSquare.2.1 11 = .ok (.iconst 0, 1) := by decide +kernel
theorem d_M_readsSquare_12 : decode m_M_readsSquare.2.1 12 = .ok (.putfield 485, 3) := by decide +kernel
theorem d_M_readsSquare_15 : decode m_M_readsSquare.2.1 15 = .ok (.aload_n 0, 1) := by decide +kernel
theorem d_M_readsSquare_16 : decode m_M_readsSquare.2.1 16 = .ok (.iconst 0, 1) := by decide +kernel
theorem d_M_readsSquare_17 : decode m_M_readsSquare.2.1 17 = .ok (.putfield 482, 3) := by decide +kernel
theorem d_M_readsSquare_20 : decode m_M_readsSquare.2.1 20 = .ok (.aload_n 0, 1) := by decide +kernel
theorem d_M_readsSquare_21 : decode m_M_readsSquare.2.1 21 = .ok (.iconst (-1), 1) := by decide +kernel
theorem d_M_readsSquare_22 : decode m_M_readsSquare.2.1 22 = .ok (.invokevirtual 479, 3) := by decide +kernel
theorem d_M_readsSquare_25 : decode m_M_readsSquare.2.1 25 = .ok (.iconst 1, 1) := by decide +kernel
theorem d_M_readsSquare_26 : decode m_M_readsSquare.2.1 26 = .ok (.istore_n 1, 1) := by decide +kernel
theorem d_M_readsSquare_27 : decode m_M_readsSquare.2.1 27 = .ok (.iload_n 1, 1) := by decide +kernel
theorem d_M_readsSquare_28 : decode m_M_readsSquare.2.1 28 = .ok (.ifCond .eq 29, 3) := by decide +kernel
theorem d_M_readsSquare_31 : decode m_M_readsSquare.2.1 31 = .ok (.aload_n 0, 1) := by decide +kernel
theorem d_M_readsSquare_32 : decode m_M_readsSquare.2.1 32 = .ok (.getfield 436, 3) := by decide +kernel
theorem d_M_readsSquare_35 : decode m_M_readsSquare.2.1 35 = .ok (.ifCond .ne 22, 3) := by decide +kernel
theorem d_M_readsSquare_38 : decode m_M_readsSquare.2.1 38 = .ok (.aload_n 0, 1) := by decide +kernel
theorem d_M_readsSquare_39 : decode m_M_readsSquare.2.1 39 = .ok (.invokevirtual 491, 3) := by decide +kernel
theorem d_M_readsSquare_42 : decode m_M_readsSquare.2.1 42 = .ok (.istore_n 2, 1) := by decide +kernel
theorem d_M_readsSquare_43 : decode m_M_readsSquare.2.1 43 = .ok (.iload_n 2, 1) := by decide +kernel
theorem d_M_readsSquare_44 : decode m_M_readsSquare.2.1 44 = .ok (.iconst (-1), 1) := by decide +kernel
theorem d_M_readsSquare_45 : decode m_M_readsSquare.2.1 45 = .ok (.if_icmp .eq 9, 3) := by decide +kernel
theorem d_M_readsSquare_48 : decode m_M_readsSquare.2.1 48 = .ok (.aload_n 0, 1) := by decide +kernel
theorem d_M_readsSquare_49 : decode m_M_readsSquare.2.1 49 = .ok (.iload_n 2, 1) := by decide +kernel
theorem d_M_readsSquare_50 : decode m_M_readsSquare.2.1 50 = .ok (.invokevirtual 494, 3) := by decide +kernel
theorem d_M_readsSquare_53 : decode m_M_readsSquare.2.1 53 = .ok (.istore_n 1, 1) := by decide +kernel
theorem d_M_readsSquare_54 : decode m_M_readsSquare.2.1 54 = .ok (.goto (-27), 3) := by decide +kernel
theorem d_M_readsSquare_57 : decode m_M_readsSquare.2.1 57 = .ok (.aload_n 0, 1) := by decide +kernel
theorem d_M_readsSquare_58 : decode m_M_readsSquare.2.1 58 = .ok (.getfield 436, 3) := by decide +kernel
theorem d_M_readsSquare_61 : decode m_M_readsSquare.2.1 61 = .ok (.ifCond .ne 11, 3) := by decide +kernel
theorem d_M_readsSquare_64 : decode m_M_readsSquare.2.1 64 = .ok (.aload_n 0, 1) := by decide +kernel
theorem d_M_readsSquare_65 : decode m_M_readsSquare.2.1 65 = .ok (.aload_n 0, 1) := by decide +kernel
theorem d_M_readsSquare_66 : decode m_M_readsSquare.2.1 66 = .ok (.invokevirtual 488, 3) := by decide +kernel
theorem d_M_readsSquare_69 : decode m_M_readsSquare.2.1 69 = .ok (.invokevirtual 497, 3) := by decide +kernel
theorem d_M_readsSquare_72 : decode m_M_readsSquare.2.1 72 = .ok (.return_, 1) := by decide +kernel
theorem b_M_readsSquare_0 {E : EV} {d : Nat} {Q : Option AV → St → Prop} {σ : St} (hF : Fix σ) (h : (WMv E m_M_opensGroup d [aP 42, aI (-1)] (wr (wr (wr (wr σ 42 66 0) 42 70 0) 42 71 0) 42 72 0) (fun σ1 => WP E m_M_readsSquare (d + 1) 27 [(0, aP 42), (1, aI 1)] [] σ1 Q))) : WP E m_M_readsSquare (d + 1) 0 [(0, aP 42)] [] σ Q := by
  refine s_aload_n 0 d_M_readsSquare_0 rfl rfl ?_
  refine s_iconst d_M_readsSquare_1 ?_
  refine s_putf 66 rfl d_M_readsSquare_2 fl_M_461 (fun C T h => by cases h; exact Or.inl rfl) rfl (Or.inl rfl) (fun h => nomatch h) (sf_42 hF) ?_
  refine s_aload_n 0 d_M_readsSquare_5 rfl rfl ?_
  refine s_iconst d_M_readsSquare_6 ?_
  refine s_putf 70 rfl d_M_readsSquare_7 fl_M_464 (fun C T h => by cases h; exact Or.inl rfl) rfl (Or.inl rfl) (fun h => nomatch h) (sf_42 (hF.wf (a := 42) (k := 66) (by decide))) ?_
  refine s_aload_n 0 d_M_readsSquare_10 rfl rfl ?_
  refine s_iconst d_M_readsSquare_11 ?_
  refine s_putf 71 rfl d_M_readsSquare_12 fl_M_485 (fun C T h => by cases h; exact Or.inl rfl) rfl (Or.inl rfl) (fun h => nomatch h) (sf_42 ((hF.wf (a := 42) (k := 66) (by decide)).wf (a := 42) (k := 70) (by decide))) ?_
  refine s_aload_n 0 d_M_readsSquare_15 rfl rfl ?_
  refine s_iconst d_M_readsSquare_16 ?_
  refine s_putf 72 rfl d_M_readsSquare_17 fl_M_482 (fun C T h => by cases h; exact Or.inl rfl) rfl (Or.inl rfl) (fun h => nomatch h) (sf_42 (((hF.wf (a := 42) (k := 66) (by decide)).wf (a := 42) (k := 70) (by decide)).wf (a := 42) (k := 71) (by decide))) ?_
  refine s_aload_n 0 d_M_readsSquare_20 rfl rfl ?_
  refine s_iconst d_M_readsSquare_21 ?_
  refine s_callV (as := [aI (-1)]) (ci := 10) d_M_readsSquare_22 ok_M_opensGroup lk_M_479 io_M_opensGroup so_M_opensGroup (by decide) rfl rfl rfl (Nat.le_of_ble_eq_true rfl) rfl (sf_42 ((((hF.wf (a := 42) (k := 66) (by decide)).wf (a := 42) (k := 70) (by decide)).wf (a := 42) (k := 71) (by decide)).wf (a := 42) (k := 72) (by decide))) (WM.mono h ?_)
  rintro _ σ1 ⟨rfl, hp, h⟩
  show WP E m_M_readsSquare (d + 1) 25 [(0, aP 42)] [] σ1 Q
  refine s_iconst d_M_readsSquare_25 ?_
  refine s_istore_n d_M_readsSquare_26 rfl (by decide) rfl ?_
  refine wp_drop [1, 0] rfl ?_
  exact h
theorem e_M_readsSquare {E : EV} {d : Nat} {Q : Option AV → St → Prop} {σ : St} (hF : Fix σ) (h : (WMv E m_M_opensGroup d [aP 42, aI (-1)] (wr (wr (wr (wr σ 42 66 0) 42 70 0) 42 71 0) 42 72 0) (fun σ1 => WP E m_M_readsSquare (d + 1) 27 [(0, aP 42), (1, aI 1)] [] σ1 Q))) : WM E m_M_readsSquare (d + 1) [aP 42] σ Q := s_meth (by decide) (Nat.le_of_ble_eq_true rfl) rfl (b_M_readsSquare_0 hF h)
theorem b_M_readsSquare_27 {E : EV} {d : Nat} {Q : Option AV → St → Prop} {σ : St} (x1 : Int) (hF : Fix σ) (h : (rI x1) ∧ ((x1 = 0 → WP E m_M_readsSquare (d + 1) 57 [(0, aP 42)] [] σ Q) ∧ (¬ x1 = 0 → (rI (σ.1 42 53)) ∧ ((¬ (σ.1 42 53) = 0 → WP E m_M_readsSquare (d + 1) 57 [(0, aP 42)] [] σ Q) ∧ ((σ.1 42 53) = 0 → (WMi E m_M_beginsPart d [aP 42] σ (fun v3 σ3 => Fix σ3 ∧ (rI v3) ∧ ((v3 = (-1) → WP E m_M_readsSquare (d + 1) 54 [(0, aP 42), (1, aI x1)] [] σ3 Q) ∧ (¬ v3 = (-1) → (WMi E m_M_endsPart d [aP 42, aI v3] σ3 (fun v5 σ5 => WP E m_M_readsSquare (d + 1) 54 [(0, aP 42), (1, aI v5)] [] σ5 Q))))))))))) : WP E m_M_readsSquare (d + 1) 27 [(0, aP 42), (1, aI x1)] [] σ Q := by
  refine s_iload_n 1 d_M_readsSquare_27 rfl rfl ?_
  obtain ⟨g1, h⟩ := h
  refine s_if_eq d_M_readsSquare_28 rfl g1 (fun c => ?_) (fun c => ?_)
  · have h := h.1 c
    refine wp_drop [0] rfl ?_
    exact h
  · have h := h.2 c
    refine s_aload_n 0 d_M_readsSquare_31 rfl rfl ?_
    refine s_getF (v := σ.1 42 53) d_M_readsSquare_32 fl_M_436 rfl (sf_42 hF) rfl ?_
    obtain ⟨g2, h⟩ := h
    refine s_if_ne d_M_readsSquare_35 rfl g2 (fun c => ?_) (fun c => ?_)
    · have h := h.1 c
      refine wp_drop [0] rfl ?_
      exact h
    · have h := h.2 c
      refine s_aload_n 0 d_M_readsSquare_38 rfl rfl ?_
      refine s_callV (as := []) (ci := 10) d_M_readsSquare_39 ok_M_beginsPart lk_M_491 io_M_beginsPart so_M_beginsPart (by decide) rfl rfl rfl (Nat.le_of_ble_eq_true rfl) rfl (sf_42 hF) (WM.mono h ?_)
      rintro _ σ3 ⟨v3, rfl, hp, h⟩
      obtain ⟨hF3, h⟩ := h
      show WP E m_M_readsSquare (d + 1) 42 [(0, aP 42), (1, aI x1)] [aI v3] σ3 Q
      refine s_istore_n d_M_readsSquare_42 rfl (by decide) rfl ?_
      refine s_iload_n 0 d_M_readsSquare_43 rfl rfl ?_
      refine s_iconst d_M_readsSquare_44 ?_
      obtain ⟨g4, h⟩ := h
      refine s_icmp_eq d_M_readsSquare_45 rfl g4 (by decide) (fun c => ?_) (fun c => ?_)
      · have h := h.1 c
        refine wp_drop [1, 2] rfl ?_
        exact h
      · have h := h.2 c
        refine s_aload_n 1 d_M_readsSquare_48 rfl rfl ?_
        refine s_iload_n 0 d_M_readsSquare_49 rfl rfl ?_
        refine s_callV (as := [aI v3]) (ci := 10) d_M_readsSquare_50 ok_M_endsPart lk_M_494 io_M_endsPart so_M_endsPart (by decide) rfl rfl rfl (Nat.le_of_ble_eq_true rfl) rfl (sf_42 hF3) (WM.mono h ?_)
        rintro _ σ5 ⟨v5, rfl, hp, h⟩
        show WP E m_M_readsSquare (d + 1) 53 [(2, aI v3), (0, aP 42), (1, aI x1)] [aI v5] σ5 Q
        refine s_istore_n d_M_readsSquare_53 rfl (by decide) rfl ?_
        refine wp_drop [2, 0] rfl ?_
        exact h
theorem b_M_readsSquare_54 {E : EV} {d : Nat} {Q : Option AV → St → Prop} {σ : St} (x1 : Int) (h : WP E m_M_readsSquare (d + 1) 27 [(0, aP 42), (1, aI x1)] [] σ Q) : WP E m_M_readsSquare (d + 1) 54 [(0, aP 42), (1, aI x1)] [] σ Q := by
  refine s_goto d_M_readsSquare_54 rfl ?_
  exact h
theorem b_M_readsSquare_57 {E : EV} {d : Nat} {Q : Option AV → St → Prop} {σ : St} (hF : Fix σ) (h : (rI (σ.1 42 53)) ∧ ((¬ (σ.1 42 53) = 0 → Q none σ) ∧ ((σ.1 42 53) = 0 → (WMi E m_M_endsGroup d [aP 42] σ (fun v2 σ2 => Fix σ2 ∧ (WMv E m_M_flattens d [aP 42, aI v2] σ2 (fun σ3 => Q none σ3))))))) : WP E m_M_readsSquare (d + 1) 57 [(0, aP 42)] [] σ Q := by
  refine s_aload_n 0 d_M_readsSquare_57 rfl rfl ?_
  refine s_getF (v := σ.1 42 53) d_M_readsSquare_58 fl_M_436 rfl (sf_42 hF) rfl ?_
  obtain ⟨g1, h⟩ := h
  refine s_if_ne d_M_readsSquare_61 rfl g1 (fun c => ?_) (fun c => ?_)
  · have h := h.1 c
    exact s_return d_M_readsSquare_72 rfl h
  · have h := h.2 c
    refine s_aload_n 0 d_M_readsSquare_64 rfl rfl ?_
    refine s_aload_n 0 d_M_readsSquare_65 rfl rfl ?_
    refine s_callV (as := []) (ci := 10) d_M_readsSquare_66 ok_M_endsGroup lk_M_488 io_M_endsGroup so_M_endsGroup (by decide) rfl rfl rfl (Nat.le_of_ble_eq_true rfl) rfl (sf_42 hF) (WM.mono h ?_)
    rintro _ σ2 ⟨v2, rfl, hp, h⟩
    obtain ⟨hF2, h⟩ := h
    show WP E m_M_readsSquare (d + 1) 69 [(0, aP 42)] [aI v2, aP 42] σ2 Q
    refine s_callV (as := [aI v2]) (ci := 10) d_M_readsSquare_69 ok_M_flattens lk_M_497 io_M_flattens so_M_flattens (by decide) rfl rfl rfl (Nat.le_of_ble_eq_true rfl) rfl (sf_42 hF2) (WM.mono h ?_)
    rintro _ σ3 ⟨rfl, hp, h⟩
    show WP E m_M_readsSquare (d + 1) 72 [(0, aP 42)] [] σ3 Q
    exact s_return d_M_readsSquare_72 rfl h
theorem d_M_opensGroup_0 : decode m_M_opensGroup.2.1 0 = .ok (.aload_n 0, 1) := by decide +kernel
theorem d_M_opensGroup_1 : decode m_M_opensGroup.2.1 1 = .ok (.getfield 155, 3) := by decide +kernel
theorem d_M_opensGroup_4 : decode m_M_opensGroup.2.1 4 = .ok (.aload_n 0, 1) := by decide +kernel
theorem d_M_opensGroup_5 : decode m_M_opensGroup.2.1 5 = .ok (.getfield 464, 3) := by decide +kernel
theorem d_M_opensGroup_8 : decode m_M_opensGroup.2.1 8 = .ok (.aload_n 0, 1) := by decide +kernel
theorem d_M_opensGroup_9 : decode m_M_opensGroup.2.1 9 = .ok (.iconst 2, 1) := by decide +kernel
theorem d_M_opensGroup_10 : decode m_M_opensGroup.2.1 10 = .ok (.invokevirtual 467, 3) := by decide +kernel
theorem d_M_opensGroup_13 : decode m_M_opensGroup.2.1 13 = .ok (.iastore, 1) := by decide +kernel
theorem d_M_opensGroup_14 : decode m_M_opensGroup.2.1 14 = .ok (.aload_n 0, 1) := by decide +kernel
theorem d_M_opensGroup_15 : decode m_M_opensGroup.2.1 15 = .ok (.getfield 158, 3) := by decide +kernel
theorem d_M_opensGroup_18 : decode m_M_opensGroup.2.1 18 = .ok (.aload_n 0, 1) := by decide +kernel
theorem d_M_opensGroup_19 : decode m_M_opensGroup.2.1 19 = .ok (.getfield 464, 3) := by decide +kernel
theorem d_M_opensGroup_22 : decode m_M_opensGroup.2.1 22 = .ok (.aload_n 0, 1) := by decide +kernel
theorem d_M_opensGroup_23 : decode m_M_opensGroup.2.1 23 = .ok (.iconst 1, 1) := by decide +kernel
theorem d_M_opensGroup_24 : decode m_M_opensGroup.2.1 24 = .ok (.invokevirtual 467, 3) := by decide +kernel
theorem d_M_opensGroup_27 : decode m_M_opensGroup.2.1 27 = .ok (.iastore, 1) := by decide +kernel
theorem d_M_opensGroup_28 : decode m_M_opensGroup.2.1 28 = .ok (.aload_n 0, 1) := by decide +kernel
theorem d_M_opensGroup_29 : decode m_M_opensGroup.2.1 29 = .ok (.getfield 161, 3) := by decide +kernel
theorem d_M_opensGroup_32 : decode m_M_opensGroup.2.1 32 = .ok (.aload_n 0, 1) := by decide +kernel
theorem d_M_opensGroup_33 : decode m_M_opensGroup.2.1 33 = .ok (.getfield 464, 3) := by decide +kernel
theorem d_M_opensGroup_36 : decode m_M_opensGroup.2.1 36 = .ok (.iload_n 1, 1) := by decide +kernel
theorem d_M_opensGroup_37 : decode m_M_opensGroup.2.1 37 = .ok (.iastore, 1) := by decide +kernel
theorem d_M_opensGroup_38 : decode m_M_opensGroup.2.1 38 = .ok (.return_, 1) := by decide +kernel
theorem b_M_opensGroup_0 {E : EV} {d : Nat} {Q : Option AV → St → Prop} {σ : St} (x1 : Int) (hF : Fix σ) (h : (WMi E m_M_node d [aP 42, aI 2] σ (fun v1 σ1 => Fix σ1 ∧ (0 ≤ (σ.1 42 70) ∧ (σ.1 42 70) < 8) ∧ (WMi E m_M_node d [aP 42, aI 1] (wr σ1 89 (σ.1 42 70) v1) (fun v3 σ3 => Fix σ3 ∧ (0 ≤ (σ1.1 42 70) ∧ (σ1.1 42 70) < 8) ∧ (0 ≤ (σ3.1 42 70) ∧ (σ3.1 42 70) < 8) ∧ Q none (wr (wr σ3 90 (σ1.1 42 70) v3) 91 (σ3.1 42 70) x1)))))) : WP E m_M_opensGroup (d + 1) 0 [(0, aP 42), (1, aI x1)] [] σ Q := by
  refine s_aload_n 0 d_M_opensGroup_0 rfl rfl ?_
  refine s_getF (v := 89) d_M_opensGroup_1 fl_M_155 rfl (sf_42 hF) (ff_74 hF) ?_
  refine s_aload_n 0 d_M_opensGroup_4 rfl rfl ?_
  refine s_getF (v := σ.1 42 70) d_M_opensGroup_5 fl_M_464 rfl (sf_42 hF) rfl ?_
  refine s_aload_n 0 d_M_opensGroup_8 rfl rfl ?_
  refine s_iconst d_M_opensGroup_9 ?_
  refine s_callV (as := [aI 2]) (ci := 10) d_M_opensGroup_10 ok_M_node lk_M_467 io_M_node so_M_node (by decide) rfl rfl rfl (Nat.le_of_ble_eq_true rfl) rfl (sf_42 hF) (WM.mono h ?_)
  rintro _ σ1 ⟨v1, rfl, hp, h⟩
  obtain ⟨hF1, h⟩ := h
  show WP E m_M_opensGroup (d + 1) 13 [(0, aP 42), (1, aI x1)] [aI v1, aI (σ.1 42 70), aP 89] σ1 Q
  obtain ⟨g2, h⟩ := h
  refine s_iastore d_M_opensGroup_13 ⟨_, sf_89 hF1, g2.1, g2.2, by have := g2.2; omega⟩ ?_
  refine s_aload_n 0 d_M_opensGroup_14 rfl rfl ?_
  refine s_getF (v := 90) d_M_opensGroup_15 fl_M_158 rfl (sf_42 (hF1.wa (a := 89) (by decide))) (ff_75 (hF1.wa (a := 89) (by decide))) ?_
  refine s_aload_n 0 d_M_opensGroup_18 rfl rfl ?_
  refine s_getF (v := σ1.1 42 70) d_M_opensGroup_19 fl_M_464 rfl (sf_42 (hF1.wa (a := 89) (by decide))) rfl ?_
  refine s_aload_n 0 d_M_opensGroup_22 rfl rfl ?_
  refine s_iconst d_M_opensGroup_23 ?_
  refine s_callV (as := [aI 1]) (ci := 10) d_M_opensGroup_24 ok_M_node lk_M_467 io_M_node so_M_node (by decide) rfl rfl rfl (Nat.le_of_ble_eq_true rfl) rfl (sf_42 (hF1.wa (a := 89) (by decide))) (WM.mono h ?_)
  rintro _ σ3 ⟨v3, rfl, hp, h⟩
  obtain ⟨hF3, h⟩ := h
  show WP E m_M_opensGroup (d + 1) 27 [(0, aP 42), (1, aI x1)] [aI v3, aI (σ1.1 42 70), aP 90] σ3 Q
  obtain ⟨g4, h⟩ := h
  refine s_iastore d_M_opensGroup_27 ⟨_, sf_90 hF3, g4.1, g4.2, by have := g4.2; omega⟩ ?_
  refine s_aload_n 0 d_M_opensGroup_28 rfl rfl ?_
  refine s_getF (v := 91) d_M_opensGroup_29 fl_M_161 rfl (sf_42 (hF3.wa (a := 90) (by decide))) (ff_76 (hF3.wa (a := 90) (by decide))) ?_
  refine s_aload_n 0 d_M_opensGroup_32 rfl rfl ?_
  refine s_getF (v := σ3.1 42 70) d_M_opensGroup_33 fl_M_464 rfl (sf_42 (hF3.wa (a := 90) (by decide))) rfl ?_
  refine s_iload_n 1 d_M_opensGroup_36 rfl rfl ?_
  obtain ⟨g5, h⟩ := h
  refine s_iastore d_M_opensGroup_37 ⟨_, sf_91 (hF3.wa (a := 90) (by decide)), g5.1, g5.2, by have := g5.2; omega⟩ ?_
  exact s_return d_M_opensGroup_38 rfl h
theorem e_M_opensGroup {E : EV} {d : Nat} {Q : Option AV → St → Prop} {σ : St} (x1 : Int) (hF : Fix σ) (h : (WMi E m_M_node d [aP 42, aI 2] σ (fun v1 σ1 => Fix σ1 ∧ (0 ≤ (σ.1 42 70) ∧ (σ.1 42 70) < 8) ∧ (WMi E m_M_node d [aP 42, aI 1] (wr σ1 89 (σ.1 42 70) v1) (fun v3 σ3 => Fix σ3 ∧ (0 ≤ (σ1.1 42 70) ∧ (σ1.1 42 70) < 8) ∧ (0 ≤ (σ3.1 42 70) ∧ (σ3.1 42 70) < 8) ∧ Q none (wr (wr σ3 90 (σ1.1 42 70) v3) 91 (σ3.1 42 70) x1)))))) : WM E m_M_opensGroup (d + 1) [aP 42, aI x1] σ Q := s_meth (by decide) (Nat.le_of_ble_eq_true rfl) rfl (b_M_opensGroup_0 x1 hF h)
theorem d_M_node_0 : decode m_M_node.2.1 0 = .ok (.aload_n 0, 1) := by decide +kernel
theorem d_M_node_1 : decode m_M_node.2.1 1 = .ok (.getfield 134, 3) := by decide +kernel
theorem d_M_node_4 : decode m_M_node.2.1 4 = .ok (.aload_n 0, 1) := by decide +kernel
theorem d_M_node_5 : decode m_M_node.2.1 5 = .ok (.getfield 461, 3) := by decide +kernel
theorem d_M_node_8 : decode m_M_node.2.1 8 = .ok (.iload_n 1, 1) := by decide +kernel
theorem d_M_node_9 : decode m_M_node.2.1 9 = .ok (.iastore, 1) := by decide +kernel
theorem d_M_node_10 : decode m_M_node.2.1 10 = .ok (.aload_n 0, 1) := by decide +kernel
theorem d_M_node_11 : decode m_M_node.2.1 11 = .ok (.getfield 140, 3) := by decide +kernel
theorem d_M_node_14 : decode m_M_node.2.1 14 = .ok (.aload_n 0, 1) := by decide +kernel
theorem d_M_node_15 : decode m_M_node.2.1 15 = .ok (.getfield 461, 3) := by decide +kernel
theorem d_M_node_18 : decode m_M_node.2.1 18 = .ok (.iconst (-1), 1) := by decide +kernel
theorem d_M_node_19 : decode m_M_node.2.1 19 = .ok (.iastore, 1) := by decide +kernel
theorem d_M_node_20 : decode m_M_node.2.1 20 = .ok (.aload_n 0, 1) := by decide +kernel
theorem d_M_node_21 : decode m_M_node.2.1 21 = .ok (.getfield 143, 3) := by decide +kernel
theorem d_M_node_24 : decode m_M_node.2.1 24 = .ok (.aload_n 0, 1) := by decide +kernel
theorem d_M_node_25 : decode m_M_node.2.1 25 = .ok (.getfield 461, 3) := by decide +kernel
theorem d_M_node_28 : decode m_M_node.2.1 28 = .ok (.iconst (-1), 1) := by decide +kernel
theorem d_M_node_29 : decode m_M_node.2.1 29 = .ok (.iastore, 1) := by decide +kernel
theorem d_M_node_30 : decode m_M_node.2.1 30 = .ok (.aload_n 0, 1) := by decide +kernel
theorem d_M_node_31 : decode m_M_node.2.1 31 = .ok (.getfield 146, 3) := by decide +kernel
theorem d_M_node_34 : decode m_M_node.2.1 34 = .ok (.aload_n 0, 1) := by decide +kernel
theorem d_M_node_35 : decode m_M_node.2.1 35 = .ok (.getfield 461, 3) := by decide +kernel
theorem d_M_node_38 : decode m_M_node.2.1 38 = .ok (.iconst (-1), 1) := by decide +kernel
theorem d_M_node_39 : decode m_M_node.2.1 39 = .ok (.iastore, 1) := by decide +kernel
theorem d_M_node_40 : decode m_M_node.2.1 40 = .ok (.aload_n 0, 1) := by decide +kernel
theorem d_M_node_41 : decode m_M_node.2.1 41 = .ok (.getfield 149, 3) := by decide +kernel
theorem d_M_node_44 : decode m_M_node.2.1 44 = .ok (.aload_n 0, 1) := by decide +kernel
theorem d_M_node_45 : decode m_M_node.2.1 45 = .ok (.getfield 461, 3) := by decide +kernel
theorem d_M_node_48 : decode m_M_node.2.1 48 = .ok (.iconst (-1), 1) := by decide +kernel
theorem d_M_node_49 : decode m_M_node.2.1 49 = .ok (.iastore, 1) := by decide +kernel
theorem d_M_node_50 : decode m_M_node.2.1 50 = .ok (.aload_n 0, 1) := by decide +kernel
theorem d_M_node_51 : decode m_M_node.2.1 51 = .ok (.getfield 152, 3) := by decide +kernel
theorem d_M_node_54 : decode m_M_node.2.1 54 = .ok (.aload_n 0, 1) := by decide +kernel
theorem d_M_node_55 : decode m_M_node.2.1 55 = .ok (.getfield 461, 3) := by decide +kernel
theorem d_M_node_58 : decode m_M_node.2.1 58 = .ok (.iconst 0, 1) := by decide +kernel
theorem d_M_node_59 : decode m_M_node.2.1 59 = .ok (.iastore, 1) := by decide +kernel
theorem d_M_node_60 : decode m_M_node.2.1 60 = .ok (.aload_n 0, 1) := by decide +kernel
theorem d_M_node_61 : decode m_M_node.2.1 61 = .ok (.dup, 1) := by decide +kernel
theorem d_M_node_62 : decode m_M_node.2.1 62 = .ok (.getfield 461, 3) := by decide +kernel
theorem d_M_node_65 : decode m_M_node.2.1 65 = .ok (.iconst 1, 1) := by decide +kernel
theorem d_M_node_66 : decode m_M_node.2.1 66 = .ok (.iadd, 1) := by decide +kernel
theorem d_M_node_67 : decode m_M_node.2.1 67 = .ok (.putfield 461, 3) := by decide +kernel
theorem d_M_node_70 : decode m_M_node.2.1 70 = .ok (.aload_n 0, 1) := by decide +kernel
theorem d_M_node_71 : decode m_M_node.2.1 71 = .ok (.getfield 461, 3) := by decide +kernel
theorem d_M_node_74 : decode m_M_node.2.1 74 = .ok (.iconst 1, 1) := by decide +kernel
theorem d_M_node_75 : decode m_M_node.2.1 75 = .ok (.isub, 1) := by decide +kernel
theorem d_M_node_76 : decode m_M_node.2.1 76 = .ok (.ireturn, 1) := by decide +kernel
theorem b_M_node_0 {E : EV} {d : Nat} {Q : Option AV → St → Prop} {σ : St} (x1 : Int) (hF : Fix σ) (h : (0 ≤ (σ.1 42 66) ∧ (σ.1 42 66) < 200) ∧ (0 ≤ (σ.1 42 66) ∧ (σ.1 42 66) < 200) ∧ (0 ≤ (σ.1 42 66) ∧ (σ.1 42 66) < 200) ∧ (0 ≤ (σ.1 42 66) ∧ (σ.1 42 66) < 200) ∧ (0 ≤ (σ.1 42 66) ∧ (σ.1 42 66) < 200) ∧ (0 ≤ (σ.1 42 66) ∧ (σ.1 42 66) < 200) ∧ Q (some (aI (((σ.1 42 66) + 1) - 1))) (wr (wr (wr (wr (wr (wr (wr σ 82 (σ.1 42 66) x1) 84 (σ.1 42 66) (-1)) 85 (σ.1 42 66) (-1)) 86 (σ.1 42 66) (-1)) 87 (σ.1 42 66) (-1)) 88 (σ.1 42 66) 0) 42 66 ((σ.1 42 66) + 1))) : WP E m_M_node d 0 [(0, aP 42), (1, aI x1)] [] σ Q := by
  refine s_aload_n 0 d_M_node_0 rfl rfl ?_
  refine s_getF (v := 82) d_M_node_1 fl_M_134 rfl (sf_42 hF) (ff_67 hF) ?_
  refine s_aload_n 0 d_M_node_4 rfl rfl ?_
  refine s_getF (v := σ.1 42 66) d_M_node_5 fl_M_461 rfl (sf_42 hF) rfl ?_
  refine s_iload_n 1 d_M_node_8 rfl rfl ?_
  obtain ⟨g1, h⟩ := h
  refine s_iastore d_M_node_9 ⟨_, sf_82 hF, g1.1, g1.2, by have := g1.2; omega⟩ ?_
  refine s_aload_n 0 d_M_node_10 rfl rfl ?_
  refine s_getF (v := 84) d_M_node_11 fl_M_140 rfl (sf_42 (hF.wa (a := 82) (by decide))) (ff_69 (hF.wa (a := 82) (by decide))) ?_
  refine s_aload_n 0 d_M_node_14 rfl rfl ?_
  refine s_getF (v := σ.1 42 66) d_M_node_15 fl_M_461 rfl (sf_42 (hF.wa (a := 82) (by decide))) rfl ?_
  refine s_iconst d_M_node_18 ?_
  obtain ⟨g2, h⟩ := h
  refine s_iastore d_M_node_19 ⟨_, sf_84 (hF.wa (a := 82) (by decide)), g2.1, g2.2, by have := g2.2; omega⟩ ?_
  refine s_aload_n 0 d_M_node_20 rfl rfl ?_
  refine s_getF (v := 85) d_M_node_21 fl_M_143 rfl (sf_42 ((hF.wa (a := 82) (by decide)).wa (a := 84) (by decide))) (ff_70 ((hF.wa (a := 82) (by decide)).wa (a := 84) (by decide))) ?_
  refine s_aload_n 0 d_M_node_24 rfl rfl ?_
  refine s_getF (v := σ.1 42 66) d_M_node_25 fl_M_461 rfl (sf_42 ((hF.wa (a := 82) (by decide)).wa (a := 84) (by decide))) rfl ?_
  refine s_iconst d_M_node_28 ?_
  obtain ⟨g3, h⟩ := h
  refine s_iastore d_M_node_29 ⟨_, sf_85 ((hF.wa (a := 82) (by decide)).wa (a := 84) (by decide)), g3.1, g3.2, by have := g3.2; omega⟩ ?_
  refine s_aload_n 0 d_M_node_30 rfl rfl ?_
  refine s_getF (v := 86) d_M_node_31 fl_M_146 rfl (sf_42 (((hF.wa (a := 82) (by decide)).wa (a := 84) (by decide)).wa (a := 85) (by decide))) (ff_71 (((hF.wa (a := 82) (by decide)).wa (a := 84) (by decide)).wa (a := 85) (by decide))) ?_
  refine s_aload_n 0 d_M_node_34 rfl rfl ?_
  refine s_getF (v := σ.1 42 66) d_M_node_35 fl_M_461 rfl (sf_42 (((hF.wa (a := 82) (by decide)).wa (a := 84) (by decide)).wa (a := 85) (by decide))) rfl ?_
  refine s_iconst d_M_node_38 ?_
  obtain ⟨g4, h⟩ := h
  refine s_iastore d_M_node_39 ⟨_, sf_86 (((hF.wa (a := 82) (by decide)).wa (a := 84) (by decide)).wa (a := 85) (by decide)), g4.1, g4.2, by have := g4.2; omega⟩ ?_
  refine s_aload_n 0 d_M_node_40 rfl rfl ?_
  refine s_getF (v := 87) d_M_node_41 fl_M_149 rfl (sf_42 ((((hF.wa (a := 82) (by decide)).wa (a := 84) (by decide)).wa (a := 85) (by decide)).wa (a := 86) (by decide))) (ff_72 ((((hF.wa (a := 82) (by decide)).wa (a := 84) (by decide)).wa (a := 85) (by decide)).wa (a := 86) (by decide))) ?_
  refine s_aload_n 0 d_M_node_44 rfl rfl ?_
  refine s_getF (v := σ.1 42 66) d_M_node_45 fl_M_461 rfl (sf_42 ((((hF.wa (a := 82) (by decide)).wa (a := 84) (by decide)).wa (a := 85) (by decide)).wa (a := 86) (by decide))) rfl ?_
  refine s_iconst d_M_node_48 ?_
  obtain ⟨g5, h⟩ := h
  refine s_iastore d_M_node_49 ⟨_, sf_87 ((((hF.wa (a := 82) (by decide)).wa (a := 84) (by decide)).wa (a := 85) (by decide)).wa (a := 86) (by decide)), g5.1, g5.2, by have := g5.2; omega⟩ ?_
  refine s_aload_n 0 d_M_node_50 rfl rfl ?_
  refine s_getF (v := 88) d_M_node_51 fl_M_152 rfl (sf_42 (((((hF.wa (a := 82) (by decide)).wa (a := 84) (by decide)).wa (a := 85) (by decide)).wa (a := 86) (by decide)).wa (a := 87) (by decide))) (ff_73 (((((hF.wa (a := 82) (by decide)).wa (a := 84) (by decide)).wa (a := 85) (by decide)).wa (a := 86) (by decide)).wa (a := 87) (by decide))) ?_
  refine s_aload_n 0 d_M_node_54 rfl rfl ?_
  refine s_getF (v := σ.1 42 66) d_M_node_55 fl_M_461 rfl (sf_42 (((((hF.wa (a := 82) (by decide)).wa (a := 84) (by decide)).wa (a := 85) (by decide)).wa (a := 86) (by decide)).wa (a := 87) (by decide))) rfl ?_
  refine s_iconst d_M_node_58 ?_
  obtain ⟨g6, h⟩ := h
  refine s_iastore d_M_node_59 ⟨_, sf_88 (((((hF.wa (a := 82) (by decide)).wa (a := 84) (by decide)).wa (a := 85) (by decide)).wa (a := 86) (by decide)).wa (a := 87) (by decide)), g6.1, g6.2, by have := g6.2; omega⟩ ?_
  refine s_aload_n 0 d_M_node_60 rfl rfl ?_
  refine s_dup d_M_node_61 (Nat.ne_of_beq_eq_false rfl) ?_
  refine s_getF (v := σ.1 42 66) d_M_node_62 fl_M_461 rfl (sf_42 ((((((hF.wa (a := 82) (by decide)).wa (a := 84) (by decide)).wa (a := 85) (by decide)).wa (a := 86) (by decide)).wa (a := 87) (by decide)).wa (a := 88) (by decide))) rfl ?_
  refine s_iconst d_M_node_65 ?_
  refine s_iadd d_M_node_66 ?_
  refine s_putf 66 rfl d_M_node_67 fl_M_461 (fun C T h => by cases h; exact Or.inl rfl) rfl (Or.inl rfl) (fun h => nomatch h) (sf_42 ((((((hF.wa (a := 82) (by decide)).wa (a := 84) (by decide)).wa (a := 85) (by decide)).wa (a := 86) (by decide)).wa (a := 87) (by decide)).wa (a := 88) (by decide))) ?_
  refine s_aload_n 0 d_M_node_70 rfl rfl ?_
  refine s_getF (v := (σ.1 42 66) + 1) d_M_node_71 fl_M_461 rfl (sf_42 (((((((hF.wa (a := 82) (by decide)).wa (a := 84) (by decide)).wa (a := 85) (by decide)).wa (a := 86) (by decide)).wa (a := 87) (by decide)).wa (a := 88) (by decide)).wf (a := 42) (k := 66) (by decide))) rfl ?_
  refine s_iconst d_M_node_74 ?_
  refine s_isub d_M_node_75 ?_
  exact s_ireturn d_M_node_76 rfl h
theorem e_M_node {E : EV} {d : Nat} {Q : Option AV → St → Prop} {σ : St} (x1 : Int) (hF : Fix σ) (h : (0 ≤ (σ.1 42 66) ∧ (σ.1 42 66) < 200) ∧ (0 ≤ (σ.1 42 66) ∧ (σ.1 42 66) < 200) ∧ (0 ≤ (σ.1 42 66) ∧ (σ.1 42 66) < 200) ∧ (0 ≤ (σ.1 42 66) ∧ (σ.1 42 66) < 200) ∧ (0 ≤ (σ.1 42 66) ∧ (σ.1 42 66) < 200) ∧ (0 ≤ (σ.1 42 66) ∧ (σ.1 42 66) < 200) ∧ Q (some (aI (((σ.1 42 66) + 1) - 1))) (wr (wr (wr (wr (wr (wr (wr σ 82 (σ.1 42 66) x1) 84 (σ.1 42 66) (-1)) 85 (σ.1 42 66) (-1)) 86 (σ.1 42 66) (-1)) 87 (σ.1 42 66) (-1)) 88 (σ.1 42 66) 0) 42 66 ((σ.1 42 66) + 1))) : WM E m_M_node d [aP 42, aI x1] σ Q := s_meth (by decide) (Nat.le_of_ble_eq_true rfl) rfl (b_M_node_0 x1 hF h)
theorem d_M_beginsPart_0 : decode m_M_beginsPart.2.1 0 = .ok (.aload_n 0, 1) := by decide +kernel
theorem d_M_beginsPart_1 : decode m_M_beginsPart.2.1 1 = .ok (.bipush 40, 2) := by decide +kernel
theorem d_M_beginsPart_3 : decode m_M_beginsPart.2.1 3 = .ok (.invokevirtual 443, 3) := by decide +kernel
theorem d_M_beginsPart_6 : decode m_M_beginsPart.2.1 6 = .ok (.ifCond .eq 33, 3) := by decide +kernel
theorem d_M_beginsPart_9 : decode m_M_beginsPart.2.1 9 = .ok (.aload_n 0, 1) := by decide +kernel
theorem d_M_beginsPart_10 : decode m_M_beginsPart.2.1 10 = .ok (.getfield 464, 3) := by decide +kernel
theorem d_M_beginsPart_13 : decode m_M_beginsPart.2.1 13 = .ok (.bipush 6, 2) := by decide +kernel
theorem d_M_beginsPart_15 : decode m_M_beginsPart.2.1 15 = .ok (.if_icmp .ge 24, 3) := by decide +kernel
theorem d_M_beginsPart_18 : decode m_M_beginsPart.2.1 18 = .ok (.aload_n 0, 1) := by decide +kernel
theorem d_M_beginsPart_19 : decode m_M_beginsPart.2.1 19 = .ok (.dup, 1) := by decide +kernel
theorem d_M_beginsPart_20 : decode m_M_beginsPart.2.1 20 = .ok (.getfield 464, 3) := by decide +kernel
theorem d_M_beginsPart_23 : decode m_M_beginsPart.2.1 23 = .ok (.iconst 1, 1) := by decide +kernel
theorem d_M_beginsPart_24 : decode m_M_beginsPart.2.1 24 = .ok (.iadd, 1) := by decide +kernel
theorem d_M_beginsPart_25 : decode m_M_beginsPart.2.1 25 = .ok (.putfield 464, 3) := by decide +kernel
theorem d_M_beginsPart_28 : decode m_M_beginsPart.2.1 28 = .ok (.aload_n 0, 1) := by decide +kernel
theorem d_M_beginsPart_29 : decode m_M_beginsPart.2.1 29 = .ok (.iconst (-1), 1) := by decide +kernel
theorem d_M_beginsPart_30 : decode m_M_beginsPart.2.1 30 = .ok (.invokevirtual 479, 3) := by decide +kernel
theorem d_M_beginsPart_33 : decode m_M_beginsPart.2.1 33 = .ok (.aload_n 0, 1) := by decide +kernel
theorem d_M_beginsPart_34 : decode m_M_beginsPart.2.1 34 = .ok (.invokevirtual 440, 3) := by decide +kernel
theorem d_M_beginsPart_37 : decode m_M_beginsPart.2.1 37 = .ok (.iconst (-1), 1) := by decide +kernel
theorem d_M_beginsPart_38 : decode m_M_beginsPart.2.1 38 = .ok (.ireturn, 1) := by decide +kernel
theorem d_M_beginsPart_39 : decode m_M_beginsPart.2.1 39 = .ok (.aload_n 0, 1) := by decide +kernel
theorem d_M_beginsPart_40 : decode m_M_beginsPart.2.1 40 = .ok (.invokevirtual 446, 3) := by decide +kernel
theorem d_M_beginsPart_43 : decode m_M_beginsPart.2.1 43 = .ok (.istore_n 1, 1) := by decide +kernel
theorem d_M_beginsPart_44 : decode m_M_beginsPart.2.1 44 = .ok (.iload_n 1, 1) := by decide +kernel
theorem d_M_beginsPart_45 : decode m_M_beginsPart.2.1 45 = .ok (.iconst (-1), 1) := by decide +kernel
theorem d_M_beginsPart_46 : decode m_M_beginsPart.2.1 46 = .ok (.if_icmp .eq 21, 3) := by decide +kernel
theorem d_M_beginsPart_49 : decode m_M_beginsPart.2.1 49 = .ok (.aload_n 0, 1) := by decide +kernel
theorem d_M_beginsPart_50 : decode m_M_beginsPart.2.1 50 = .ok (.getfield 122, 3) := by decide +kernel
theorem d_M_beginsPart_53 : decode m_M_beginsPart.2.1 53 = .ok (.iload_n 1, 1) := by decide +kernel
theorem d_M_beginsPart_54 : decode m_M_beginsPart.2.1 54 = .ok (.iaload, 1) := by decide +kernel
theorem d_M_beginsPart_55 : decode m_M_beginsPart.2.1 55 = .ok (.ifCond .eq 12, 3) := by decide +kernel
theorem d_M_beginsPart_58 : decode m_M_beginsPart.2.1 58 = .ok (.aload_n 0, 1) := by decide +kernel
theorem d_M_beginsPart_59 : decode m_M_beginsPart.2.1 59 = .ok (.getfield 482, 3) := by decide +kernel
theorem d_M_beginsPart_62 : decode m_M_beginsPart.2.1 62 = .ok (.bipush 10, 2) := by decide +kernel
theorem d_M_beginsPart_64 : decode m_M_beginsPart.2.1 64 = .ok (.if_icmp .ne 10, 3) := by decide +kernel
theorem d_M_beginsPart_67 : decode m_M_beginsPart.2.1 67 = .ok (.aload_n 0, 1) := by decide +kernel
theorem d_M_beginsPart_68 : decode m_M_beginsPart.2.1 68 = .ok (.iconst 1, 1) := by decide +kernel
theorem d_M_beginsPart_69 : decode m_M_beginsPart.2.1 69 = .ok (.putfield 436, 3) := by decide +kernel
theorem d_M_beginsPart_72 : decode m_M_beginsPart.2.1 72 = .ok (.iconst (-1), 1) := by decide +kernel
theorem d_M_beginsPart_73 : decode m_M_beginsPart.2.1 73 = .ok (.ireturn, 1) := by decide +kernel
theorem d_M_beginsPart_74 : decode m_M_beginsPart.2.1 74 = .ok (.aload_n 0, 1) := by decide +kernel
theorem d_M_beginsPart_75 : decode m_M_beginsPart.2.1 75 = .ok (.iconst 0, 1) := by decide +kernel
theorem d_M_beginsPart_76 : decode m_M_beginsPart.2.1 76 = .ok (.invokevirtual 467, 3) := by decide +kernel
theorem d_M_beginsPart_79 : decode m_M_beginsPart.2.1 79 = .ok (.istore_n 2, 1) := by decide +kernel
theorem d_M_beginsPart_80 : decode m_M_beginsPart.2.1 80 = .ok (.aload_n 0, 1) := by decide +kernel
theorem d_M_beginsPart_81 : decode m_M_beginsPart.2.1 81 = .ok (.getfield 137, 3) := by decide +kernel
theorem d_M_beginsPart_84 : decode m_M_beginsPart.2.1 84 = .ok (.iload_n 2, 1) := by decide +kernel
theorem d_M_beginsPart_85 : decode m_M_beginsPart.2.1 85 = .ok (.iload_n 1, 1) := by decide +kernel
theorem d_M_beginsPart_86 : decode m_M_beginsPart.2.1 86 = .ok (.iastore, 1) := by decide +kernel
theorem d_M_beginsPart_87 : decode m_M_beginsPart.2.1 87 = .ok (.aload_n 0, 1) := by decide +kernel
theorem d_M_beginsPart_88 : decode m_M_beginsPart.2.1 88 = .ok (.dup, 1) := by decide +kernel
theorem d_M_beginsPart_89 : decode m_M_beginsPart.2.1 89 = .ok (.getfield 482, 3) := by decide +kernel
theorem d_M_beginsPart_92 : decode m_M_beginsPart.2.1 92 = .ok (.iconst 1, 1) := by decide +kernel
theorem d_M_beginsPart_93 : decode m_M_beginsPart.2.1 93 = .ok (.iadd, 1) := by decide +kernel
theorem d_M_beginsPart_94 : decode m_M_beginsPart.2.1 94 = .ok (.putfield 482, 3) := by decide +kernel
theorem d_M_beginsPart_97 : decode m_M_beginsPart.2.1 97 = .ok (.aload_n 0, 1) := by decide +kernel
theorem d_M_beginsPart_98 : decode m_M_beginsPart.2.1 98 = .ok (.invokevirtual 440, 3) := by decide +kernel
theorem d_M_beginsPart_101 : decode m_M_beginsPart.2.1 101 = .ok (.aload_n 0, 1) := by decide +kernel
theorem d_M_beginsPart_102 : decode m_M_beginsPart.2.1 102 = .ok (.bipush 60, 2) := by decide +kernel
theorem d_M_beginsPart_104 : decode m_M_beginsPart.2.1 104 = .ok (.invokevirtual 443, 3) := by decide +kernel
theorem d_M_beginsPart_107 : decode m_M_beginsPart.2.1 107 = .ok (.ifCond .ne 5, 3) := by decide +kernel
theorem d_M_beginsPart_110 : decode m_M_beginsPart.2.1 110 = .ok (.iload_n 2, 1) := by decide +kernel
theorem d_M_beginsPart_111 : decode m_M_beginsPart.2.1 111 = .ok (.ireturn, 1) := by decide +kernel
theorem d_M_beginsPart_112 : decode m_M_beginsPart.2.1 112 = .ok (.aload_n 0, 1) := by decide +kernel
theorem d_M_beginsPart_113 : decode m_M_beginsPart.2.1 113 = .ok (.getfield 128, 3) := by decide +kernel
theorem d_M_beginsPart_116 : decode m_M_beginsPart.2.1 116 = .ok (.iload_n 1, 1) := by decide +kernel
theorem d_M_beginsPart_117 : decode m_M_beginsPart.2.1 117 = .ok (.iaload, 1) := by decide +kernel
theorem d_M_beginsPart_118 : decode m_M_beginsPart.2.1 118 = .ok (.ifCond .eq 20, 3) := by decide +kernel
theorem d_M_beginsPart_121 : decode m_M_beginsPart.2.1 121 = .ok (.aload_n 0, 1) := by decide +kernel
theorem d_M_beginsPart_122 : decode m_M_beginsPart.2.1 122 = .ok (.getfield 464, 3) := by decide +kernel
theorem d_M_beginsPart_125 : decode m_M_beginsPart.2.1 125 = .ok (.bipush 6, 2) := by decide +kernel
theorem d_M_beginsPart_127 : decode m_M_beginsPart.2.1 127 = .ok (.if_icmp .eq 11, 3) := by decide +kernel
theorem d_M_beginsPart_130 : decode m_M_beginsPart.2.1 130 = .ok (.aload_n 0, 1) := by decide +kernel
theorem d_M_beginsPart_131 : decode m_M_beginsPart.2.1 131 = .ok (.getfield 485, 3) := by decide +kernel
theorem d_M_beginsPart_134 : decode m_M_beginsPart.2.1 134 = .ok (.iconst 3, 1) := by decide +kernel
theorem d_M_beginsPart_135 : decode m_M_beginsPart.2.1 135 = .ok (.if_icmp .ne 10, 3) := by decide +kernel
theorem d_M_beginsPart_138 : decode m_M_beginsPart.2.1 138 = .ok (.aload_n 0, 1) := by decide +kernel
theorem d_M_beginsPart_139 : decode m_M_beginsPart.2.1 139 = .ok (.iconst 1, 1) := by decide +kernel
theorem d_M_beginsPart_140 : decode m_M_beginsPart.2.1 140 = .ok (.putfield 436, 3) := by decide +kernel
theorem d_M_beginsPart_143 : decode m_M_beginsPart.2.1 143 = .ok (.iconst (-1), 1) := by decide +kernel
theorem d_M_beginsPart_144 : decode m_M_beginsPart.2.1 144 = .ok (.ireturn, 1) := by decide +kernel
theorem d_M_beginsPart_145 : decode m_M_beginsPart.2.1 145 = .ok (.aload_n 0, 1) := by decide +kernel
theorem d_M_beginsPart_146 : decode m_M_beginsPart.2.1 146 = .ok (.dup, 1) := by decide +kernel
theorem d_M_beginsPart_147 : decode m_M_beginsPart.2.1 147 = .ok (.getfield 464, 3) := by decide +kernel
theorem d_M_beginsPart_150 : decode m_M_beginsPart.2.1 150 = .ok (.iconst 1, 1) := by decide +kernel
theorem d_M_beginsPart_151 : decode m_M_beginsPart.2.1 151 = .ok (.iadd, 1) := by decide +kernel
theorem d_M_beginsPart_152 : decode m_M_beginsPart.2.1 152 = .ok (.putfield 464, 3) := by decide +kernel
theorem d_M_beginsPart_155 : decode m_M_beginsPart.2.1 155 = .ok (.aload_n 0, 1) := by decide +kernel
theorem d_M_beginsPart_156 : decode m_M_beginsPart.2.1 156 = .ok (.dup, 1) := by decide +kernel
theorem d_M_beginsPart_157 : decode m_M_beginsPart.2.1 157 = .ok (.getfield 485, 3) := by decide +kernel
theorem d_M_beginsPart_160 : decode m_M_beginsPart.2.1 160 = .ok (.iconst 1, 1) := by decide +kernel
theorem d_M_beginsPart_161 : decode m_M_beginsPart.2.1 161 = .ok (.iadd, 1) := by decide +kernel
theorem d_M_beginsPart_162 : decode m_M_beginsPart.2.1 162 = .ok (.putfield 485, 3) := by decide +kernel
theorem d_M_beginsPart_165 : decode m_M_beginsPart.2.1 165 = .ok (.aload_n 0, 1) := by decide +kernel
theorem d_M_beginsPart_166 : decode m_M_beginsPart.2.1 166 = .ok (.iload_n 2, 1) := by decide +kernel
theorem d_M_beginsPart_167 : decode m_M_beginsPart.2.1 167 = .ok (.invokevirtual 479, 3) := by decide +kernel
theorem d_M_beginsPart_170 : decode m_M_beginsPart.2.1 170 = .ok (.aload_n 0, 1) := by decide +kernel
theorem d_M_beginsPart_171 : decode m_M_beginsPart.2.1 171 = .ok (.invokevirtual 440, 3) := by decide +kernel
theorem d_M_beginsPart_174 : decode m_M_beginsPart.2.1 174 = .ok (.iconst (-1), 1) := by decide +kernel
theorem d_M_beginsPart_175 : decode m_M_beginsPart.2.1 175 = .ok (.ireturn, 1) := by decide +kernel
theorem b_M_beginsPart_0 {E : EV} {d : Nat} {Q : Option AV → St → Prop} {σ : St} (hF : Fix σ) (h : (WMi E m_M_isMark d [aP 42, aI 40] σ (fun v1 σ1 => Fix σ1 ∧ (rI v1) ∧ ((v1 = 0 → WP E m_M_beginsPart (d + 1) 39 [(0, aP 42)] [] σ1 Q) ∧ (¬ v1 = 0 → (rI (σ1.1 42 70)) ∧ ((6 ≤ (σ1.1 42 70) → WP E m_M_beginsPart (d + 1) 39 [(0, aP 42)] [] σ1 Q) ∧ (¬ 6 ≤ (σ1.1 42 70) → (WMv E m_M_opensGroup d [aP 42, aI (-1)] (wr σ1 42 70 ((σ1.1 42 70) + 1)) (fun σ4 => Fix σ4 ∧ (WMv E m_M_goesOn d [aP 42] σ4 (fun σ5 => Q (some (aI (-1))) σ5))))))))))) : WP E m_M_beginsPart (d + 1) 0 [(0, aP 42)] [] σ Q := by
  refine s_aload_n 0 d_M_beginsPart_0 rfl rfl ?_
  refine s_bipush d_M_beginsPart_1 (by decide) ?_
  refine s_callV (as := [aI 40]) (ci := 10) d_M_beginsPart_3 ok_M_isMark lk_M_443 io_M_isMark so_M_isMark (by decide) rfl rfl rfl (Nat.le_of_ble_eq_true rfl) rfl (sf_42 hF) (WM.mono h ?_)
  rintro _ σ1 ⟨v1, rfl, hp, h⟩
  obtain ⟨hF1, h⟩ := h
  show WP E m_M_beginsPart (d + 1) 6 [(0, aP 42)] [aI v1] σ1 Q
  obtain ⟨g2, h⟩ := h
  refine s_if_eq d_M_beginsPart_6 rfl g2 (fun c => ?_) (fun c => ?_)
  · have h := h.1 c
    exact h
  · have h := h.2 c
    refine s_aload_n 0 d_M_beginsPart_9 rfl rfl ?_
    refine s_getF (v := σ1.1 42 70) d_M_beginsPart_10 fl_M_464 rfl (sf_42 hF1) rfl ?_
    refine s_bipush d_M_beginsPart_13 (by decide) ?_
    obtain ⟨g3, h⟩ := h
    refine s_icmp_ge d_M_beginsPart_15 rfl g3 (by decide) (fun c => ?_) (fun c => ?_)
    · have h := h.1 c
      exact h
    · have h := h.2 c
      refine s_aload_n 0 d_M_beginsPart_18 rfl rfl ?_
      refine s_dup d_M_beginsPart_19 (Nat.ne_of_beq_eq_false rfl) ?_
      refine s_getF (v := σ1.1 42 70) d_M_beginsPart_20 fl_M_464 rfl (sf_42 hF1) rfl ?_
      refine s_iconst d_M_beginsPart_23 ?_
      refine s_iadd d_M_beginsPart_24 ?_
      refine s_putf 70 rfl d_M_beginsPart_25 fl_M_464 (fun C T h => by cases h; exact Or.inl rfl) rfl (Or.inl rfl) (fun h => nomatch h) (sf_42 hF1) ?_
      refine s_aload_n 0 d_M_beginsPart_28 rfl rfl ?_
      refine s_iconst d_M_beginsPart_29 ?_
      refine s_callV (as := [aI (-1)]) (ci := 10) d_M_beginsPart_30 ok_M_opensGroup lk_M_479 io_M_opensGroup so_M_opensGroup (by decide) rfl rfl rfl (Nat.le_of_ble_eq_true rfl) rfl (sf_42 (hF1.wf (a := 42) (k := 70) (by decide))) (WM.mono h ?_)
      rintro _ σ4 ⟨rfl, hp, h⟩
      obtain ⟨hF4, h⟩ := h
      show WP E m_M_beginsPart (d + 1) 33 [(0, aP 42)] [] σ4 Q
      refine s_aload_n 0 d_M_beginsPart_33 rfl rfl ?_
      refine s_callV (as := []) (ci := 10) d_M_beginsPart_34 ok_M_goesOn lk_M_440 io_M_goesOn so_M_goesOn (by decide) rfl rfl rfl (Nat.le_of_ble_eq_true rfl) rfl (sf_42 hF4) (WM.mono h ?_)
      rintro _ σ5 ⟨rfl, hp, h⟩
      show WP E m_M_beginsPart (d + 1) 37 [(0, aP 42)] [] σ5 Q
      refine s_iconst d_M_beginsPart_37 ?_
      exact s_ireturn d_M_beginsPart_38 rfl h
theorem e_M_beginsPart {E : EV} {d : Nat} {Q : Option AV → St → Prop} {σ : St} (hF : Fix σ) (h : (WMi E m_M_isMark d [aP 42, aI 40] σ (fun v1 σ1 => Fix σ1 ∧ (rI v1) ∧ ((v1 = 0 → WP E m_M_beginsPart (d + 1) 39 [(0, aP 42)] [] σ1 Q) ∧ (¬ v1 = 0 → (rI (σ1.1 42 70)) ∧ ((6 ≤ (σ1.1 42 70) → WP E m_M_beginsPart (d + 1) 39 [(0, aP 42)] [] σ1 Q) ∧ (¬ 6 ≤ (σ1.1 42 70) → (WMv E m_M_opensGroup d [aP 42, aI (-1)] (wr σ1 42 70 ((σ1.1 42 70) + 1)) (fun σ4 => Fix σ4 ∧ (WMv E m_M_goesOn d [aP 42] σ4 (fun σ5 => Q (some (aI (-1))) σ5))))))))))) : WM E m_M_beginsPart (d + 1) [aP 42] σ Q := s_meth (by decide) (Nat.le_of_ble_eq_true rfl) rfl (b_M_beginsPart_0 hF h)
theorem b_M_beginsPart_39 {E : EV} {d : Nat} {Q : Option AV → St → Prop} {σ : St} (hF : Fix σ) (h : (WMi E m_M_letterHere d [aP 42] σ (fun v1 σ1 => Fix σ1 ∧ (rI v1) ∧ ((v1 = (-1) → WP E m_M_beginsPart (d + 1) 67 [(0, aP 42)] [] σ1 Q) ∧ (¬ v1 = (-1) → (0 ≤ v1 ∧ v1 < 26) ∧ (rI (σ1.1 78 v1)) ∧ (((σ1.1 78 v1) = 0 → WP E m_M_beginsPart (d + 1) 67 [(0, aP 42)] [] σ1 Q) ∧ (¬ (σ1.1 78 v1) = 0 → (rI (σ1.1 42 72)) ∧ ((¬ (σ1.1 42 72) = 10 → (WMi E m_M_node d [aP 42, aI 0] σ1 (fun v6 σ6 => Fix σ6 ∧ (0 ≤ v6 ∧ v6 < 200) ∧ (WMv E m_M_goesOn d [aP 42] (wr (wr σ6 83 v6 v1) 42 72 ((σ6.1 42 72) + 1)) (fun σ8 => Fix σ8 ∧ (WMi E m_M_isMark d [aP 42, aI 60] σ8 (fun v9 σ9 => Fix σ9 ∧ (rI v9) ∧ ((¬ v9 = 0 → (0 ≤ v1 ∧ v1 < 26) ∧ (rI (σ9.1 80 v1)) ∧ (((σ9.1 80 v1) = 0 → WP E m_M_beginsPart (d + 1) 138 [(0, aP 42)] [] σ9 Q) ∧ (¬ (σ9.1 80 v1) = 0 → (rI (σ9.1 42 70)) ∧ (((σ9.1 42 70) = 6 → WP E m_M_beginsPart (d + 1) 138 [(0, aP 42)] [] σ9 Q) ∧ (¬ (σ9.1 42 70) = 6 → (rI (σ9.1 42 71)) ∧ ((¬ (σ9.1 42 71) = 3 → (WMv E m_M_opensGroup d [aP 42, aI v6] (wr (wr σ9 42 70 ((σ9.1 42 70) + 1)) 42 71 ((σ9.1 42 71) + 1)) (fun σ15 => Fix σ15 ∧ (WMv E m_M_goesOn d [aP 42] σ15 (fun σ16 => Q (some (aI (-1))) σ16))))) ∧ ((σ9.1 42 71) = 3 → WP E m_M_beginsPart (d + 1) 138 [(0, aP 42)] [] σ9 Q))))))) ∧ (v9 = 0 → Q (some (aI v6)) σ9))))))))) ∧ ((σ1.1 42 72) = 10 → WP E m_M_beginsPart (d + 1) 67 [(0, aP 42)] [] σ1 Q))))))))) : WP E m_M_beginsPart (d + 1) 39 [(0, aP 42)] [] σ Q := by
  refine s_aload_n 0 d_M_beginsPart_39 rfl rfl ?_
  refine s_callV (as := []) (ci := 10) d_M_beginsPart_40 ok_M_letterHere lk_M_446 io_M_letterHere so_M_letterHere (by decide) rfl rfl rfl (Nat.le_of_ble_eq_true rfl) rfl (sf_42 hF) (WM.mono h ?_)
  rintro _ σ1 ⟨v1, rfl, hp, h⟩
  obtain ⟨hF1, h⟩ := h
  show WP E m_M_beginsPart (d + 1) 43 [(0, aP 42)] [aI v1] σ1 Q
  refine s_istore_n d_M_beginsPart_43 rfl (by decide) rfl ?_
  refine s_iload_n 0 d_M_beginsPart_44 rfl rfl ?_
  refine s_iconst d_M_beginsPart_45 ?_
  obtain ⟨g2, h⟩ := h
  refine s_icmp_eq d_M_beginsPart_46 rfl g2 (by decide) (fun c => ?_) (fun c => ?_)
  · have h := h.1 c
    refine wp_drop [1] rfl ?_
    exact h
  · have h := h.2 c
    refine s_aload_n 1 d_M_beginsPart_49 rfl rfl ?_
    refine s_getF (v := 78) d_M_beginsPart_50 fl_M_122 rfl (sf_42 hF1) (ff_63 hF1) ?_
    refine s_iload_n 0 d_M_beginsPart_53 rfl rfl ?_
    obtain ⟨g3, h⟩ := h
    refine s_ialoadv (v := σ1.1 78 v1) d_M_beginsPart_54 ⟨_, sf_78 hF1, g3.1, g3.2, by have := g3.2; omega⟩ rfl ?_
    obtain ⟨g4, h⟩ := h
    refine s_if_eq d_M_beginsPart_55 rfl g4 (fun c => ?_) (fun c => ?_)
    · have h := h.1 c
      refine wp_drop [1] rfl ?_
      exact h
    · have h := h.2 c
      refine s_aload_n 1 d_M_beginsPart_58 rfl rfl ?_
      refine s_getF (v := σ1.1 42 72) d_M_beginsPart_59 fl_M_482 rfl (sf_42 hF1) rfl ?_
      refine s_bipush d_M_beginsPart_62 (by decide) ?_
      obtain ⟨g5, h⟩ := h
      refine s_icmp_ne d_M_beginsPart_64 rfl g5 (by decide) (fun c => ?_) (fun c => ?_)
      · have h := h.1 c
        refine s_aload_n 1 d_M_beginsPart_74 rfl rfl ?_
        refine s_iconst d_M_beginsPart_75 ?_
        refine s_callV (as := [aI 0]) (ci := 10) d_M_beginsPart_76 ok_M_node lk_M_467 io_M_node so_M_node (by decide) rfl rfl rfl (Nat.le_of_ble_eq_true rfl) rfl (sf_42 hF1) (WM.mono h ?_)
        rintro _ σ6 ⟨v6, rfl, hp, h⟩
        obtain ⟨hF6, h⟩ := h
        show WP E m_M_beginsPart (d + 1) 79 [(1, aI v1), (0, aP 42)] [aI v6] σ6 Q
        refine s_istore_n d_M_beginsPart_79 rfl (by decide) rfl ?_
        refine s_aload_n 2 d_M_beginsPart_80 rfl rfl ?_
        refine s_getF (v := 83) d_M_beginsPart_81 fl_M_137 rfl (sf_42 hF6) (ff_68 hF6) ?_
        refine s_iload_n 0 d_M_beginsPart_84 rfl rfl ?_
        refine s_iload_n 1 d_M_beginsPart_85 rfl rfl ?_
        obtain ⟨g7, h⟩ := h
        refine s_iastore d_M_beginsPart_86 ⟨_, sf_83 hF6, g7.1, g7.2, by have := g7.2; omega⟩ ?_
        refine s_aload_n 2 d_M_beginsPart_87 rfl rfl ?_
        refine s_dup d_M_beginsPart_88 (Nat.ne_of_beq_eq_false rfl) ?_
        refine s_getF (v := σ6.1 42 72) d_M_beginsPart_89 fl_M_482 rfl (sf_42 (hF6.wa (a := 83) (by decide))) rfl ?_
        refine s_iconst d_M_beginsPart_92 ?_
        refine s_iadd d_M_beginsPart_93 ?_
        refine s_putf 72 rfl d_M_beginsPart_94 fl_M_482 (fun C T h => by cases h; exact Or.inl rfl) rfl (Or.inl rfl) (fun h => nomatch h) (sf_42 (hF6.wa (a := 83) (by decide))) ?_
        refine s_aload_n 2 d_M_beginsPart_97 rfl rfl ?_
        refine s_callV (as := []) (ci := 10) d_M_beginsPart_98 ok_M_goesOn lk_M_440 io_M_goesOn so_M_goesOn (by decide) rfl rfl rfl (Nat.le_of_ble_eq_true rfl) rfl (sf_42 ((hF6.wa (a := 83) (by decide)).wf (a := 42) (k := 72) (by decide))) (WM.mono h ?_)
        rintro _ σ8 ⟨rfl, hp, h⟩
        obtain ⟨hF8, h⟩ := h
        show WP E m_M_beginsPart (d + 1) 101 [(2, aI v6), (1, aI v1), (0, aP 42)] [] σ8 Q
        refine s_aload_n 2 d_M_beginsPart_101 rfl rfl ?_
        refine s_bipush d_M_beginsPart_102 (by decide) ?_
        refine s_callV (as := [aI 60]) (ci := 10) d_M_beginsPart_104 ok_M_isMark lk_M_443 io_M_isMark so_M_isMark (by decide) rfl rfl rfl (Nat.le_of_ble_eq_true rfl) rfl (sf_42 hF8) (WM.mono h ?_)
        rintro _ σ9 ⟨v9, rfl, hp, h⟩
        obtain ⟨hF9, h⟩ := h
        show WP E m_M_beginsPart (d + 1) 107 [(2, aI v6), (1, aI v1), (0, aP 42)] [aI v9] σ9 Q
        obtain ⟨g10, h⟩ := h
        refine s_if_ne d_M_beginsPart_107 rfl g10 (fun c => ?_) (fun c => ?_)
        · have h := h.1 c
          refine s_aload_n 2 d_M_beginsPart_112 rfl rfl ?_
          refine s_getF (v := 80) d_M_beginsPart_113 fl_M_128 rfl (sf_42 hF9) (ff_65 hF9) ?_
          refine s_iload_n 1 d_M_beginsPart_116 rfl rfl ?_
          obtain ⟨g11, h⟩ := h
          refine s_ialoadv (v := σ9.1 80 v1) d_M_beginsPart_117 ⟨_, sf_80 hF9, g11.1, g11.2, by have := g11.2; omega⟩ rfl ?_
          obtain ⟨g12, h⟩ := h
          refine s_if_eq d_M_beginsPart_118 rfl g12 (fun c => ?_) (fun c => ?_)
          · have h := h.1 c
            refine wp_drop [2] rfl ?_
            exact h
          · have h := h.2 c
            refine s_aload_n 2 d_M_beginsPart_121 rfl rfl ?_
            refine s_getF (v := σ9.1 42 70) d_M_beginsPart_122 fl_M_464 rfl (sf_42 hF9) rfl ?_
            refine s_bipush d_M_beginsPart_125 (by decide) ?_
            obtain ⟨g13, h⟩ := h
            refine s_icmp_eq d_M_beginsPart_127 rfl g13 (by decide) (fun c => ?_) (fun c => ?_)
            · have h := h.1 c
              refine wp_drop [2] rfl ?_
              exact h
            · have h := h.2 c
              refine s_aload_n 2 d_M_beginsPart_130 rfl rfl ?_
              refine s_getF (v := σ9.1 42 71) d_M_beginsPart_131 fl_M_485 rfl (sf_42 hF9) rfl ?_
              refine s_iconst d_M_beginsPart_134 ?_
              obtain ⟨g14, h⟩ := h
              refine s_icmp_ne d_M_beginsPart_135 rfl g14 (by decide) (fun c => ?_) (fun c => ?_)
              · have h := h.1 c
                refine s_aload_n 2 d_M_beginsPart_145 rfl rfl ?_
                refine s_dup d_M_beginsPart_146 (Nat.ne_of_beq_eq_false rfl) ?_
                refine s_getF (v := σ9.1 42 70) d_M_beginsPart_147 fl_M_464 rfl (sf_42 hF9) rfl ?_
                refine s_iconst d_M_beginsPart_150 ?_
                refine s_iadd d_M_beginsPart_151 ?_
                refine s_putf 70 rfl d_M_beginsPart_152 fl_M_464 (fun C T h => by cases h; exact Or.inl rfl) rfl (Or.inl rfl) (fun h => nomatch h) (sf_42 hF9) ?_
                refine s_aload_n 2 d_M_beginsPart_155 rfl rfl ?_
                refine s_dup d_M_beginsPart_156 (Nat.ne_of_beq_eq_false rfl) ?_
                refine s_getF (v := σ9.1 42 71) d_M_beginsPart_157 fl_M_485 rfl (sf_42 (hF9.wf (a := 42) (k := 70) (by decide))) rfl ?_
                refine s_iconst d_M_beginsPart_160 ?_
                refine s_iadd d_M_beginsPart_161 ?_
                refine s_putf 71 rfl d_M_beginsPart_162 fl_M_485 (fun C T h => by cases h; exact Or.inl rfl) rfl (Or.inl rfl) (fun h => nomatch h) (sf_42 (hF9.wf (a := 42) (k := 70) (by decide))) ?_
                refine s_aload_n 2 d_M_beginsPart_165 rfl rfl ?_
                refine s_iload_n 0 d_M_beginsPart_166 rfl rfl ?_
                refine s_callV (as := [aI v6]) (ci := 10) d_M_beginsPart_167 ok_M_opensGroup lk_M_479 io_M_opensGroup so_M_opensGroup (by decide) rfl rfl rfl (Nat.le_of_ble_eq_true rfl) rfl (sf_42 ((hF9.wf (a := 42) (k := 70) (by decide)).wf (a := 42) (k := 71) (by decide))) (WM.mono h ?_)
                rintro _ σ15 ⟨rfl, hp, h⟩
                obtain ⟨hF15, h⟩ := h
                show WP E m_M_beginsPart (d + 1) 170 [(2, aI v6), (1, aI v1), (0, aP 42)] [] σ15 Q
                refine s_aload_n 2 d_M_beginsPart_170 rfl rfl ?_
                refine s_callV (as := []) (ci := 10) d_M_beginsPart_171 ok_M_goesOn lk_M_440 io_M_goesOn so_M_goesOn (by decide) rfl rfl rfl (Nat.le_of_ble_eq_true rfl) rfl (sf_42 hF15) (WM.mono h ?_)
                rintro _ σ16 ⟨rfl, hp, h⟩
                show WP E m_M_beginsPart (d + 1) 174 [(2, aI v6), (1, aI v1), (0, aP 42)] [] σ16 Q
                refine s_iconst d_M_beginsPart_174 ?_
                exact s_ireturn d_M_beginsPart_175 rfl h
              · have h := h.2 c
                refine wp_drop [2] rfl ?_
                exact h
        · have h := h.2 c
          refine s_iload_n 0 d_M_beginsPart_110 rfl rfl ?_
          exact s_ireturn d_M_beginsPart_111 rfl h
      · have h := h.2 c
        refine wp_drop [1] rfl ?_
        exact h
theorem b_M_beginsPart_67 {E : EV} {d : Nat} {Q : Option AV → St → Prop} {σ : St} (hF : Fix σ) (h : Q (some (aI (-1))) (wr σ 42 53 1)) : WP E m_M_beginsPart (d + 1) 67 [(0, aP 42)] [] σ Q := by
  refine s_aload_n 0 d_M_beginsPart_67 rfl rfl ?_
  refine s_iconst d_M_beginsPart_68 ?_
  refine s_putf 53 rfl d_M_beginsPart_69 fl_M_436 (fun C T h => by cases h; exact Or.inl rfl) rfl (Or.inr (Or.inr (Or.inl rfl))) (fun _ => by decide) (sf_42 hF) ?_
  refine s_iconst d_M_beginsPart_72 ?_
  exact s_ireturn d_M_beginsPart_73 rfl h
theorem b_M_beginsPart_138 {E : EV} {d : Nat} {Q : Option AV → St → Prop} {σ : St} (hF : Fix σ) (h : Q (some (aI (-1))) (wr σ 42 53 1)) : WP E m_M_beginsPart (d + 1) 138 [(0, aP 42)] [] σ Q := by
  refine s_aload_n 0 d_M_beginsPart_138 rfl rfl ?_
  refine s_iconst d_M_beginsPart_139 ?_
  refine s_putf 53 rfl d_M_beginsPart_140 fl_M_436 (fun C T h => by cases h; exact Or.inl rfl) rfl (Or.inr (Or.inr (Or.inl rfl))) (fun _ => by decide) (sf_42 hF) ?_
  refine s_iconst d_M_beginsPart_143 ?_
  exact s_ireturn d_M_beginsPart_144 rfl h
theorem d_M_endsPart_0 : decode m_M_endsPart.2.1 0 = .ok (.iload_n 1, 1) := by decide +kernel
theorem d_M_endsPart_1 : decode m_M_endsPart.2.1 1 = .ok (.istore_n 2, 1) := by decide +kernel
theorem d_M_endsPart_2 : decode m_M_endsPart.2.1 2 = .ok (.aload_n 0, 1) := by decide +kernel
theorem d_M_endsPart_3 : decode m_M_endsPart.2.1 3 = .ok (.aload_n 0, 1) := by decide +kernel
theorem d_M_endsPart_4 : decode m_M_endsPart.2.1 4 = .ok (.getfield 158, 3) := by decide +kernel
theorem d_M_endsPart_7 : decode m_M_endsPart.2.1 7 = .ok (.aload_n 0, 1) := by decide +kernel
theorem d_M_endsPart_8 : decode m_M_endsPart.2.1 8 = .ok (.getfield 464, 3) := by decide +kernel
theorem d_M_endsPart_11 : decode m_M_endsPart.2.1 11 = .ok (.iaload, 1) := by decide +kernel
theorem d_M_endsPart_12 : decode m_M_endsPart.2.1 12 = .ok (.iload_n 2, 1) := by decide +kernel
theorem d_M_endsPart_13 : decode m_M_endsPart.2.1 13 = .ok (.invokevirtual 473, 3) := by decide +kernel
theorem d_M_endsPart_16 : decode m_M_endsPart.2.1 16 = .ok (.aload_n 0, 1) := by decide +kernel
theorem d_M_endsPart_17 : decode m_M_endsPart.2.1 17 = .ok (.bipush 42, 2) := by decide +kernel
theorem d_M_endsPart_19 : decode m_M_endsPart.2.1 19 = .ok (.invokevirtual 443, 3) := by decide +kernel
theorem d_M_endsPart_22 : decode m_M_endsPart.2.1 22 = .ok (.ifCond .eq 9, 3) := by decide +kernel
theorem d_M_endsPart_25 : decode m_M_endsPart.2.1 25 = .ok (.aload_n 0, 1) := by decide +kernel
theorem d_M_endsPart_26 : decode m_M_endsPart.2.1 26 = .ok (.invokevirtual 440, 3) := by decide +kernel
theorem d_M_endsPart_29 : decode m_M_endsPart.2.1 29 = .ok (.iconst 1, 1) := by decide +kernel
theorem d_M_endsPart_30 : decode m_M_endsPart.2.1 30 = .ok (.ireturn, 1) := by decide +kernel
theorem d_M_endsPart_31 : decode m_M_endsPart.2.1 31 = .ok (.aload_n 0, 1) := by decide +kernel
theorem d_M_endsPart_32 : decode m_M_endsPart.2.1 32 = .ok (.bipush 58, 2) := by decide +kernel
theorem d_M_endsPart_34 : decode m_M_endsPart.2.1 34 = .ok (.invokevirtual 443, 3) := by decide +kernel
theorem d_M_endsPart_37 : decode m_M_endsPart.2.1 37 = .ok (.ifCond .eq 27, 3) := by decide +kernel
theorem d_M_endsPart_40 : decode m_M_endsPart.2.1 40 = .ok (.aload_n 0, 1) := by decide +kernel
theorem d_M_endsPart_41 : decode m_M_endsPart.2.1 41 = .ok (.invokevirtual 476, 3) := by decide +kernel
theorem d_M_endsPart_44 : decode m_M_endsPart.2.1 44 = .ok (.aload_n 0, 1) := by decide +kernel
theorem d_M_endsPart_45 : decode m_M_endsPart.2.1 45 = .ok (.getfield 158, 3) := by decide +kernel
theorem d_M_endsPart_48 : decode m_M_endsPart.2.1 48 = .ok (.aload_n 0, 1) := by decide +kernel
theorem d_M_endsPart_49 : decode m_M_endsPart.2.1 49 = .ok (.getfield 464, 3) := by decide +kernel
theorem d_M_endsPart_52 : decode m_M_endsPart.2.1 52 = .ok (.aload_n 0, 1) := by decide +kernel
theorem d_M_endsPart_53 : decode m_M_endsPart.2.1 53 = .ok (.iconst 1, 1) := by decide +kernel
theorem d_M_endsPart_54 : decode m_M_endsPart.2.1 54 = .ok (.invokevirtual 467, 3) := by decide +kernel
theorem d_M_endsPart_57 : decode m_M_endsPart.2.1 57 = .ok (.iastore, 1) := by decide +kernel
theorem d_M_endsPart_58 : decode m_M_endsPart.2.1 58 = .ok (.aload_n 0, 1) := by decide +kernel
theorem d_M_endsPart_59 : decode m_M_endsPart.2.1 59 = .ok (.invokevirtual 440, 3) := by decide +kernel
theorem d_M_endsPart_62 : decode m_M_endsPart.2.1 62 = .ok (.iconst 1, 1) := by decide +kernel
theorem d_M_endsPart_63 : decode m_M_endsPart.2.1 63 = .ok (.ireturn, 1) := by decide +kernel
theorem d_M_endsPart_64 : decode m_M_endsPart.2.1 64 = .ok (.aload_n 0, 1) := by decide +kernel
theorem d_M_endsPart_65 : decode m_M_endsPart.2.1 65 = .ok (.getfield 464, 3) := by decide +kernel
theorem d_M_endsPart_68 : decode m_M_endsPart.2.1 68 = .ok (.ifCond .ne 5, 3) := by decide +kernel
theorem d_M_endsPart_71 : decode m_M_endsPart.2.1 71 = .ok (.iconst 0, 1) := by decide +kernel
theorem d_M_endsPart_72 : decode m_M_endsPart.2.1 72 = .ok (.ireturn, 1) := by decide +kernel
theorem d_M_endsPart_73 : decode m_M_endsPart.2.1 73 = .ok (.aload_n 0, 1) := by decide +kernel
theorem d_M_endsPart_74 : decode m_M_endsPart.2.1 74 = .ok (.getfield 161, 3) := by decide +kernel
theorem d_M_endsPart_77 : decode m_M_endsPart.2.1 77 = .ok (.aload_n 0, 1) := by decide +kernel
theorem d_M_endsPart_78 : decode m_M_endsPart.2.1 78 = .ok (.getfield 464, 3) := by decide +kernel
theorem d_M_endsPart_81 : decode m_M_endsPart.2.1 81 = .ok (.iaload, 1) := by decide +kernel
theorem d_M_endsPart_82 : decode m_M_endsPart.2.1 82 = .ok (.istore_n 3, 1) := by decide +kernel
theorem d_M_endsPart_83 : decode m_M_endsPart.2.1 83 = .ok (.aload_n 0, 1) := by decide +kernel
theorem d_M_endsPart_84 : decode m_M_endsPart.2.1 84 = .ok (.iload_n 3, 1) := by decide +kernel
theorem d_M_endsPart_85 : decode m_M_endsPart.2.1 85 = .ok (.iconst (-1), 1) := by decide +kernel
theorem d_M_endsPart_86 : decode m_M_endsPart.2.1 86 = .ok (.if_icmp .ne 8, 3) := by decide +kernel
theorem d_M_endsPart_89 : decode m_M_endsPart.2.1 89 = .ok (.bipush 41, 2) := by decide +kernel
theorem d_M_endsPart_91 : decode m_M_endsPart.2.1 91 = .ok (.goto 5, 3) := by decide +kernel
theorem d_M_endsPart_94 : decode m_M_endsPart.2.1 94 = .ok (.bipush 62, 2) := by decide +kernel
theorem d_M_endsPart_96 : decode m_M_endsPart.2.1 96 = .ok (.invokevirtual 443, 3) := by decide +kernel
theorem d_M_endsPart_99 : decode m_M_endsPart.2.1 99 = .ok (.ifCond .ne 10, 3) := by decide +kernel
theorem d_M_endsPart_102 : decode m_M_endsPart.2.1 102 = .ok (.aload_n 0, 1) := by decide +kernel
theorem d_M_endsPart_103 : decode m_M_endsPart.2.1 103 = .ok (.iconst 1, 1) := by decide +kernel
theorem d_M_endsPart_104 : decode m_M_endsPart.2.1 104 = .ok (.putfield 436, 3) := by decide +kernel
theorem d_M_endsPart_107 : decode m_M_endsPart.2.1 107 = .ok (.iconst 0, 1) := by decide +kernel
theorem d_M_endsPart_108 : decode m_M_endsPart.2.1 108 = .ok (.ireturn, 1) := by decide +kernel
theorem d_M_endsPart_109 : decode m_M_endsPart.2.1 109 = .ok (.aload_n 0, 1) := by decide +kernel
theorem d_M_endsPart_110 : decode m_M_endsPart.2.1 110 = .ok (.invokevirtual 488, 3) := by decide +kernel
theorem d_M_endsPart_113 : decode m_M_endsPart.2.1 113 = .ok (.istore 4, 2) := by decide +kernel
theorem d_M_endsPart_115 : decode m_M_endsPart.2.1 115 = .ok (.aload_n 0, 1) := by decide +kernel
theorem d_M_endsPart_116 : decode m_M_endsPart.2.1 116 = .ok (.dup, 1) := by decide +kernel
theorem d_M_endsPart_117 : decode m_M_endsPart.2.1 117 = .ok (.getfield 464, 3) := by decide +kernel
theorem d_M_endsPart_120 : decode m_M_endsPart.2.1 120 = .ok (.iconst 1, 1) := by decide +kernel
theorem d_M_endsPart_121 : decode m_M_endsPart.2.1 121 = .ok (.isub, 1) := by decide +kernel
theorem d_M_endsPart_122 : decode m_M_endsPart.2.1 122 = .ok (.putfield 464, 3) := by decide +kernel
theorem d_M_endsPart_125 : decode m_M_endsPart.2.1 125 = .ok (.iload_n 3, 1) := by decide +kernel
theorem d_M_endsPart_126 : decode m_M_endsPart.2.1 126 = .ok (.iconst (-1), 1) := by decide +kernel
theorem d_M_endsPart_127 : decode m_M_endsPart.2.1 127 = .ok (.if_icmp .eq 21, 3) := by decide +kernel
theorem d_M_endsPart_130 : decode m_M_endsPart.2.1 130 = .ok (.aload_n 0, 1) := by decide +kernel
theorem d_M_endsPart_131 : decode m_M_endsPart.2.1 131 = .ok (.getfield 140, 3) := by decide +kernel
theorem d_M_endsPart_134 : decode m_M_endsPart.2.1 134 = .ok (.iload_n 3, 1) := by decide +kernel
theorem d_M_endsPart_135 : decode m_M_endsPart.2.1 135 = .ok (.iload 4, 2) := by decide +kernel
theorem d_M_endsPart_137 : decode m_M_endsPart.2.1 137 = .ok (.iastore, 1) := by decide +kernel
theorem d_M_endsPart_138 : decode m_M_endsPart.2.1 138 = .ok (.aload_n 0, 1) := by decide +kernel
theorem d_M_endsPart_139 : decode m_M_endsPart.2.1 139 = .ok (.dup, 1) := by decide +kernel
theorem d_M_endsPart_140 : decode m_M_endsPart.2.1 140 = .ok (.getfield 485, 3) := by decide +kernel
theorem d_M_endsPart_143 : decode m_M_endsPart.2.1 143 = .ok (.iconst 1, 1) := by decide +kernel
theorem d_M_endsPart_144 : decode m_M_endsPart.2.1 144 = .ok (.isub, 1) := by decide +kernel
theorem d_M_endsPart_145 : decode m_M_endsPart.2.1 145 = .ok (.putfield 485, 3) := by decide +kernel
theorem d_M_endsPart_148 : decode m_M_endsPart.2.1 148 = .ok (.iload_n 3, 1) := by decide +kernel
theorem d_M_endsPart_149 : decode m_M_endsPart.2.1 149 = .ok (.iconst (-1), 1) := by decide +kernel
theorem d_M_endsPart_150 : decode m_M_endsPart.2.1 150 = .ok (.if_icmp .ne 8, 3) := by decide +kernel
theorem d_M_endsPart_153 : decode m_M_endsPart.2.1 153 = .ok (.iload 4, 2) := by decide +kernel
theorem d_M_endsPart_155 : decode m_M_endsPart.2.1 155 = .ok (.goto 4, 3) := by decide +kernel
theorem d_M_endsPart_158 : decode m_M_endsPart.2.1 158 = .ok (.iload_n 3, 1) := by decide +kernel
theorem d_M_endsPart_159 : decode m_M_endsPart.2.1 159 = .ok (.istore_n 2, 1) := by decide +kernel
theorem d_M_endsPart_160 : decode m_M_endsPart.2.1 160 = .ok (.aload_n 0, 1) := by decide +kernel
theorem d_M_endsPart_161 : decode m_M_endsPart.2.1 161 = .ok (.invokevirtual 440, 3) := by decide +kernel
theorem d_M_endsPart_164 : decode m_M_endsPart.2.1 164 = .ok (.goto (-162), 3) := by decide +kernel
theorem b_M_endsPart_0 {E : EV} {d : Nat} {Q : Option AV → St → Prop} {σ : St} (x1 : Int) (h : WP E m_M_endsPart (d + 1) 2 [(0, aP 42), (2, aI x1)] [] σ Q) : WP E m_M_endsPart (d + 1) 0 [(0, aP 42), (1, aI x1)] [] σ Q := by
  refine s_iload_n 1 d_M_endsPart_0 rfl rfl ?_
  refine s_istore_n d_M_endsPart_1 rfl (by decide) rfl ?_
  refine wp_drop [1, 0] rfl ?_
  exact h
theorem e_M_endsPart {E : EV} {d : Nat} {Q : Option AV → St → Prop} {σ : St} (x1 : Int) (h : WP E m_M_endsPart (d + 1) 2 [(0, aP 42), (2, aI x1)] [] σ Q) : WM E m_M_endsPart (d + 1) [aP 42, aI x1] σ Q := s_meth (by decide) (Nat.le_of_ble_eq_true rfl) rfl (b_M_endsPart_0 x1 h)
theorem b_M_endsPart_2 {E : EV} {d : Nat} {Q : Option AV → St → Prop} {σ : St} (x2 : Int) (hF : Fix σ) (h : (0 ≤ (σ.1 42 70) ∧ (σ.1 42 70) < 8) ∧ (WMv E m_M_appends d [aP 42, aI (σ.1 90 (σ.1 42 70)), aI x2] σ (fun σ2 => Fix σ2 ∧ (WMi E m_M_isMark d [aP 42, aI 42] σ2 (fun v3 σ3 => Fix σ3 ∧ (rI v3) ∧ ((v3 = 0 → (WMi E m_M_isMark d [aP 42, aI 58] σ3 (fun v5 σ5 => Fix σ5 ∧ (rI v5) ∧ ((v5 = 0 → (rI (σ5.1 42 70)) ∧ ((¬ (σ5.1 42 70) = 0 → (0 ≤ (σ5.1 42 70) ∧ (σ5.1 42 70) < 8) ∧ (rI (σ5.1 91 (σ5.1 42 70))) ∧ ((¬ (σ5.1 91 (σ5.1 42 70)) = (-1) → WP E m_M_endsPart (d + 1) 96 [(0, aP 42), (3, aI (σ5.1 91 (σ5.1 42 70)))] [aI 62, aP 42] σ5 Q) ∧ ((σ5.1 91 (σ5.1 42 70)) = (-1) → WP E m_M_endsPart (d + 1) 96 [(0, aP 42), (3, aI (σ5.1 91 (σ5.1 42 70)))] [aI 41, aP 42] σ5 Q))) ∧ ((σ5.1 42 70) = 0 → Q (some (aI 0)) σ5))) ∧ (¬ v5 = 0 → (WMv E m_M_endsRow d [aP 42] σ5 (fun σ10 => Fix σ10 ∧ (WMi E m_M_node d [aP 42, aI 1] σ10 (fun v11 σ11 => Fix σ11 ∧ (0 ≤ (σ10.1 42 70) ∧ (σ10.1 42 70) < 8) ∧ (WMv E m_M_goesOn d [aP 42] (wr σ11 90 (σ10.1 42 70) v11) (fun σ13 => Q (some (aI 1)) σ13))))))))))) ∧ (¬ v3 = 0 → (WMv E m_M_goesOn d [aP 42] σ3 (fun σ14 => Q (some (aI 1)) σ14))))))))) : WP E m_M_endsPart (d + 1) 2 [(0, aP 42), (2, aI x2)] [] σ Q := by
  refine s_aload_n 0 d_M_endsPart_2 rfl rfl ?_
  refine s_aload_n 0 d_M_endsPart_3 rfl rfl ?_
  refine s_getF (v := 90) d_M_endsPart_4 fl_M_158 rfl (sf_42 hF) (ff_75 hF) ?_
  refine s_aload_n 0 d_M_endsPart_7 rfl rfl ?_
  refine s_getF (v := σ.1 42 70) d_M_endsPart_8 fl_M_464 rfl (sf_42 hF) rfl ?_
  obtain ⟨g1, h⟩ := h
  refine s_ialoadv (v := σ.1 90 (σ.1 42 70)) d_M_endsPart_11 ⟨_, sf_90 hF, g1.1, g1.2, by have := g1.2; omega⟩ rfl ?_
  refine s_iload_n 1 d_M_endsPart_12 rfl rfl ?_
  refine s_callV (as := [aI (σ.1 90 (σ.1 42 70)), aI x2]) (ci := 10) d_M_endsPart_13 ok_M_appends lk_M_473 io_M_appends so_M_appends (by decide) rfl rfl rfl (Nat.le_of_ble_eq_true rfl) rfl (sf_42 hF) (WM.mono h ?_)
  rintro _ σ2 ⟨rfl, hp, h⟩
  obtain ⟨hF2, h⟩ := h
  show WP E m_M_endsPart (d + 1) 16 [(0, aP 42), (2, aI x2)] [] σ2 Q
  refine s_aload_n 0 d_M_endsPart_16 rfl rfl ?_
  refine s_bipush d_M_endsPart_17 (by decide) ?_
  refine s_callV (as := [aI 42]) (ci := 10) d_M_endsPart_19 ok_M_isMark lk_M_443 io_M_isMark so_M_isMark (by decide) rfl rfl rfl (Nat.le_of_ble_eq_true rfl) rfl (sf_42 hF2) (WM.mono h ?_)
  rintro _ σ3 ⟨v3, rfl, hp, h⟩
  obtain ⟨hF3, h⟩ := h
  show WP E m_M_endsPart (d + 1) 22 [(0, aP 42), (2, aI x2)] [aI v3] σ3 Q
  obtain ⟨g4, h⟩ := h
  refine s_if_eq d_M_endsPart_22 rfl g4 (fun c => ?_) (fun c => ?_)
  · have h := h.1 c
    refine s_aload_n 0 d_M_endsPart_31 rfl rfl ?_
    refine s_bipush d_M_endsPart_32 (by decide) ?_
    refine s_callV (as := [aI 58]) (ci := 10) d_M_endsPart_34 ok_M_isMark lk_M_443 io_M_isMark so_M_isMark (by decide) rfl rfl rfl (Nat.le_of_ble_eq_true rfl) rfl (sf_42 hF3) (WM.mono h ?_)
    rintro _ σ5 ⟨v5, rfl, hp, h⟩
    obtain ⟨hF5, h⟩ := h
    show WP E m_M_endsPart (d + 1) 37 [(0, aP 42), (2, aI x2)] [aI v5] σ5 Q
    obtain ⟨g6, h⟩ := h
    refine s_if_eq d_M_endsPart_37 rfl g6 (fun c => ?_) (fun c => ?_)
    · have h := h.1 c
      refine s_aload_n 0 d_M_endsPart_64 rfl rfl ?_
      refine s_getF (v := σ5.1 42 70) d_M_endsPart_65 fl_M_464 rfl (sf_42 hF5) rfl ?_
      obtain ⟨g7, h⟩ := h
      refine s_if_ne d_M_endsPart_68 rfl g7 (fun c => ?_) (fun c => ?_)
      · have h := h.1 c
        refine s_aload_n 0 d_M_endsPart_73 rfl rfl ?_
        refine s_getF (v := 91) d_M_endsPart_74 fl_M_161 rfl (sf_42 hF5) (ff_76 hF5) ?_
        refine s_aload_n 0 d_M_endsPart_77 rfl rfl ?_
        refine s_getF (v := σ5.1 42 70) d_M_endsPart_78 fl_M_464 rfl (sf_42 hF5) rfl ?_
        obtain ⟨g8, h⟩ := h
        refine s_ialoadv (v := σ5.1 91 (σ5.1 42 70)) d_M_endsPart_81 ⟨_, sf_91 hF5, g8.1, g8.2, by have := g8.2; omega⟩ rfl ?_
        refine s_istore_n d_M_endsPart_82 rfl (by decide) rfl ?_
        refine s_aload_n 1 d_M_endsPart_83 rfl rfl ?_
        refine s_iload_n 0 d_M_endsPart_84 rfl rfl ?_
        refine s_iconst d_M_endsPart_85 ?_
        obtain ⟨g9, h⟩ := h
        refine s_icmp_ne d_M_endsPart_86 rfl g9 (by decide) (fun c => ?_) (fun c => ?_)
        · have h := h.1 c
          refine s_bipush d_M_endsPart_94 (by decide) ?_
          refine wp_drop [1, 0] rfl ?_
          exact h
        · have h := h.2 c
          refine s_bipush d_M_endsPart_89 (by decide) ?_
          refine s_goto d_M_endsPart_91 rfl ?_
          refine wp_drop [1, 0] rfl ?_
          exact h
      · have h := h.2 c
        refine s_iconst d_M_endsPart_71 ?_
        exact s_zreturn d_M_endsPart_72 rfl (by decide) h
    · have h := h.2 c
      refine s_aload_n 0 d_M_endsPart_40 rfl rfl ?_
      refine s_callV (as := []) (ci := 10) d_M_endsPart_41 ok_M_endsRow lk_M_476 io_M_endsRow so_M_endsRow (by decide) rfl rfl rfl (Nat.le_of_ble_eq_true rfl) rfl (sf_42 hF5) (WM.mono h ?_)
      rintro _ σ10 ⟨rfl, hp, h⟩
      obtain ⟨hF10, h⟩ := h
      show WP E m_M_endsPart (d + 1) 44 [(0, aP 42), (2, aI x2)] [] σ10 Q
      refine s_aload_n 0 d_M_endsPart_44 rfl rfl ?_
      refine s_getF (v := 90) d_M_endsPart_45 fl_M_158 rfl (sf_42 hF10) (ff_75 hF10) ?_
      refine s_aload_n 0 d_M_endsPart_48 rfl rfl ?_
      refine s_getF (v := σ10.1 42 70) d_M_endsPart_49 fl_M_464 rfl (sf_42 hF10) rfl ?_
      refine s_aload_n 0 d_M_endsPart_52 rfl rfl ?_
      refine s_iconst d_M_endsPart_53 ?_
      refine s_callV (as := [aI 1]) (ci := 10) d_M_endsPart_54 ok_M_node lk_M_467 io_M_node so_M_node (by decide) rfl rfl rfl (Nat.le_of_ble_eq_true rfl) rfl (sf_42 hF10) (WM.mono h ?_)
      rintro _ σ11 ⟨v11, rfl, hp, h⟩
      obtain ⟨hF11, h⟩ := h
      show WP E m_M_endsPart (d + 1) 57 [(0, aP 42), (2, aI x2)] [aI v11, aI (σ10.1 42 70), aP 90] σ11 Q
      obtain ⟨g12, h⟩ := h
      refine s_iastore d_M_endsPart_57 ⟨_, sf_90 hF11, g12.1, g12.2, by have := g12.2; omega⟩ ?_
      refine s_aload_n 0 d_M_endsPart_58 rfl rfl ?_
      refine s_callV (as := []) (ci := 10) d_M_endsPart_59 ok_M_goesOn lk_M_440 io_M_goesOn so_M_goesOn (by decide) rfl rfl rfl (Nat.le_of_ble_eq_true rfl) rfl (sf_42 (hF11.wa (a := 90) (by decide))) (WM.mono h ?_)
      rintro _ σ13 ⟨rfl, hp, h⟩
      show WP E m_M_endsPart (d + 1) 62 [(0, aP 42), (2, aI x2)] [] σ13 Q
      refine s_iconst d_M_endsPart_62 ?_
      exact s_zreturn d_M_endsPart_63 rfl (by decide) h
  · have h := h.2 c
    refine s_aload_n 0 d_M_endsPart_25 rfl rfl ?_
    refine s_callV (as := []) (ci := 10) d_M_endsPart_26 ok_M_goesOn lk_M_440 io_M_goesOn so_M_goesOn (by decide) rfl rfl rfl (Nat.le_of_ble_eq_true rfl) rfl (sf_42 hF3) (WM.mono h ?_)
    rintro _ σ14 ⟨rfl, hp, h⟩
    show WP E m_M_endsPart (d + 1) 29 [(0, aP 42), (2, aI x2)] [] σ14 Q
    refine s_iconst d_M_endsPart_29 ?_
    exact s_zreturn d_M_endsPart_30 rfl (by decide) h
theorem b_M_endsPart_96 {E : EV} {d : Nat} {Q : Option AV → St → Prop} {σ : St} (x3 s0 s1 : Int) (hF : Fix σ) (h : (sh σ s0 = some (10, 74)) ∧ (WMi E m_M_isMark d [aP s0, aI s1] σ (fun v1 σ1 => Fix σ1 ∧ (rI v1) ∧ ((¬ v1 = 0 → (WMi E m_M_endsGroup d [aP 42] σ1 (fun v4 σ4 => Fix σ4 ∧ (rI x3) ∧ ((x3 = (-1) → WP E m_M_endsPart (d + 1) 148 [(0, aP 42), (3, aI x3), (4, aI v4)] [] (wr σ4 42 70 ((σ4.1 42 70) - 1)) Q) ∧ (¬ x3 = (-1) → (0 ≤ x3 ∧ x3 < 200) ∧ WP E m_M_endsPart (d + 1) 148 [(0, aP 42), (3, aI x3), (4, aI v4)] [] (wr (wr (wr σ4 42 70 ((σ4.1 42 70) - 1)) 84 x3 v4) 42 71 ((σ4.1 42 71) - 1)) Q))))) ∧ (v1 = 0 → Q (some (aI 0)) (wr σ1 42 53 1)))))) : WP E m_M_endsPart (d + 1) 96 [(0, aP 42), (3, aI x3)] [aI s1, aP s0] σ Q := by
  obtain ⟨g2, h⟩ := h
  refine s_callV (as := [aI s1]) (ci := 10) d_M_endsPart_96 ok_M_isMark lk_M_443 io_M_isMark so_M_isMark (by decide) rfl rfl rfl (Nat.le_of_ble_eq_true rfl) rfl g2 (WM.mono h ?_)
  rintro _ σ1 ⟨v1, rfl, hp, h⟩
  obtain ⟨hF2, h⟩ := h
  show WP E m_M_endsPart (d + 1) 99 [(0, aP 42), (3, aI x3)] [aI v1] σ1 Q
  obtain ⟨g3, h⟩ := h
  refine s_if_ne d_M_endsPart_99 rfl g3 (fun c => ?_) (fun c => ?_)
  · have h := h.1 c
    refine s_aload_n 0 d_M_endsPart_109 rfl rfl ?_
    refine s_callV (as := []) (ci := 10) d_M_endsPart_110 ok_M_endsGroup lk_M_488 io_M_endsGroup so_M_endsGroup (by decide) rfl rfl rfl (Nat.le_of_ble_eq_true rfl) rfl (sf_42 hF2) (WM.mono h ?_)
    rintro _ σ4 ⟨v4, rfl, hp, h⟩
    obtain ⟨hF4, h⟩ := h
    show WP E m_M_endsPart (d + 1) 113 [(0, aP 42), (3, aI x3)] [aI v4] σ4 Q
    refine s_istore d_M_endsPart_113 (by decide) rfl ?_
    refine s_aload_n 1 d_M_endsPart_115 rfl rfl ?_
    refine s_dup d_M_endsPart_116 (Nat.ne_of_beq_eq_false rfl) ?_
    refine s_getF (v := σ4.1 42 70) d_M_endsPart_117 fl_M_464 rfl (sf_42 hF4) rfl ?_
    refine s_iconst d_M_endsPart_120 ?_
    refine s_isub d_M_endsPart_121 ?_
    refine s_putf 70 rfl d_M_endsPart_122 fl_M_464 (fun C T h => by cases h; exact Or.inl rfl) rfl (Or.inl rfl) (fun h => nomatch h) (sf_42 hF4) ?_
    refine s_iload_n 2 d_M_endsPart_125 rfl rfl ?_
    refine s_iconst d_M_endsPart_126 ?_
    obtain ⟨g5, h⟩ := h
    refine s_icmp_eq d_M_endsPart_127 rfl g5 (by decide) (fun c => ?_) (fun c => ?_)
    · have h := h.1 c
      refine wp_drop [1, 2, 0] rfl ?_
      exact h
    · have h := h.2 c
      refine s_aload_n 1 d_M_endsPart_130 rfl rfl ?_
      refine s_getF (v := 84) d_M_endsPart_131 fl_M_140 rfl (sf_42 (hF4.wf (a := 42) (k := 70) (by decide))) (ff_69 (hF4.wf (a := 42) (k := 70) (by decide))) ?_
      refine s_iload_n 2 d_M_endsPart_134 rfl rfl ?_
      refine s_iload 0 d_M_endsPart_135 rfl ?_
      obtain ⟨g6, h⟩ := h
      refine s_iastore d_M_endsPart_137 ⟨_, sf_84 (hF4.wf (a := 42) (k := 70) (by decide)), g6.1, g6.2, by have := g6.2; omega⟩ ?_
      refine s_aload_n 1 d_M_endsPart_138 rfl rfl ?_
      refine s_dup d_M_endsPart_139 (Nat.ne_of_beq_eq_false rfl) ?_
      refine s_getF (v := σ4.1 42 71) d_M_endsPart_140 fl_M_485 rfl (sf_42 ((hF4.wf (a := 42) (k := 70) (by decide)).wa (a := 84) (by decide))) rfl ?_
      refine s_iconst d_M_endsPart_143 ?_
      refine s_isub d_M_endsPart_144 ?_
      refine s_putf 71 rfl d_M_endsPart_145 fl_M_485 (fun C T h => by cases h; exact Or.inl rfl) rfl (Or.inl rfl) (fun h => nomatch h) (sf_42 ((hF4.wf (a := 42) (k := 70) (by decide)).wa (a := 84) (by decide))) ?_
      refine wp_drop [1, 2, 0] rfl ?_
      exact h
  · have h := h.2 c
    refine s_aload_n 0 d_M_endsPart_102 rfl rfl ?_
    refine s_iconst d_M_endsPart_103 ?_
    refine s_putf 53 rfl d_M_endsPart_104 fl_M_436 (fun C T h => by cases h; exact Or.inl rfl) rfl (Or.inr (Or.inr (Or.inl rfl))) (fun _ => by decide) (sf_42 hF2) ?_
    refine s_iconst d_M_endsPart_107 ?_
    exact s_zreturn d_M_endsPart_108 rfl (by decide) h
theorem b_M_endsPart_148 {E : EV} {d : Nat} {Q : Option AV → St → Prop} {σ : St} (x3 x4 : Int) (h : (rI x3) ∧ ((¬ x3 = (-1) → WP E m_M_endsPart (d + 1) 159 [(0, aP 42)] [aI x3] σ Q) ∧ (x3 = (-1) → WP E m_M_endsPart (d + 1) 159 [(0, aP 42)] [aI x4] σ Q))) : WP E m_M_endsPart (d + 1) 148 [(0, aP 42), (3, aI x3), (4, aI x4)] [] σ Q := by
  refine s_iload_n 1 d_M_endsPart_148 rfl rfl ?_
  refine s_iconst d_M_endsPart_149 ?_
  obtain ⟨g1, h⟩ := h
  refine s_icmp_ne d_M_endsPart_150 rfl g1 (by decide) (fun c => ?_) (fun c => ?_)
  · have h := h.1 c
    refine s_iload_n 1 d_M_endsPart_158 rfl rfl ?_
    refine wp_drop [0] rfl ?_
    exact h
  · have h := h.2 c
    refine s_iload 2 d_M_endsPart_153 rfl ?_
    refine s_goto d_M_endsPart_155 rfl ?_
    refine wp_drop [0] rfl ?_
    exact h
theorem b_M_endsPart_159 {E : EV} {d : Nat} {Q : Option AV → St → Prop} {σ : St} (s0 : Int) (hF : Fix σ) (h : (WMv E m_M_goesOn d [aP 42] σ (fun σ1 => WP E m_M_endsPart (d + 1) 2 [(0, aP 42), (2, aI s0)] [] σ1 Q))) : WP E m_M_endsPart (d + 1) 159 [(0, aP 42)] [aI s0] σ Q := by
  refine s_istore_n d_M_endsPart_159 rfl (by decide) rfl ?_
  refine s_aload_n 1 d_M_endsPart_160 rfl rfl ?_
  refine s_callV (as := []) (ci := 10) d_M_endsPart_161 ok_M_goesOn lk_M_440 io_M_goesOn so_M_goesOn (by decide) rfl rfl rfl (Nat.le_of_ble_eq_true rfl) rfl (sf_42 hF) (WM.mono h ?_)
  rintro _ σ1 ⟨rfl, hp, h⟩
  show WP E m_M_endsPart (d + 1) 164 [(2, aI s0), (0, aP 42)] [] σ1 Q
  refine s_goto d_M_endsPart_164 rfl ?_
  refine wp_drop [1, 0] rfl ?_
  exact h
theorem d_M_appends_0 : decode m_M_appends.2.1 0 = .ok (.aload_n 0, 1) := by decide +kernel
theorem d_M_appends_1 : decode m_M_appends.2.1 1 = .ok (.getfield 134, 3) := by decide +kernel
theorem d_M_appends_4 : decode m_M_appends.2.1 4 = .ok (.iload_n 2, 1) := by decide +kernel
theorem d_M_appends_5 : decode m_M_appends.2.1 5 = .ok (.iaload, 1) := by decide +kernel
theorem d_M_appends_6 : decode m_M_appends.2.1 6 = .ok (.aload_n 0, 1) := by decide +kernel
theorem d_M_appends_7 : decode m_M_appends.2.1 7 = .ok (.getfield 134, 3) := by decide +kernel
theorem d_M_appends_10 : decode m_M_appends.2.1 10 = .ok (.iload_n 1, 1) := by decide +kernel
theorem d_M_appends_11 : decode m_M_appends.2.1 11 = .ok (.iaload, 1) := by decide +kernel
theorem d_M_appends_12 : decode m_M_appends.2.1 12 = .ok (.if_icmp .ne 7, 3) := by decide +kernel
theorem d_M_appends_15 : decode m_M_appends.2.1 15 = .ok (.iconst 1, 1) := by decide +kernel
theorem d_M_appends_16 : decode m_M_appends.2.1 16 = .ok (.goto 4, 3) := by decide +kernel
theorem d_M_appends_19 : decode m_M_appends.2.1 19 = .ok (.iconst 0, 1) := by decide +kernel
theorem d_M_appends_20 : decode m_M_appends.2.1 20 = .ok (.istore_n 3, 1) := by decide +kernel
theorem d_M_appends_21 : decode m_M_appends.2.1 21 = .ok (.iload_n 3, 1) := by decide +kernel
theorem d_M_appends_22 : decode m_M_appends.2.1 22 = .ok (.ifCond .eq 12, 3) := by decide +kernel
theorem d_M_appends_25 : decode m_M_appends.2.1 25 = .ok (.aload_n 0, 1) := by decide +kernel
theorem d_M_appends_26 : decode m_M_appends.2.1 26 = .ok (.getfield 143, 3) := by decide +kernel
theorem d_M_appends_29 : decode m_M_appends.2.1 29 = .ok (.iload_n 2, 1) := by decide +kernel
theorem d_M_appends_30 : decode m_M_appends.2.1 30 = .ok (.iaload, 1) := by decide +kernel
theorem d_M_appends_31 : decode m_M_appends.2.1 31 = .ok (.goto 4, 3) := by decide +kernel
theorem d_M_appends_34 : decode m_M_appends.2.1 34 = .ok (.iload_n 2, 1) := by decide +kernel
theorem d_M_appends_35 : decode m_M_appends.2.1 35 = .ok (.istore 4, 2) := by decide +kernel
theorem d_M_appends_37 : decode m_M_appends.2.1 37 = .ok (.aload_n 0, 1) := by decide +kernel
theorem d_M_appends_38 : decode m_M_appends.2.1 38 = .ok (.getfield 152, 3) := by decide +kernel
theorem d_M_appends_41 : decode m_M_appends.2.1 41 = .ok (.iload_n 1, 1) := by decide +kernel
theorem d_M_appends_42 : decode m_M_appends.2.1 42 = .ok (.iaload, 1) := by decide +kernel
theorem d_M_appends_43 : decode m_M_appends.2.1 43 = .ok (.ifCond .ne 14, 3) := by decide +kernel
theorem d_M_appends_46 : decode m_M_appends.2.1 46 = .ok (.aload_n 0, 1) := by decide +kernel
theorem d_M_appends_47 : decode m_M_appends.2.1 47 = .ok (.getfield 143, 3) := by decide +kernel
theorem d_M_appends_50 : decode m_M_appends.2.1 50 = .ok (.iload_n 1, 1) := by decide +kernel
theorem d_M_appends_51 : decode m_M_appends.2.1 51 = .ok (.iload 4, 2) := by decide +kernel
theorem d_M_appends_53 : decode m_M_appends.2.1 53 = .ok (.iastore, 1) := by decide +kernel
theorem d_M_appends_54 : decode m_M_appends.2.1 54 = .ok (.goto 16, 3) := by decide +kernel
theorem d_M_appends_57 : decode m_M_appends.2.1 57 = .ok (.aload_n 0, 1) := by decide +kernel
theorem d_M_appends_58 : decode m_M_appends.2.1 58 = .ok (.getfield 149, 3) := by decide +kernel
theorem d_M_appends_61 : decode m_M_appends.2.1 61 = .ok (.aload_n 0, 1) := by decide +kernel
theorem d_M_appends_62 : decode m_M_appends.2.1 62 = .ok (.getfield 146, 3) := by decide +kernel
theorem d_M_appends_65 : decode m_M_appends.2.1 65 = .ok (.iload_n 1, 1) := by decide +kernel
theorem d_M_appends_66 : decode m_M_appends.2.1 66 = .ok (.iaload, 1) := by decide +kernel
theorem d_M_appends_67 : decode m_M_appends.2.1 67 = .ok (.iload 4, 2) := by decide +kernel
theorem d_M_appends_69 : decode m_M_appends.2.1 69 = .ok (.iastore, 1) := by decide +kernel
theorem d_M_appends_70 : decode m_M_appends.2.1 70 = .ok (.aload_n 0, 1) := by decide +kernel
theorem d_M_appends_71 : decode m_M_appends.2.1 71 = .ok (.getfield 146, 3) := by decide +kernel
theorem d_M_appends_74 : decode m_M_appends.2.1 74 = .ok (.iload_n 1, 1) := by decide +kernel
theorem d_M_appends_75 : decode m_M_appends.2.1 75 = .ok (.iload_n 3, 1) := by decide +kernel
theorem d_M_appends_76 : decode m_M_appends.2.1 76 = .ok (.ifCond .eq 12, 3) := by decide +kernel
theorem d_M_appends_79 : decode m_M_appends.2.1 79 = .ok (.aload_n 0, 1) := by decide +kernel
theorem d_M_appends_80 : decode m_M_appends.2.1 80 = .ok (.getfield 146, 3) := by decide +kernel
theorem d_M_appends_83 : decode m_M_appends.2.1 83 = .ok (.iload_n 2, 1) := by decide +kernel
theorem d_M_appends_84 : decode m_M_appends.2.1 84 = .ok (.iaload, 1) := by decide +kernel
theorem d_M_appends_85 : decode m_M_appends.2.1 85 = .ok (.goto 4, 3) := by decide +kernel
theorem d_M_appends_88 : decode m_M_appends.2.1 88 = .ok (.iload_n 2, 1) := by decide +kernel
theorem d_M_appends_89 : decode m_M_appends.2.1 89 = .ok (.iastore, 1) := by decide +kernel
theorem d_M_appends_90 : decode m_M_appends.2.1 90 = .ok (.aload_n 0, 1) := by decide +kernel
theorem d_M_appends_91 : decode m_M_appends.2.1 91 = .ok (.getfield 152, 3) := by decide +kernel
theorem d_M_appends_94 : decode m_M_appends.2.1 94 = .ok (.iload_n 1, 1) := by decide +kernel
theorem d_M_appends_95 : decode m_M_appends.2.1 95 = .ok (.dup2, 1) := by decide +kernel
theorem d_M_appends_96 : decode m_M_appends.2.1 96 = .ok (.iaload, 1) := by decide +kernel
theorem d_M_appends_97 : decode m_M_appends.2.1 97 = .ok (.iload_n 3, 1) := by decide +kernel
theorem d_M_appends_98 : decode m_M_appends.2.1 98 = .ok (.ifCond .eq 12, 3) := by decide +kernel
theorem d_M_appends_101 : decode m_M_appends.2.1 101 = .ok (.aload_n 0, 1) := by decide +kernel
theorem d_M_appends_102 : decode m_M_appends.2.1 102 = .ok (.getfield 152, 3) := by decide +kernel
theorem d_M_appends_105 : decode m_M_appends.2.1 105 = .ok (.iload_n 2, 1) := by decide +kernel
theorem d_M_appends_106 : decode m_M_appends.2.1 106 = .ok (.iaload, 1) := by decide +kernel
theorem d_M_appends_107 : decode m_M_appends.2.1 107 = .ok (.goto 4, 3) := by decide +kernel
theorem d_M_appends_110 : decode m_M_appends.2.1 110 = .ok (.iconst 1, 1) := by decide +kernel
theorem d_M_appends_111 : decode m_M_appends.2.1 111 = .ok (.iadd, 1) := by decide +kernel
theorem d_M_appends_112 : decode m_M_appends.2.1 112 = .ok (.iastore, 1) := by decide +kernel
theorem d_M_appends_113 : decode m_M_appends.2.1 113 = .ok (.return_, 1) := by decide +kernel
theorem b_M_appends_0 {E : EV} {d : Nat} {Q : Option AV → St → Prop} {σ : St} (x1 x2 : Int) (hF : Fix σ) (h : (0 ≤ x2 ∧ x2 < 200) ∧ (0 ≤ x1 ∧ x1 < 200) ∧ (rI (σ.1 82 x2)) ∧ (rI (σ.1 82 x1)) ∧ ((¬ (σ.1 82 x2) = (σ.1 82 x1) → WP E m_M_appends d 20 [(0, aP 42), (1, aI x1), (2, aI x2)] [aI 0] σ Q) ∧ ((σ.1 82 x2) = (σ.1 82 x1) → WP E m_M_appends d 20 [(0, aP 42), (1, aI x1), (2, aI x2)] [aI 1] σ Q))) : WP E m_M_appends d 0 [(0, aP 42), (1, aI x1), (2, aI x2)] [] σ Q := by
  refine s_aload_n 0 d_M_appends_0 rfl rfl ?_
  refine s_getF (v := 82) d_M_appends_1 fl_M_134 rfl (sf_42 hF) (ff_67 hF) ?_
  refine s_iload_n 2 d_M_appends_4 rfl rfl ?_
  obtain ⟨g1, h⟩ := h
  refine s_ialoadv (v := σ.1 82 x2) d_M_appends_5 ⟨_, sf_82 hF, g1.1, g1.2, by have := g1.2; omega⟩ rfl ?_
  refine s_aload_n 0 d_M_appends_6 rfl rfl ?_
  refine s_getF (v := 82) d_M_appends_7 fl_M_134 rfl (sf_42 hF) (ff_67 hF) ?_
  refine s_iload_n 1 d_M_appends_10 rfl rfl ?_
  obtain ⟨g2, h⟩ := h
  refine s_ialoadv (v := σ.1 82 x1) d_M_appends_11 ⟨_, sf_82 hF, g2.1, g2.2, by have := g2.2; omega⟩ rfl ?_
  obtain ⟨g3, h⟩ := h
  obtain ⟨g4, h⟩ := h
  refine s_icmp_ne d_M_appends_12 rfl g3 g4 (fun c => ?_) (fun c => ?_)
  · have h := h.1 c
    refine s_iconst d_M_appends_19 ?_
    exact h
  · have h := h.2 c
    refine s_iconst d_M_appends_15 ?_
    refine s_goto d_M_appends_16 rfl ?_
    exact h
theorem e_M_appends {E : EV} {d : Nat} {Q : Option AV → St → Prop} {σ : St} (x1 x2 : Int) (hF : Fix σ) (h : (0 ≤ x2 ∧ x2 < 200) ∧ (0 ≤ x1 ∧ x1 < 200) ∧ (rI (σ.1 82 x2)) ∧ (rI (σ.1 82 x1)) ∧ ((¬ (σ.1 82 x2) = (σ.1 82 x1) → WP E m_M_appends d 20 [(0, aP 42), (1, aI x1), (2, aI x2)] [aI 0] σ Q) ∧ ((σ.1 82 x2) = (σ.1 82 x1) → WP E m_M_appends d 20 [(0, aP 42), (1, aI x1), (2, aI x2)] [aI 1] σ Q))) : WM E m_M_appends d [aP 42, aI x1, aI x2] σ Q := s_meth (by decide) (Nat.le_of_ble_eq_true rfl) rfl (b_M_appends_0 x1 x2 hF h)
theorem b_M_appends_20 {E : EV} {d : Nat} {Q : Option AV → St → Prop} {σ : St} (x1 x2 s0 : Int) (hF : Fix σ) (h : (rI s0) ∧ ((s0 = 0 → WP E m_M_appends d 35 [(0, aP 42), (1, aI x1), (2, aI x2), (3, aI s0)] [aI x2] σ Q) ∧ (¬ s0 = 0 → (0 ≤ x2 ∧ x2 < 200) ∧ WP E m_M_appends d 35 [(0, aP 42), (1, aI x1), (2, aI x2), (3, aI s0)] [aI (σ.1 85 x2)] σ Q))) : WP E m_M_appends d 20 [(0, aP 42), (1, aI x1), (2, aI x2)] [aI s0] σ Q := by
  refine s_istore_n d_M_appends_20 rfl (by decide) rfl ?_
  refine s_iload_n 0 d_M_appends_21 rfl rfl ?_
  obtain ⟨g1, h⟩ := h
  refine s_if_eq d_M_appends_22 rfl g1 (fun c => ?_) (fun c => ?_)
  · have h := h.1 c
    refine s_iload_n 3 d_M_appends_34 rfl rfl ?_
    refine wp_drop [1, 2, 3, 0] rfl ?_
    exact h
  · have h := h.2 c
    refine s_aload_n 1 d_M_appends_25 rfl rfl ?_
    refine s_getF (v := 85) d_M_appends_26 fl_M_143 rfl (sf_42 hF) (ff_70 hF) ?_
    refine s_iload_n 3 d_M_appends_29 rfl rfl ?_
    obtain ⟨g2, h⟩ := h
    refine s_ialoadv (v := σ.1 85 x2) d_M_appends_30 ⟨_, sf_85 hF, g2.1, g2.2, by have := g2.2; omega⟩ rfl ?_
    refine s_goto d_M_appends_31 rfl ?_
    refine wp_drop [1, 2, 3, 0] rfl ?_
    exact h
theorem b_M_appends_35 {E : EV} {d : Nat} {Q : Option AV → St → Prop} {σ : St} (x1 x2 x3 s0 : Int) (hF : Fix σ) (h : (0 ≤ x1 ∧ x1 < 200) ∧ (rI (σ.1 88 x1)) ∧ ((¬ (σ.1 88 x1) = 0 → (0 ≤ x1 ∧ x1 < 200) ∧ (0 ≤ (σ.1 86 x1) ∧ (σ.1 86 x1) < 200) ∧ WP E m_M_appends d 70 [(0, aP 42), (1, aI x1), (2, aI x2), (3, aI x3)] [] (wr σ 87 (σ.1 86 x1) s0) Q) ∧ ((σ.1 88 x1) = 0 → (0 ≤ x1 ∧ x1 < 200) ∧ WP E m_M_appends d 70 [(0, aP 42), (1, aI x1), (2, aI x2), (3, aI x3)] [] (wr σ 85 x1 s0) Q))) : WP E m_M_appends d 35 [(0, aP 42), (1, aI x1), (2, aI x2), (3, aI x3)] [aI s0] σ Q := by
  refine s_istore d_M_appends_35 (by decide) rfl ?_
  refine s_aload_n 1 d_M_appends_37 rfl rfl ?_
  refine s_getF (v := 88) d_M_appends_38 fl_M_152 rfl (sf_42 hF) (ff_73 hF) ?_
  refine s_iload_n 2 d_M_appends_41 rfl rfl ?_
  obtain ⟨g1, h⟩ := h
  refine s_ialoadv (v := σ.1 88 x1) d_M_appends_42 ⟨_, sf_88 hF, g1.1, g1.2, by have := g1.2; omega⟩ rfl ?_
  obtain ⟨g2, h⟩ := h
  refine s_if_ne d_M_appends_43 rfl g2 (fun c => ?_) (fun c => ?_)
  · have h := h.1 c
    refine s_aload_n 1 d_M_appends_57 rfl rfl ?_
    refine s_getF (v := 87) d_M_appends_58 fl_M_149 rfl (sf_42 hF) (ff_72 hF) ?_
    refine s_aload_n 1 d_M_appends_61 rfl rfl ?_
    refine s_getF (v := 86) d_M_appends_62 fl_M_146 rfl (sf_42 hF) (ff_71 hF) ?_
    refine s_iload_n 2 d_M_appends_65 rfl rfl ?_
    obtain ⟨g3, h⟩ := h
    refine s_ialoadv (v := σ.1 86 x1) d_M_appends_66 ⟨_, sf_86 hF, g3.1, g3.2, by have := g3.2; omega⟩ rfl ?_
    refine s_iload 0 d_M_appends_67 rfl ?_
    obtain ⟨g4, h⟩ := h
    refine s_iastore d_M_appends_69 ⟨_, sf_87 hF, g4.1, g4.2, by have := g4.2; omega⟩ ?_
    refine wp_drop [1, 2, 3, 4] rfl ?_
    exact h
  · have h := h.2 c
    refine s_aload_n 1 d_M_appends_46 rfl rfl ?_
    refine s_getF (v := 85) d_M_appends_47 fl_M_143 rfl (sf_42 hF) (ff_70 hF) ?_
    refine s_iload_n 2 d_M_appends_50 rfl rfl ?_
    refine s_iload 0 d_M_appends_51 rfl ?_
    obtain ⟨g5, h⟩ := h
    refine s_iastore d_M_appends_53 ⟨_, sf_85 hF, g5.1, g5.2, by have := g5.2; omega⟩ ?_
    refine s_goto d_M_appends_54 rfl ?_
    refine wp_drop [1, 2, 3, 4] rfl ?_
    exact h
theorem b_M_appends_70 {E : EV} {d : Nat} {Q : Option AV → St → Prop} {σ : St} (x1 x2 x3 : Int) (hF : Fix σ) (h : (rI x3) ∧ ((x3 = 0 → WP E m_M_appends d 89 [(0, aP 42), (1, aI x1), (2, aI x2), (3, aI x3)] [aI x2, aI x1, aP 86] σ Q) ∧ (¬ x3 = 0 → (0 ≤ x2 ∧ x2 < 200) ∧ WP E m_M_appends d 89 [(0, aP 42), (1, aI x1), (2, aI x2), (3, aI x3)] [aI (σ.1 86 x2), aI x1, aP 86] σ Q))) : WP E m_M_appends d 70 [(0, aP 42), (1, aI x1), (2, aI x2), (3, aI x3)] [] σ Q := by
  refine s_aload_n 0 d_M_appends_70 rfl rfl ?_
  refine s_getF (v := 86) d_M_appends_71 fl_M_146 rfl (sf_42 hF) (ff_71 hF) ?_
  refine s_iload_n 1 d_M_appends_74 rfl rfl ?_
  refine s_iload_n 3 d_M_appends_75 rfl rfl ?_
  obtain ⟨g1, h⟩ := h
  refine s_if_eq d_M_appends_76 rfl g1 (fun c => ?_) (fun c => ?_)
  · have h := h.1 c
    refine s_iload_n 2 d_M_appends_88 rfl rfl ?_
    exact h
  · have h := h.2 c
    refine s_aload_n 0 d_M_appends_79 rfl rfl ?_
    refine s_getF (v := 86) d_M_appends_80 fl_M_146 rfl (sf_42 hF) (ff_71 hF) ?_
    refine s_iload_n 2 d_M_appends_83 rfl rfl ?_
    obtain ⟨g2, h⟩ := h
    refine s_ialoadv (v := σ.1 86 x2) d_M_appends_84 ⟨_, sf_86 hF, g2.1, g2.2, by have := g2.2; omega⟩ rfl ?_
    refine s_goto d_M_appends_85 rfl ?_
    exact h
theorem b_M_appends_89 {E : EV} {d : Nat} {Q : Option AV → St → Prop} {σ : St} (x1 x2 x3 s0 s1 s2 : Int) (h : (inb σ s0 20 s1) ∧ (sh (wr σ s0 s1 s2) 42 = some (10, 74)) ∧ (inb (wr σ s0 s1 s2) ((wr σ s0 s1 s2).1 42 65) 20 x1) ∧ (rI x3) ∧ ((x3 = 0 → WP E m_M_appends d 111 [] [aI 1, aI ((wr σ s0 s1 s2).1 ((wr σ s0 s1 s2).1 42 65) x1), aI x1, aP ((wr σ s0 s1 s2).1 42 65)] (wr σ s0 s1 s2) Q) ∧ (¬ x3 = 0 → (sh (wr σ s0 s1 s2) 42 = some (10, 74)) ∧ (inb (wr σ s0 s1 s2) ((wr σ s0 s1 s2).1 42 65) 20 x2) ∧ WP E m_M_appends d 111 [] [aI ((wr σ s0 s1 s2).1 ((wr σ s0 s1 s2).1 42 65) x2), aI ((wr σ s0 s1 s2).1 ((wr σ s0 s1 s2).1 42 65) x1), aI x1, aP ((wr σ s0 s1 s2).1 42 65)] (wr σ s0 s1 s2) Q))) : WP E m_M_appends d 89 [(0, aP 42), (1, aI x1), (2, aI x2), (3, aI x3)] [aI s2, aI s1, aP s0] σ Q := by
  obtain ⟨g1, h⟩ := h
  refine s_iastore d_M_appends_89 g1 ?_
  refine s_aload_n 0 d_M_appends_90 rfl rfl ?_
  obtain ⟨g2, h⟩ := h
  refine s_getF (v := (wr σ s0 s1 s2).1 42 65) d_M_appends_91 fl_M_152 rfl g2 rfl ?_
  refine s_iload_n 1 d_M_appends_94 rfl rfl ?_
  refine s_dup2 d_M_appends_95 (Nat.ne_of_beq_eq_false rfl) (Nat.ne_of_beq_eq_false rfl) ?_
  obtain ⟨g3, h⟩ := h
  refine s_ialoadv (v := (wr σ s0 s1 s2).1 ((wr σ s0 s1 s2).1 42 65) x1) d_M_appends_96 g3 rfl ?_
  refine s_iload_n 3 d_M_appends_97 rfl rfl ?_
  obtain ⟨g4, h⟩ := h
  refine s_if_eq d_M_appends_98 rfl g4 (fun c => ?_) (fun c => ?_)
  · have h := h.1 c
    refine s_iconst d_M_appends_110 ?_
    refine wp_drop [] rfl ?_
    exact h
  · have h := h.2 c
    refine s_aload_n 0 d_M_appends_101 rfl rfl ?_
    obtain ⟨g5, h⟩ := h
    refine s_getF (v := (wr σ s0 s1 s2).1 42 65) d_M_appends_102 fl_M_152 rfl g5 rfl ?_
    refine s_iload_n 2 d_M_appends_105 rfl rfl ?_
    obtain ⟨g6, h⟩ := h
    refine s_ialoadv (v := (wr σ s0 s1 s2).1 ((wr σ s0 s1 s2).1 42 65) x2) d_M_appends_106 g6 rfl ?_
    refine s_goto d_M_appends_107 rfl ?_
    refine wp_drop [] rfl ?_
    exact h
theorem b_M_appends_111 {E : EV} {d : Nat} {Q : Option AV → St → Prop} {σ : St} (s0 s1 s2 s3 : Int) (h : (inb σ s0 20 s1) ∧ Q none (wr σ s0 s1 (s2 + s3))) : WP E m_M_appends d 111 [] [aI s3, aI s2, aI s1, aP s0] σ Q := by
  refine s_iadd d_M_appends_111 ?_
  obtain ⟨g1, h⟩ := h
  refine s_iastore d_M_appends_112 g1 ?_
  exact s_return d_M_appends_113 rfl h
theorem d_M_endsRow_0 : decode m_M_endsRow.2.1 0 = .ok (.aload_n 0, 1) := by decide +kernel
theorem d_M_endsRow_1 : decode m_M_endsRow.2.1 1 = .ok (.getfield 158, 3) := by decide +kernel
theorem d_M_endsRow_4 : decode m_M_endsRow.2.1 4 = .ok (.aload_n 0, 1) := by decide +kernel
theorem d_M_endsRow_5 : decode m_M_endsRow.2.1 5 = .ok (.getfield 464, 3) := by decide +kernel
theorem d_M_endsRow_8 : decode m_M_endsRow.2.1 8 = .ok (.iaload, 1) := by decide +kernel
theorem d_M_endsRow_9 : decode m_M_endsRow.2.1 9 = .ok (.istore_n 1, 1) := by decide +kernel
theorem d_M_endsRow_10 : decode m_M_endsRow.2.1 10 = .ok (.aload_n 0, 1) := by decide +kernel
theorem d_M_endsRow_11 : decode m_M_endsRow.2.1 11 = .ok (.aload_n 0, 1) := by decide +kernel
theorem d_M_endsRow_12 : decode m_M_endsRow.2.1 12 = .ok (.getfield 155, 3) := by decide +kernel
theorem d_M_endsRow_15 : decode m_M_endsRow.2.1 15 = .ok (.aload_n 0, 1) := by decide +kernel
theorem d_M_endsRow_16 : decode m_M_endsRow.2.1 16 = .ok (.getfield 464, 3) := by decide +kernel
theorem d_M_endsRow_19 : decode m_M_endsRow.2.1 19 = .ok (.iaload, 1) := by decide +kernel
theorem d_M_endsRow_20 : decode m_M_endsRow.2.1 20 = .ok (.aload_n 0, 1) := by decide +kernel
theorem d_M_endsRow_21 : decode m_M_endsRow.2.1 21 = .ok (.getfield 152, 3) := by decide +kernel
theorem d_M_endsRow_24 : decode m_M_endsRow.2.1 24 = .ok (.iload_n 1, 1) := by decide +kernel
theorem d_M_endsRow_25 : decode m_M_endsRow.2.1 25 = .ok (.iaload, 1) := by decide +kernel
theorem d_M_endsRow_26 : decode m_M_endsRow.2.1 26 = .ok (.aload_n 0, 1) := by decide +kernel
theorem d_M_endsRow_27 : decode m_M_endsRow.2.1 27 = .ok (.getfield 143, 3) := by decide +kernel
theorem d_M_endsRow_30 : decode m_M_endsRow.2.1 30 = .ok (.iload_n 1, 1) := by decide +kernel
theorem d_M_endsRow_31 : decode m_M_endsRow.2.1 31 = .ok (.iaload, 1) := by decide +kernel
theorem d_M_endsRow_32 : decode m_M_endsRow.2.1 32 = .ok (.iload_n 1, 1) := by decide +kernel
theorem d_M_endsRow_33 : decode m_M_endsRow.2.1 33 = .ok (.invokestatic 470, 3) := by decide +kernel
theorem d_M_endsRow_36 : decode m_M_endsRow.2.1 36 = .ok (.invokevirtual 473, 3) := by decide +kernel
theorem d_M_endsRow_39 : decode m_M_endsRow.2.1 39 = .ok (.return_, 1) := by decide +kernel
theorem b_M_endsRow_0 {E : EV} {d : Nat} {Q : Option AV → St → Prop} {σ : St} (hF : Fix σ) (h : (0 ≤ (σ.1 42 70) ∧ (σ.1 42 70) < 8) ∧ (0 ≤ (σ.1 42 70) ∧ (σ.1 42 70) < 8) ∧ (0 ≤ (σ.1 90 (σ.1 42 70)) ∧ (σ.1 90 (σ.1 42 70)) < 200) ∧ (0 ≤ (σ.1 90 (σ.1 42 70)) ∧ (σ.1 90 (σ.1 42 70)) < 200) ∧ (WMi E m_M_only d [aI (σ.1 88 (σ.1 90 (σ.1 42 70))), aI (σ.1 85 (σ.1 90 (σ.1 42 70))), aI (σ.1 90 (σ.1 42 70))] σ (fun v5 σ5 => Fix σ5 ∧ (WMv E m_M_appends d [aP 42, aI (σ.1 89 (σ.1 42 70)), aI v5] σ5 (fun σ6 => Q none σ6))))) : WP E m_M_endsRow (d + 1) 0 [(0, aP 42)] [] σ Q := by
  refine s_aload_n 0 d_M_endsRow_0 rfl rfl ?_
  refine s_getF (v := 90) d_M_endsRow_1 fl_M_158 rfl (sf_42 hF) (ff_75 hF) ?_
  refine s_aload_n 0 d_M_endsRow_4 rfl rfl ?_
  refine s_getF (v := σ.1 42 70) d_M_endsRow_5 fl_M_464 rfl (sf_42 hF) rfl ?_
  obtain ⟨g1, h⟩ := h
  refine s_ialoadv (v := σ.1 90 (σ.1 42 70)) d_M_endsRow_8 ⟨_, sf_90 hF, g1.1, g1.2, by have := g1.2; omega⟩ rfl ?_
  refine s_istore_n d_M_endsRow_9 rfl (by decide) rfl ?_
  refine s_aload_n 1 d_M_endsRow_10 rfl rfl ?_
  refine s_aload_n 1 d_M_endsRow_11 rfl rfl ?_
  refine s_getF (v := 89) d_M_endsRow_12 fl_M_155 rfl (sf_42 hF) (ff_74 hF) ?_
  refine s_aload_n 1 d_M_endsRow_15 rfl rfl ?_
  refine s_getF (v := σ.1 42 70) d_M_endsRow_16 fl_M_464 rfl (sf_42 hF) rfl ?_
  obtain ⟨g2, h⟩ := h
  refine s_ialoadv (v := σ.1 89 (σ.1 42 70)) d_M_endsRow_19 ⟨_, sf_89 hF, g2.1, g2.2, by have := g2.2; omega⟩ rfl ?_
  refine s_aload_n 1 d_M_endsRow_20 rfl rfl ?_
  refine s_getF (v := 88) d_M_endsRow_21 fl_M_152 rfl (sf_42 hF) (ff_73 hF) ?_
  refine s_iload_n 0 d_M_endsRow_24 rfl rfl ?_
  obtain ⟨g3, h⟩ := h
  refine s_ialoadv (v := σ.1 88 (σ.1 90 (σ.1 42 70))) d_M_endsRow_25 ⟨_, sf_88 hF, g3.1, g3.2, by have := g3.2; omega⟩ rfl ?_
  refine s_aload_n 1 d_M_endsRow_26 rfl rfl ?_
  refine s_getF (v := 85) d_M_endsRow_27 fl_M_143 rfl (sf_42 hF) (ff_70 hF) ?_
  refine s_iload_n 0 d_M_endsRow_30 rfl rfl ?_
  obtain ⟨g4, h⟩ := h
  refine s_ialoadv (v := σ.1 85 (σ.1 90 (σ.1 42 70))) d_M_endsRow_31 ⟨_, sf_85 hF, g4.1, g4.2, by have := g4.2; omega⟩ rfl ?_
  refine s_iload_n 0 d_M_endsRow_32 rfl rfl ?_
  refine s_callS (as := [aI (σ.1 88 (σ.1 90 (σ.1 42 70))), aI (σ.1 85 (σ.1 90 (σ.1 42 70))), aI (σ.1 90 (σ.1 42 70))]) d_M_endsRow_33 ok_M_only lk_M_470 to_M_only rfl (Nat.le_of_ble_eq_true rfl) rfl (WM.mono h ?_)
  rintro _ σ5 ⟨v5, rfl, hp, h⟩
  obtain ⟨hF5, h⟩ := h
  show WP E m_M_endsRow (d + 1) 36 [(1, aI (σ.1 90 (σ.1 42 70))), (0, aP 42)] [aI v5, aI (σ.1 89 (σ.1 42 70)), aP 42] σ5 Q
  refine s_callV (as := [aI (σ.1 89 (σ.1 42 70)), aI v5]) (ci := 10) d_M_endsRow_36 ok_M_appends lk_M_473 io_M_appends so_M_appends (by decide) rfl rfl rfl (Nat.le_of_ble_eq_true rfl) rfl (sf_42 hF5) (WM.mono h ?_)
  rintro _ σ6 ⟨rfl, hp, h⟩
  show WP E m_M_endsRow (d + 1) 39 [(1, aI (σ.1 90 (σ.1 42 70))), (0, aP 42)] [] σ6 Q
  exact s_return d_M_endsRow_39 rfl h
theorem e_M_endsRow {E : EV} {d : Nat} {Q : Option AV → St → Prop} {σ : St} (hF : Fix σ) (h : (0 ≤ (σ.1 42 70) ∧ (σ.1 42 70) < 8) ∧ (0 ≤ (σ.1 42 70) ∧ (σ.1 42 70) < 8) ∧ (0 ≤ (σ.1 90 (σ.1 42 70)) ∧ (σ.1 90 (σ.1 42 70)) < 200) ∧ (0 ≤ (σ.1 90 (σ.1 42 70)) ∧ (σ.1 90 (σ.1 42 70)) < 200) ∧ (WMi E m_M_only d [aI (σ.1 88 (σ.1 90 (σ.1 42 70))), aI (σ.1 85 (σ.1 90 (σ.1 42 70))), aI (σ.1 90 (σ.1 42 70))] σ (fun v5 σ5 => Fix σ5 ∧ (WMv E m_M_appends d [aP 42, aI (σ.1 89 (σ.1 42 70)), aI v5] σ5 (fun σ6 => Q none σ6))))) : WM E m_M_endsRow (d + 1) [aP 42] σ Q := s_meth (by decide) (Nat.le_of_ble_eq_true rfl) rfl (b_M_endsRow_0 hF h)
theorem d_M_only_0 : decode m_M_only.2.1 0 = .ok (.iload_n 0, 1) := by decide +kernel
theorem d_M_only_1 : decode m_M_only.2.1 1 = .ok (.iconst 1, 1) := by decide +kernel
theorem d_M_only_2 : decode m_M_only.2.1 2 = .ok (.if_icmp .ne 7, 3) := by decide +kernel
theorem d_M_only_5 : decode m_M_only.2.1 5 = .ok (.iload_n 1, 1) := by decide +kernel
theorem d_M_only_6 : decode m_M_only.2.1 6 = .ok (.goto 4, 3) := by decide +kernel
theorem d_M_only_9 : decode m_M_only.2.1 9 = .ok (.iload_n 2, 1) := by decide +kernel
theorem d_M_only_10 : decode m_M_only.2.1 10 = .ok (.ireturn, 1) := by decide +kernel
theorem b_M_only_0 {E : EV} {d : Nat} {Q : Option AV → St → Prop} {σ : St} (x0 x1 x2 : Int) (h : (rI x0) ∧ ((¬ x0 = 1 → Q (some (aI x2)) σ) ∧ (x0 = 1 → Q (some (aI x1)) σ))) : WP E m_M_only d 0 [(0, aI x0), (1, aI x1), (2, aI x2)] [] σ Q := by
  refine s_iload_n 0 d_M_only_0 rfl rfl ?_
  refine s_iconst d_M_only_1 ?_
  obtain ⟨g1, h⟩ := h
  refine s_icmp_ne d_M_only_2 rfl g1 (by decide) (fun c => ?_) (fun c => ?_)
  · have h := h.1 c
    refine s_iload_n 2 d_M_only_9 rfl rfl ?_
    exact s_ireturn d_M_only_10 rfl h
  · have h := h.2 c
    refine s_iload_n 1 d_M_only_5 rfl rfl ?_
    refine s_goto d_M_only_6 rfl ?_
    exact s_ireturn d_M_only_10 rfl h
theorem e_M_only {E : EV} {d : Nat} {Q : Option AV → St → Prop} {σ : St} (x0 x1 x2 : Int) (h : (rI x0) ∧ ((¬ x0 = 1 → Q (some (aI x2)) σ) ∧ (x0 = 1 → Q (some (aI x1)) σ))) : WM E m_M_only d [aI x0, aI x1, aI x2] σ Q := s_meth (by decide) (Nat.le_of_ble_eq_true rfl) rfl (b_M_only_0 x0 x1 x2 h)
theorem d_M_endsGroup_0 : decode m_M_endsGroup.2.1 0 = .ok (.aload_n 0, 1) := by decide +kernel
theorem d_M_endsGroup_1 : decode m_M_endsGroup.2.1 1 = .ok (.invokevirtual 476, 3) := by decide +kernel
theorem d_M_endsGroup_4 : decode m_M_endsGroup.2.1 4 = .ok (.aload_n 0, 1) := by decide +kernel
theorem d_M_endsGroup_5 : decode m_M_endsGroup.2.1 5 = .ok (.getfield 155, 3) := by decide +kernel
theorem d_M_endsGroup_8 : decode m_M_endsGroup.2.1 8 = .ok (.aload_n 0, 1) := by decide +kernel
theorem d_M_endsGroup_9 : decode m_M_endsGroup.2.1 9 = .ok (.getfield 464, 3) := by decide +kernel
theorem d_M_endsGroup_12 : decode m_M_endsGroup.2.1 12 = .ok (.iaload, 1) := by decide +kernel
theorem d_M_endsGroup_13 : decode m_M_endsGroup.2.1 13 = .ok (.istore_n 1, 1) := by decide +kernel
theorem d_M_endsGroup_14 : decode m_M_endsGroup.2.1 14 = .ok (.aload_n 0, 1) := by decide +kernel
theorem d_M_endsGroup_15 : decode m_M_endsGroup.2.1 15 = .ok (.getfield 152, 3) := by decide +kernel
theorem d_M_endsGroup_18 : decode m_M_endsGroup.2.1 18 = .ok (.iload_n 1, 1) := by decide +kernel
theorem d_M_endsGroup_19 : decode m_M_endsGroup.2.1 19 = .ok (.iaload, 1) := by decide +kernel
theorem d_M_endsGroup_20 : decode m_M_endsGroup.2.1 20 = .ok (.aload_n 0, 1) := by decide +kernel
theorem d_M_endsGroup_21 : decode m_M_endsGroup.2.1 21 = .ok (.getfield 143, 3) := by decide +kernel
theorem d_M_endsGroup_24 : decode m_M_endsGroup.2.1 24 = .ok (.iload_n 1, 1) := by decide +kernel
theorem d_M_endsGroup_25 : decode m_M_endsGroup.2.1 25 = .ok (.iaload, 1) := by decide +kernel
theorem d_M_endsGroup_26 : decode m_M_endsGroup.2.1 26 = .ok (.iload_n 1, 1) := by decide +kernel
theorem d_M_endsGroup_27 : decode m_M_endsGroup.2.1 27 = .ok (.invokestatic 470, 3) := by decide +kernel
theorem d_M_endsGroup_30 : decode m_M_endsGroup.2.1 30 = .ok (.ireturn, 1) := by decide +kernel
theorem b_M_endsGroup_0 {E : EV} {d : Nat} {Q : Option AV → St → Prop} {σ : St} (hF : Fix σ) (h : (WMv E m_M_endsRow d [aP 42] σ (fun σ1 => Fix σ1 ∧ (0 ≤ (σ1.1 42 70) ∧ (σ1.1 42 70) < 8) ∧ (0 ≤ (σ1.1 89 (σ1.1 42 70)) ∧ (σ1.1 89 (σ1.1 42 70)) < 200) ∧ (0 ≤ (σ1.1 89 (σ1.1 42 70)) ∧ (σ1.1 89 (σ1.1 42 70)) < 200) ∧ (WMi E m_M_only d [aI (σ1.1 88 (σ1.1 89 (σ1.1 42 70))), aI (σ1.1 85 (σ1.1 89 (σ1.1 42 70))), aI (σ1.1 89 (σ1.1 42 70))] σ1 (fun v5 σ5 => Q (some (aI v5)) σ5))))) : WP E m_M_endsGroup (d + 1) 0 [(0, aP 42)] [] σ Q := by
  refine s_aload_n 0 d_M_endsGroup_0 rfl rfl ?_
  refine s_callV (as := []) (ci := 10) d_M_endsGroup_1 ok_M_endsRow lk_M_476 io_M_endsRow so_M_endsRow (by decide) rfl rfl rfl (Nat.le_of_ble_eq_true rfl) rfl (sf_42 hF) (WM.mono h ?_)
  rintro _ σ1 ⟨rfl, hp, h⟩
  obtain ⟨hF1, h⟩ := h
  show WP E m_M_endsGroup (d + 1) 4 [(0, aP 42)] [] σ1 Q
  refine s_aload_n 0 d_M_endsGroup_4 rfl rfl ?_
  refine s_getF (v := 89) d_M_endsGroup_5 fl_M_155 rfl (sf_42 hF1) (ff_74 hF1) ?_
  refine s_aload_n 0 d_M_endsGroup_8 rfl rfl ?_
  refine s_getF (v := σ1.1 42 70) d_M_endsGroup_9 fl_M_464 rfl (sf_42 hF1) rfl ?_
  obtain ⟨g2, h⟩ := h
  refine s_ialoadv (v := σ1.1 89 (σ1.1 42 70)) d_M_endsGroup_12 ⟨_, sf_89 hF1, g2.1, g2.2, by have := g2.2; omega⟩ rfl ?_
  refine s_istore_n d_M_endsGroup_13 rfl (by decide) rfl ?_
  refine s_aload_n 1 d_M_endsGroup_14 rfl rfl ?_
  refine s_getF (v := 88) d_M_endsGroup_15 fl_M_152 rfl (sf_42 hF1) (ff_73 hF1) ?_
  refine s_iload_n 0 d_M_endsGroup_18 rfl rfl ?_
  obtain ⟨g3, h⟩ := h
  refine s_ialoadv (v := σ1.1 88 (σ1.1 89 (σ1.1 42 70))) d_M_endsGroup_19 ⟨_, sf_88 hF1, g3.1, g3.2, by have := g3.2; omega⟩ rfl ?_
  refine s_aload_n 1 d_M_endsGroup_20 rfl rfl ?_
  refine s_getF (v := 85) d_M_endsGroup_21 fl_M_143 rfl (sf_42 hF1) (ff_70 hF1) ?_
  refine s_iload_n 0 d_M_endsGroup_24 rfl rfl ?_
  obtain ⟨g4, h⟩ := h
  refine s_ialoadv (v := σ1.1 85 (σ1.1 89 (σ1.1 42 70))) d_M_endsGroup_25 ⟨_, sf_85 hF1, g4.1, g4.2, by have := g4.2; omega⟩ rfl ?_
  refine s_iload_n 0 d_M_endsGroup_26 rfl rfl ?_
  refine s_callS (as := [aI (σ1.1 88 (σ1.1 89 (σ1.1 42 70))), aI (σ1.1 85 (σ1.1 89 (σ1.1 42 70))), aI (σ1.1 89 (σ1.1 42 70))]) d_M_endsGroup_27 ok_M_only lk_M_470 to_M_only rfl (Nat.le_of_ble_eq_true rfl) rfl (WM.mono h ?_)
  rintro _ σ5 ⟨v5, rfl, hp, h⟩
  show WP E m_M_endsGroup (d + 1) 30 [(1, aI (σ1.1 89 (σ1.1 42 70))), (0, aP 42)] [aI v5] σ5 Q
  exact s_ireturn d_M_endsGroup_30 rfl h
theorem e_M_endsGroup {E : EV} {d : Nat} {Q : Option AV → St → Prop} {σ : St} (hF : Fix σ) (h : (WMv E m_M_endsRow d [aP 42] σ (fun σ1 => Fix σ1 ∧ (0 ≤ (σ1.1 42 70) ∧ (σ1.1 42 70) < 8) ∧ (0 ≤ (σ1.1 89 (σ1.1 42 70)) ∧ (σ1.1 89 (σ1.1 42 70)) < 200) ∧ (0 ≤ (σ1.1 89 (σ1.1 42 70)) ∧ (σ1.1 89 (σ1.1 42 70)) < 200) ∧ (WMi E m_M_only d [aI (σ1.1 88 (σ1.1 89 (σ1.1 42 70))), aI (σ1.1 85 (σ1.1 89 (σ1.1 42 70))), aI (σ1.1 89 (σ1.1 42 70))] σ1 (fun v5 σ5 => Q (some (aI v5)) σ5))))) : WM E m_M_endsGroup (d + 1) [aP 42] σ Q := s_meth (by decide) (Nat.le_of_ble_eq_true rfl) rfl (b_M_endsGroup_0 hF h)
theorem d_M_flattens_0 : decode m_M_flattens.2.1 0 = .ok (.aload_n 0, 1) := by decide +kernel
theorem d_M_flattens_1 : decode m_M_flattens.2.1 1 = .ok (.invokevirtual 293, 3) := by decide +kernel
theorem d_M_flattens_4 : decode m_M_flattens.2.1 4 = .ok (.aload_n 0, 1) := by decide +kernel
theorem d_M_flattens_5 : decode m_M_flattens.2.1 5 = .ok (.getfield 164, 3) := by decide +kernel
theorem d_M_flattens_8 : decode m_M_flattens.2.1 8 = .ok (.iconst 0, 1) := by decide +kernel
theorem d_M_flattens_9 : decode m_M_flattens.2.1 9 = .ok (.iload_n 1, 1) := by decide +kernel
theorem d_M_flattens_10 : decode m_M_flattens.2.1 10 = .ok (.iastore, 1) := by decide +kernel
theorem d_M_flattens_11 : decode m_M_flattens.2.1 11 = .ok (.iconst 1, 1) := by decide +kernel
theorem d_M_flattens_12 : decode m_M_flattens.2.1 12 = .ok (.istore_n 2, 1) := by decide +kernel
theorem d_M_flattens_13 : decode m_M_flattens.2.1 13 = .ok (.iload_n 2, 1) := by decide +kernel
theorem d_M_flattens_14 : decode m_M_flattens.2.1 14 = .ok (.ifCond .le 173, 3) := by decide +kernel
theorem d_M_flattens_17 : decode m_M_flattens.2.1 17 = .ok (.iinc 2 (-1), 3) := by decide +kernel
theorem d_M_flattens_20 : decode m_M_flattens.2.1 20 = .ok (.aload_n 0, 1) := by decide +kernel
theorem d_M_flattens_21 : decode m_M_flattens.2.1 21 = .ok (.getfield 164, 3) := by decide +kernel
theorem d_M_flattens_24 : decode m_M_flattens.2.1 24 = .ok (.iload_n 2, 1) := by decide +kernel
theorem d_M_flattens_25 : decode m_M_flattens.2.1 25 = .ok (.iaload, 1) := by decide +kernel
theorem d_M_flattens_26 : decode m_M_flattens.2.1 26 = .ok (.istore_n 3, 1) := by decide +kernel
theorem d_M_flattens_27 : decode m_M_flattens.2.1 27 = .ok (.aload_n 0, 1) := by decide +kernel
theorem d_M_flattens_28 : decode m_M_flattens.2.1 28 = .ok (.getfield 134, 3) := by decide +kernel
theorem d_M_flattens_31 : decode m_M_flattens.2.1 31 = .ok (.iload_n 3, 1) := by decide +kernel
theorem d_M_flattens_32 : decode m_M_flattens.2.1 32 = .ok (.iaload, 1) := by decide +kernel
theorem d_M_flattens_33 : decode m_M_flattens.2.1 33 = .ok (.ifCond .ne 63, 3) := by decide +kernel
theorem d_M_flattens_36 : decode m_M_flattens.2.1 36 = .ok (.aload_n 0, 1) := by decide +kernel
theorem d_M_flattens_37 : decode m_M_flattens.2.1 37 = .ok (.aload_n 0, 1) := by decide +kernel
theorem d_M_flattens_38 : decode m_M_flattens.2.1 38 = .ok (.getfield 137, 3) := by decide +kernel
theorem d_M_flattens_41 : decode m_M_flattens.2.1 41 = .ok (.iload_n 3, 1) := by decide +kernel
theorem d_M_flattens_42 : decode m_M_flattens.2.1 42 = .ok (.iaload, 1) := by decide +kernel
theorem d_M_flattens_43 : decode m_M_flattens.2.1 43 = .ok (.iconst 1, 1) := by decide +kernel
theorem d_M_flattens_44 : decode m_M_flattens.2.1 44 = .ok (.iadd, 1) := by decide +kernel
theorem d_M_flattens_45 : decode m_M_flattens.2.1 45 = .ok (.aload_n 0, 1) := by decide +kernel
theorem d_M_flattens_46 : decode m_M_flattens.2.1 46 = .ok (.getfield 140, 3) := by decide +kernel
theorem d_M_flattens_49 : decode m_M_flattens.2.1 49 = .ok (.iload_n 3, 1) := by decide +kernel
theorem d_M_flattens_50 : decode m_M_flattens.2.1 50 = .ok (.iaload, 1) := by decide +kernel
theorem d_M_flattens_51 : decode m_M_flattens.2.1 51 = .ok (.iconst (-1), 1) := by decide +kernel
theorem d_M_flattens_52 : decode m_M_flattens.2.1 52 = .ok (.if_icmp .ne 7, 3) := by decide +kernel
theorem d_M_flattens_55 : decode m_M_flattens.2.1 55 = .ok (.iconst 0, 1) := by decide +kernel
theorem d_M_flattens_56 : decode m_M_flattens.2.1 56 = .ok (.goto 5, 3) := by decide +kernel
theorem d_M_flattens_59 : decode m_M_flattens.2.1 59 = .ok (.bipush 100, 2) := by decide +kernel
theorem d_M_flattens_61 : decode m_M_flattens.2.1 61 = .ok (.iadd, 1) := by decide +kernel
theorem d_M_flattens_62 : decode m_M_flattens.2.1 62 = .ok (.invokevirtual 195, 3) := by decide +kernel
theorem d_M_flattens_65 : decode m_M_flattens.2.1 65 = .ok (.aload_n 0, 1) := by decide +kernel
theorem d_M_flattens_66 : decode m_M_flattens.2.1 66 = .ok (.getfield 140, 3) := by decide +kernel
theorem d_M_flattens_69 : decode m_M_flattens.2.1 69 = .ok (.iload_n 3, 1) := by decide +kernel
theorem d_M_flattens_70 : decode m_M_flattens.2.1 70 = .ok (.iaload, 1) := by decide +kernel
theorem d_M_flattens_71 : decode m_M_flattens.2.1 71 = .ok (.iconst (-1), 1) := by decide +kernel
theorem d_M_flattens_72 : decode m_M_flattens.2.1 72 = .ok (.if_icmp .ne 6, 3) := by decide +kernel
theorem d_M_flattens_75 : decode m_M_flattens.2.1 75 = .ok (.goto (-62), 3) := by decide +kernel
theorem d_M_flattens_78 : decode m_M_flattens.2.1 78 = .ok (.aload_n 0, 1) := by decide +kernel
theorem d_M_flattens_79 : decode m_M_flattens.2.1 79 = .ok (.getfield 164, 3) := by decide +kernel
theorem d_M_flattens_82 : decode m_M_flattens.2.1 82 = .ok (.iload_n 2, 1) := by decide +kernel
theorem d_M_flattens_83 : decode m_M_flattens.2.1 83 = .ok (.aload_n 0, 1) := by decide +kernel
theorem d_M_flattens_84 : decode m_M_flattens.2.1 84 = .ok (.getfield 140, 3) := by decide +kernel
theorem d_M_flattens_87 : decode m_M_flattens.2.1 87 = .ok (.iload_n 3, 1) := by decide +kernel
theorem d_M_flattens_88 : decode m_M_flattens.2.1 88 = .ok (.iaload, 1) := by decide +kernel
theorem d_M_flattens_89 : decode m_M_flattens.2.1 89 = .ok (.iastore, 1) := by decide +kernel
theorem d_M_flattens_90 : decode m_M_flattens.2.1 90 = .ok (.iinc 2 1, 3) := by decide +kernel
theorem d_M_flattens_93 : decode m_M_flattens.2.1 93 = .ok (.goto (-80), 3) := by decide +kernel
theorem d_M_flattens_96 : decode m_M_flattens.2.1 96 = .ok (.aload_n 0, 1) := by decide +kernel
theorem d_M_flattens_97 : decode m_M_flattens.2.1 97 = .ok (.aload_n 0, 1) := by decide +kernel
theorem d_M_flattens_98 : decode m_M_flattens.2.1 98 = .ok (.getfield 134, 3) := by decide +kernel
theorem d_M_flattens_101 : decode m_M_flattens.2.1 101 = .ok (.iload_n 3, 1) := by decide +kernel
theorem d_M_flattens_102 : decode m_M_flattens.2.1 102 = .ok (.iaload, 1) := by decide +kernel
theorem d_M_flattens_103 : decode m_M_flattens.2.1 103 = .ok (.iconst 1, 1) := by decide +kernel
theorem d_M_flattens_104 : decode m_M_flattens.2.1 104 = .ok (.if_icmp .ne 9, 3) := by decide +kernel
theorem d_M_flattens_107 : decode m_M_flattens.2.1 107 = .ok (.sipush 200, 3) := by decide +kernel
theorem d_M_flattens_110 : decode m_M_flattens.2.1 110 = .ok (.goto 6, 3) := by decide +kernel
theorem d_M_flattens_113 : decode m_M_flattens.2.1 113 = .ok (.sipush 300, 3) := by decide +kernel
theorem d_M_flattens_116 : decode m_M_flattens.2.1 116 = .ok (.aload_n 0, 1) := by decide +kernel
theorem d_M_flattens_117 : decode m_M_flattens.2.1 117 = .ok (.getfield 152, 3) := by decide +kernel
theorem d_M_flattens_120 : decode m_M_flattens.2.1 120 = .ok (.iload_n 3, 1) := by decide +kernel
theorem d_M_flattens_121 : decode m_M_flattens.2.1 121 = .ok (.iaload, 1) := by decide +kernel
theorem d_M_flattens_122 : decode m_M_flattens.2.1 122 = .ok (.iadd, 1) := by decide +kernel
theorem d_M_flattens_123 : decode m_M_flattens.2.1 123 = .ok (.invokevirtual 195, 3) := by decide +kernel
theorem d_M_flattens_126 : decode m_M_flattens.2.1 126 = .ok (.aload_n 0, 1) := by decide +kernel
theorem d_M_flattens_127 : decode m_M_flattens.2.1 127 = .ok (.getfield 143, 3) := by decide +kernel
theorem d_M_flattens_130 : decode m_M_flattens.2.1 130 = .ok (.iload_n 3, 1) := by decide +kernel
theorem d_M_flattens_131 : decode m_M_flattens.2.1 131 = .ok (.iaload, 1) := by decide +kernel
theorem d_M_flattens_132 : decode m_M_flattens.2.1 132 = .ok (.istore 4, 2) := by decide +kernel
theorem d_M_flattens_134 : decode m_M_flattens.2.1 134 = .ok (.aload_n 0, 1) := by decide +kernel
theorem d_M_flattens_135 : decode m_M_flattens.2.1 135 = .ok (.getfield 152, 3) := by decide +kernel
theorem d_M_flattens_138 : decode m_M_flattens.2.1 138 = .ok (.iload_n 3, 1) := by decide +kernel
theorem d_M_flattens_139 : decode m_M_flattens.2.1 139 = .ok (.iaload, 1) := by decide +kernel
theorem d_M_flattens_140 : decode m_M_flattens.2.1 140 = .ok (.iconst 1, 1) := by decide +kernel
theorem d_M_flattens_141 : decode m_M_flattens.2.1 141 = .ok (.isub, 1) := by decide +kernel
theorem d_M_flattens_142 : decode m_M_flattens.2.1 142 = .ok (.istore 5, 2) := by decide +kernel
theorem d_M_flattens_144 : decode m_M_flattens.2.1 144 = .ok (.iload 5, 2) := by decide +kernel
theorem d_M_flattens_146 : decode m_M_flattens.2.1 146 = .ok (.ifCond .lt 29, 3) := by decide +kernel
theorem d_M_flattens_149 : decode m_M_flattens.2.1 149 = .ok (.aload_n 0, 1) := by decide +kernel
theorem d_M_flattens_150 : decode m_M_flattens.2.1 150 = .ok (.getfield 164, 3) := by decide +kernel
theorem d_M_flattens_153 : decode m_M_flattens.2.1 153 = .ok (.iload_n 2, 1) := by decide +kernel
theorem d_M_flattens_154 : decode m_M_flattens.2.1 154 = .ok (.iload 5, 2) := by decide +kernel
theorem d_M_flattens_156 : decode m_M_flattens.2.1 156 = .ok (.iadd, 1) := by decide +kernel
theorem d_M_flattens_157 : decode m_M_flattens.2.1 157 = .ok (.iload 4, 2) := by decide +kernel
theorem d_M_flattens_159 : decode m_M_flattens.2.1 159 = .ok (.iastore, 1) := by decide +kernel
theorem d_M_flattens_160 : decode m_M_flattens.2.1 160 = .ok (.aload_n 0, 1) := by decide +kernel
theorem d_M_flattens_161 : decode m_M_flattens.2.1 161 = .ok (.getfield 149, 3) := by decide +kernel
theorem d_M_flattens_164 : decode m_M_flattens.2.1 164 = .ok (.iload 4, 2) := by decide +kernel
theorem d_M_flattens_166 : decode m_M_flattens.2.1 166 = .ok (.iaload, 1) := by decide +kernel
theorem d_M_flattens_167 : decode m_M_flattens.2.1 167 = .ok (.istore 4, 2) := by decide +kernel
theorem d_M_flattens_169 : decode m_M_flattens.2.1 169 = .ok (.iinc 5 (-1), 3) := by decide +kernel
theorem d_M_flattens_172 : decode m_M_flattens.2.1 172 = .ok (.goto (-28), 3) := by decide +kernel
theorem d_M_flattens_175 : decode m_M_flattens.2.1 175 = .ok (.iload_n 2, 1) := by decide +kernel
theorem d_M_flattens_176 : decode m_M_flattens.2.1 176 = .ok (.aload_n 0, 1) := by decide +kernel
theorem d_M_flattens_177 : decode m_M_flattens.2.1 177 = .ok (.getfield 152, 3) := by decide +kernel
theorem d_M_flattens_180 : decode m_M_flattens.2.1 180 = .ok (.iload_n 3, 1) := by decide +kernel
theorem d_M_flattens_181 : decode m_M_flattens.2.1 181 = .ok (.iaload, 1) := by decide +kernel
theorem d_M_flattens_182 : decode m_M_flattens.2.1 182 = .ok (.iadd, 1) := by decide +kernel
theorem d_M_flattens_183 : decode m_M_flattens.2.1 183 = .ok (.istore_n 2, 1) := by decide +kernel
theorem d_M_flattens_184 : decode m_M_flattens.2.1 184 = .ok (.goto (-171), 3) := by decide +kernel
theorem d_M_flattens_187 : decode m_M_flattens.2.1 187 = .ok (.return_, 1) := by decide +kernel
theorem b_M_flattens_0 {E : EV} {d : Nat} {Q : Option AV → St → Prop} {σ : St} (x1 : Int) (hF : Fix σ) (h : (WMv E m_M_opens d [aP 42] σ (fun σ1 => Fix σ1 ∧ WP E m_M_flattens (d + 1) 13 [(0, aP 42), (2, aI 1)] [] (wr σ1 92 0 x1) Q))) : WP E m_M_flattens (d + 1) 0 [(0, aP 42), (1, aI x1)] [] σ Q := by
  refine s_aload_n 0 d_M_flattens_0 rfl rfl ?_
  refine s_callV (as := []) (ci := 10) d_M_flattens_1 ok_M_opens lk_M_293 io_M_opens so_M_opens (by decide) rfl rfl rfl (Nat.le_of_ble_eq_true rfl) rfl (sf_42 hF) (WM.mono h ?_)
  rintro _ σ1 ⟨rfl, hp, h⟩
  obtain ⟨hF1, h⟩ := h
  show WP E m_M_flattens (d + 1) 4 [(0, aP 42), (1, aI x1)] [] σ1 Q
  refine s_aload_n 0 d_M_flattens_4 rfl rfl ?_
  refine s_getF (v := 92) d_M_flattens_5 fl_M_164 rfl (sf_42 hF1) (ff_77 hF1) ?_
  refine s_iconst d_M_flattens_8 ?_
  refine s_iload_n 1 d_M_flattens_9 rfl rfl ?_
  refine s_iastore d_M_flattens_10 ⟨_, sf_92 hF1, by decide, by decide, by decide⟩ ?_
  refine s_iconst d_M_flattens_11 ?_
  refine s_istore_n d_M_flattens_12 rfl (by decide) rfl ?_
  refine wp_drop [1, 0] rfl ?_
  exact h
theorem e_M_flattens {E : EV} {d : Nat} {Q : Option AV → St → Prop} {σ : St} (x1 : Int) (hF : Fix σ) (h : (WMv E m_M_opens d [aP 42] σ (fun σ1 => Fix σ1 ∧ WP E m_M_flattens (d + 1) 13 [(0, aP 42), (2, aI 1)] [] (wr σ1 92 0 x1) Q))) : WM E m_M_flattens (d + 1) [aP 42, aI x1] σ Q := s_meth (by decide) (Nat.le_of_ble_eq_true rfl) rfl (b_M_flattens_0 x1 hF h)
theorem b_M_flattens_13 {E : EV} {d : Nat} {Q : Option AV → St → Prop} {σ : St} (x2 : Int) (hF : Fix σ) (h : (rI x2) ∧ ((x2 ≤ 0 → Q none σ) ∧ (¬ x2 ≤ 0 → (0 ≤ (x2 + (-1)) ∧ (x2 + (-1)) < 48) ∧ (0 ≤ (σ.1 92 (x2 + (-1))) ∧ (σ.1 92 (x2 + (-1))) < 200) ∧ (rI (σ.1 82 (σ.1 92 (x2 + (-1))))) ∧ ((¬ (σ.1 82 (σ.1 92 (x2 + (-1)))) = 0 → (0 ≤ (σ.1 92 (x2 + (-1))) ∧ (σ.1 92 (x2 + (-1))) < 200) ∧ (rI (σ.1 82 (σ.1 92 (x2 + (-1))))) ∧ ((¬ (σ.1 82 (σ.1 92 (x2 + (-1)))) = 1 → WP E m_M_flattens (d + 1) 116 [(0, aP 42), (2, aI (x2 + (-1))), (3, aI (σ.1 92 (x2 + (-1))))] [aI 300, aP 42] σ Q) ∧ ((σ.1 82 (σ.1 92 (x2 + (-1)))) = 1 → WP E m_M_flattens (d + 1) 116 [(0, aP 42), (2, aI (x2 + (-1))), (3, aI (σ.1 92 (x2 + (-1))))] [aI 200, aP 42] σ Q))) ∧ ((σ.1 82 (σ.1 92 (x2 + (-1)))) = 0 → (0 ≤ (σ.1 92 (x2 + (-1))) ∧ (σ.1 92 (x2 + (-1))) < 200) ∧ (0 ≤ (σ.1 92 (x2 + (-1))) ∧ (σ.1 92 (x2 + (-1))) < 200) ∧ (rI (σ.1 84 (σ.1 92 (x2 + (-1))))) ∧ ((¬ (σ.1 84 (σ.1 92 (x2 + (-1)))) = (-1) → WP E m_M_flattens (d + 1) 61 [(0, aP 42), (2, aI (x2 + (-1))), (3, aI (σ.1 92 (x2 + (-1))))] [aI 100, aI ((σ.1 83 (σ.1 92 (x2 + (-1)))) + 1), aP 42] σ Q) ∧ ((σ.1 84 (σ.1 92 (x2 + (-1)))) = (-1) → WP E m_M_flattens (d + 1) 61 [(0, aP 42), (2, aI (x2 + (-1))), (3, aI (σ.1 92 (x2 + (-1))))] [aI 0, aI ((σ.1 83 (σ.1 92 (x2 + (-1)))) + 1), aP 42] σ Q))))))) : WP E m_M_flattens (d + 1) 13 [(0, aP 42), (2, aI x2)] [] σ Q := by
  refine s_iload_n 1 d_M_flattens_13 rfl rfl ?_
  obtain ⟨g1, h⟩ := h
  refine s_if_le d_M_flattens_14 rfl g1 (fun c => ?_) (fun c => ?_)
  · have h := h.1 c
    exact s_return d_M_flattens_187 rfl h
  · have h := h.2 c
    refine s_iinc 1 d_M_flattens_17 rfl (by decide) rfl ?_
    refine s_aload_n 1 d_M_flattens_20 rfl rfl ?_
    refine s_getF (v := 92) d_M_flattens_21 fl_M_164 rfl (sf_42 hF) (ff_77 hF) ?_
    refine s_iload_n 0 d_M_flattens_24 rfl rfl ?_
    obtain ⟨g2, h⟩ := h
    refine s_ialoadv (v := σ.1 92 (x2 + (-1))) d_M_flattens_25 ⟨_, sf_92 hF, g2.1, g2.2, by have := g2.2; omega⟩ rfl ?_
    refine s_istore_n d_M_flattens_26 rfl (by decide) rfl ?_
    refine s_aload_n 2 d_M_flattens_27 rfl rfl ?_
    refine s_getF (v := 82) d_M_flattens_28 fl_M_134 rfl (sf_42 hF) (ff_67 hF) ?_
    refine s_iload_n 0 d_M_flattens_31 rfl rfl ?_
    obtain ⟨g3, h⟩ := h
    refine s_ialoadv (v := σ.1 82 (σ.1 92 (x2 + (-1)))) d_M_flattens_32 ⟨_, sf_82 hF, g3.1, g3.2, by have := g3.2; omega⟩ rfl ?_
    obtain ⟨g4, h⟩ := h
    refine s_if_ne d_M_flattens_33 rfl g4 (fun c => ?_) (fun c => ?_)
    · have h := h.1 c
      refine s_aload_n 2 d_M_flattens_96 rfl rfl ?_
      refine s_aload_n 2 d_M_flattens_97 rfl rfl ?_
      refine s_getF (v := 82) d_M_flattens_98 fl_M_134 rfl (sf_42 hF) (ff_67 hF) ?_
      refine s_iload_n 0 d_M_flattens_101 rfl rfl ?_
      obtain ⟨g5, h⟩ := h
      refine s_ialoadv (v := σ.1 82 (σ.1 92 (x2 + (-1)))) d_M_flattens_102 ⟨_, sf_82 hF, g5.1, g5.2, by have := g5.2; omega⟩ rfl ?_
      refine s_iconst d_M_flattens_103 ?_
      obtain ⟨g6, h⟩ := h
      refine s_icmp_ne d_M_flattens_104 rfl g6 (by decide) (fun c => ?_) (fun c => ?_)
      · have h := h.1 c
        refine s_sipush d_M_flattens_113 (by decide) ?_
        refine wp_drop [2, 1, 0] rfl ?_
        exact h
      · have h := h.2 c
        refine s_sipush d_M_flattens_107 (by decide) ?_
        refine s_goto d_M_flattens_110 rfl ?_
        refine wp_drop [2, 1, 0] rfl ?_
        exact h
    · have h := h.2 c
      refine s_aload_n 2 d_M_flattens_36 rfl rfl ?_
      refine s_aload_n 2 d_M_flattens_37 rfl rfl ?_
      refine s_getF (v := 83) d_M_flattens_38 fl_M_137 rfl (sf_42 hF) (ff_68 hF) ?_
      refine s_iload_n 0 d_M_flattens_41 rfl rfl ?_
      obtain ⟨g7, h⟩ := h
      refine s_ialoadv (v := σ.1 83 (σ.1 92 (x2 + (-1)))) d_M_flattens_42 ⟨_, sf_83 hF, g7.1, g7.2, by have := g7.2; omega⟩ rfl ?_
      refine s_iconst d_M_flattens_43 ?_
      refine s_iadd d_M_flattens_44 ?_
      refine s_aload_n 2 d_M_flattens_45 rfl rfl ?_
      refine s_getF (v := 84) d_M_flattens_46 fl_M_140 rfl (sf_42 hF) (ff_69 hF) ?_
      refine s_iload_n 0 d_M_flattens_49 rfl rfl ?_
      obtain ⟨g8, h⟩ := h
      refine s_ialoadv (v := σ.1 84 (σ.1 92 (x2 + (-1)))) d_M_flattens_50 ⟨_, sf_84 hF, g8.1, g8.2, by have := g8.2; omega⟩ rfl ?_
      refine s_iconst d_M_flattens_51 ?_
      obtain ⟨g9, h⟩ := h
      refine s_icmp_ne d_M_flattens_52 rfl g9 (by decide) (fun c => ?_) (fun c => ?_)
      · have h := h.1 c
        refine s_bipush d_M_flattens_59 (by decide) ?_
        refine wp_drop [2, 1, 0] rfl ?_
        exact h
      · have h := h.2 c
        refine s_iconst d_M_flattens_55 ?_
        refine s_goto d_M_flattens_56 rfl ?_
        refine wp_drop [2, 1, 0] rfl ?_
        exact h
theorem b_M_flattens_61 {E : EV} {d : Nat} {Q : Option AV → St → Prop} {σ : St} (x2 x3 s0 s1 s2 : Int) (hF : Fix σ) (h : (sh σ s0 = some (10, 74)) ∧ (WMv E m_M_adds d [aP s0, aI (s1 + s2)] σ (fun σ1 => Fix σ1 ∧ (0 ≤ x3 ∧ x3 < 200) ∧ (rI (σ1.1 84 x3)) ∧ ((¬ (σ1.1 84 x3) = (-1) → (0 ≤ x3 ∧ x3 < 200) ∧ (0 ≤ x2 ∧ x2 < 48) ∧ WP E m_M_flattens (d + 1) 13 [(0, aP 42), (2, aI (x2 + 1))] [] (wr σ1 92 x2 (σ1.1 84 x3)) Q) ∧ ((σ1.1 84 x3) = (-1) → WP E m_M_flattens (d + 1) 13 [(0, aP 42), (2, aI x2)] [] σ1 Q))))) : WP E m_M_flattens (d + 1) 61 [(0, aP 42), (2, aI x2), (3, aI x3)] [aI s2, aI s1, aP s0] σ Q := by
  refine s_iadd d_M_flattens_61 ?_
  obtain ⟨g2, h⟩ := h
  refine s_callV (as := [aI (s1 + s2)]) (ci := 10) d_M_flattens_62 ok_M_adds lk_M_195 io_M_adds so_M_adds (by decide) rfl rfl rfl (Nat.le_of_ble_eq_true rfl) rfl g2 (WM.mono h ?_)
  rintro _ σ1 ⟨rfl, hp, h⟩
  obtain ⟨hF2, h⟩ := h
  show WP E m_M_flattens (d + 1) 65 [(0, aP 42), (2, aI x2), (3, aI x3)] [] σ1 Q
  refine s_aload_n 0 d_M_flattens_65 rfl rfl ?_
  refine s_getF (v := 84) d_M_flattens_66 fl_M_140 rfl (sf_42 hF2) (ff_69 hF2) ?_
  refine s_iload_n 2 d_M_flattens_69 rfl rfl ?_
  obtain ⟨g3, h⟩ := h
  refine s_ialoadv (v := σ1.1 84 x3) d_M_flattens_70 ⟨_, sf_84 hF2, g3.1, g3.2, by have := g3.2; omega⟩ rfl ?_
  refine s_iconst d_M_flattens_71 ?_
  obtain ⟨g4, h⟩ := h
  refine s_icmp_ne d_M_flattens_72 rfl g4 (by decide) (fun c => ?_) (fun c => ?_)
  · have h := h.1 c
    refine s_aload_n 0 d_M_flattens_78 rfl rfl ?_
    refine s_getF (v := 92) d_M_flattens_79 fl_M_164 rfl (sf_42 hF2) (ff_77 hF2) ?_
    refine s_iload_n 1 d_M_flattens_82 rfl rfl ?_
    refine s_aload_n 0 d_M_flattens_83 rfl rfl ?_
    refine s_getF (v := 84) d_M_flattens_84 fl_M_140 rfl (sf_42 hF2) (ff_69 hF2) ?_
    refine s_iload_n 2 d_M_flattens_87 rfl rfl ?_
    obtain ⟨g5, h⟩ := h
    refine s_ialoadv (v := σ1.1 84 x3) d_M_flattens_88 ⟨_, sf_84 hF2, g5.1, g5.2, by have := g5.2; omega⟩ rfl ?_
    obtain ⟨g6, h⟩ := h
    refine s_iastore d_M_flattens_89 ⟨_, sf_92 hF2, g6.1, g6.2, by have := g6.2; omega⟩ ?_
    refine s_iinc 1 d_M_flattens_90 rfl (by decide) rfl ?_
    refine s_goto d_M_flattens_93 rfl ?_
    refine wp_drop [1, 0] rfl ?_
    exact h
  · have h := h.2 c
    refine s_goto d_M_flattens_75 rfl ?_
    refine wp_drop [0, 1] rfl ?_
    exact h
theorem b_M_flattens_116 {E : EV} {d : Nat} {Q : Option AV → St → Prop} {σ : St} (x2 x3 s0 s1 : Int) (hF : Fix σ) (h : (0 ≤ x3 ∧ x3 < 200) ∧ (sh σ s0 = some (10, 74)) ∧ (WMv E m_M_adds d [aP s0, aI (s1 + (σ.1 88 x3))] σ (fun σ2 => Fix σ2 ∧ (0 ≤ x3 ∧ x3 < 200) ∧ (0 ≤ x3 ∧ x3 < 200) ∧ WP E m_M_flattens (d + 1) 144 [(0, aP 42), (2, aI x2), (3, aI x3), (4, aI (σ2.1 85 x3)), (5, aI ((σ2.1 88 x3) - 1))] [] σ2 Q))) : WP E m_M_flattens (d + 1) 116 [(0, aP 42), (2, aI x2), (3, aI x3)] [aI s1, aP s0] σ Q := by
  refine s_aload_n 0 d_M_flattens_116 rfl rfl ?_
  refine s_getF (v := 88) d_M_flattens_117 fl_M_152 rfl (sf_42 hF) (ff_73 hF) ?_
  refine s_iload_n 2 d_M_flattens_120 rfl rfl ?_
  obtain ⟨g1, h⟩ := h
  refine s_ialoadv (v := σ.1 88 x3) d_M_flattens_121 ⟨_, sf_88 hF, g1.1, g1.2, by have := g1.2; omega⟩ rfl ?_
  refine s_iadd d_M_flattens_122 ?_
  obtain ⟨g3, h⟩ := h
  refine s_callV (as := [aI (s1 + (σ.1 88 x3))]) (ci := 10) d_M_flattens_123 ok_M_adds lk_M_195 io_M_adds so_M_adds (by decide) rfl rfl rfl (Nat.le_of_ble_eq_true rfl) rfl g3 (WM.mono h ?_)
  rintro _ σ2 ⟨rfl, hp, h⟩
  obtain ⟨hF3, h⟩ := h
  show WP E m_M_flattens (d + 1) 126 [(0, aP 42), (2, aI x2), (3, aI x3)] [] σ2 Q
  refine s_aload_n 0 d_M_flattens_126 rfl rfl ?_
  refine s_getF (v := 85) d_M_flattens_127 fl_M_143 rfl (sf_42 hF3) (ff_70 hF3) ?_
  refine s_iload_n 2 d_M_flattens_130 rfl rfl ?_
  obtain ⟨g4, h⟩ := h
  refine s_ialoadv (v := σ2.1 85 x3) d_M_flattens_131 ⟨_, sf_85 hF3, g4.1, g4.2, by have := g4.2; omega⟩ rfl ?_
  refine s_istore d_M_flattens_132 (by decide) rfl ?_
  refine s_aload_n 1 d_M_flattens_134 rfl rfl ?_
  refine s_getF (v := 88) d_M_flattens_135 fl_M_152 rfl (sf_42 hF3) (ff_73 hF3) ?_
  refine s_iload_n 3 d_M_flattens_138 rfl rfl ?_
  obtain ⟨g5, h⟩ := h
  refine s_ialoadv (v := σ2.1 88 x3) d_M_flattens_139 ⟨_, sf_88 hF3, g5.1, g5.2, by have := g5.2; omega⟩ rfl ?_
  refine s_iconst d_M_flattens_140 ?_
  refine s_isub d_M_flattens_141 ?_
  refine s_istore d_M_flattens_142 (by decide) rfl ?_
  refine wp_drop [2, 3, 4, 1, 0] rfl ?_
  exact h
theorem b_M_flattens_144 {E : EV} {d : Nat} {Q : Option AV → St → Prop} {σ : St} (x2 x3 x4 x5 : Int) (hF : Fix σ) (h : (rI x5) ∧ ((x5 < 0 → (0 ≤ x3 ∧ x3 < 200) ∧ WP E m_M_flattens (d + 1) 13 [(0, aP 42), (2, aI (x2 + (σ.1 88 x3)))] [] σ Q) ∧ (¬ x5 < 0 → (0 ≤ (x2 + x5) ∧ (x2 + x5) < 48) ∧ (0 ≤ x4 ∧ x4 < 200) ∧ WP E m_M_flattens (d + 1) 144 [(0, aP 42), (2, aI x2), (3, aI x3), (4, aI (σ.1 87 x4)), (5, aI (x5 + (-1)))] [] (wr σ 92 (x2 + x5) x4) Q))) : WP E m_M_flattens (d + 1) 144 [(0, aP 42), (2, aI x2), (3, aI x3), (4, aI x4), (5, aI x5)] [] σ Q := by
  refine s_iload 4 d_M_flattens_144 rfl ?_
  obtain ⟨g1, h⟩ := h
  refine s_if_lt d_M_flattens_146 rfl g1 (fun c => ?_) (fun c => ?_)
  · have h := h.1 c
    refine s_iload_n 1 d_M_flattens_175 rfl rfl ?_
    refine s_aload_n 0 d_M_flattens_176 rfl rfl ?_
    refine s_getF (v := 88) d_M_flattens_177 fl_M_152 rfl (sf_42 hF) (ff_73 hF) ?_
    refine s_iload_n 2 d_M_flattens_180 rfl rfl ?_
    obtain ⟨g2, h⟩ := h
    refine s_ialoadv (v := σ.1 88 x3) d_M_flattens_181 ⟨_, sf_88 hF, g2.1, g2.2, by have := g2.2; omega⟩ rfl ?_
    refine s_iadd d_M_flattens_182 ?_
    refine s_istore_n d_M_flattens_183 rfl (by decide) rfl ?_
    refine s_goto d_M_flattens_184 rfl ?_
    refine wp_drop [1, 0] rfl ?_
    exact h
  · have h := h.2 c
    refine s_aload_n 0 d_M_flattens_149 rfl rfl ?_
    refine s_getF (v := 92) d_M_flattens_150 fl_M_164 rfl (sf_42 hF) (ff_77 hF) ?_
    refine s_iload_n 1 d_M_flattens_153 rfl rfl ?_
    refine s_iload 4 d_M_flattens_154 rfl ?_
    refine s_iadd d_M_flattens_156 ?_
    refine s_iload 3 d_M_flattens_157 rfl ?_
    obtain ⟨g3, h⟩ := h
    refine s_iastore d_M_flattens_159 ⟨_, sf_92 hF, g3.1, g3.2, by have := g3.2; omega⟩ ?_
    refine s_aload_n 0 d_M_flattens_160 rfl rfl ?_
    refine s_getF (v := 87) d_M_flattens_161 fl_M_149 rfl (sf_42 (hF.wa (a := 92) (by decide))) (ff_72 (hF.wa (a := 92) (by decide))) ?_
    refine s_iload 3 d_M_flattens_164 rfl ?_
    obtain ⟨g4, h⟩ := h
    refine s_ialoadv (v := σ.1 87 x4) d_M_flattens_166 ⟨_, sf_87 (hF.wa (a := 92) (by decide)), g4.1, g4.2, by have := g4.2; omega⟩ rfl ?_
    refine s_istore d_M_flattens_167 (by decide) rfl ?_
    refine s_iinc 4 d_M_flattens_169 rfl (by decide) rfl ?_
    refine s_goto d_M_flattens_172 rfl ?_
    refine wp_drop [2, 3, 4, 1, 0] rfl ?_
    exact h
