theorem d_M_at_0 : decode m_M_at.2.1 0 = .ok (.aload_n 0, 1) := by decide +kernel
theorem d_M_at_1 : decode m_M_at.2.1 1 = .ok (.iload_n 1, 1) := by decide +kernel
theorem d_M_at_2 : decode m_M_at.2.1 2 = .ok (.iload_n 2, 1) := by decide +kernel
theorem d_M_at_3 : decode m_M_at.2.1 3 = .ok (.invokevirtual 206, 3) := by decide +kernel
theorem d_M_at_6 : decode m_M_at.2.1 6 = .ok (.ifCond .eq 41, 3) := by decide +kernel
theorem d_M_at_9 : decode m_M_at.2.1 9 = .ok (.iload_n 3, 1) := by decide +kernel
theorem d_M_at_10 : decode m_M_at.2.1 10 = .ok (.sipush (-10000), 3) := by decide +kernel
theorem d_M_at_13 : decode m_M_at.2.1 13 = .ok (.sipush 10000, 3) := by decide +kernel
theorem d_M_at_16 : decode m_M_at.2.1 16 = .ok (.invokestatic 167, 3) := by decide +kernel
theorem d_M_at_19 : decode m_M_at.2.1 19 = .ok (.ifCond .eq 28, 3) := by decide +kernel
theorem d_M_at_22 : decode m_M_at.2.1 22 = .ok (.iload 4, 2) := by decide +kernel
theorem d_M_at_24 : decode m_M_at.2.1 24 = .ok (.sipush (-10000), 3) := by decide +kernel
theorem d_M_at_27 : decode m_M_at.2.1 27 = .ok (.sipush 10000, 3) := by decide +kernel
theorem d_M_at_30 : decode m_M_at.2.1 30 = .ok (.invokestatic 167, 3) := by decide +kernel
theorem d_M_at_33 : decode m_M_at.2.1 33 = .ok (.ifCond .eq 14, 3) := by decide +kernel
theorem d_M_at_36 : decode m_M_at.2.1 36 = .ok (.iload 5, 2) := by decide +kernel
theorem d_M_at_38 : decode m_M_at.2.1 38 = .ok (.iconst 1, 1) := by decide +kernel
theorem d_M_at_39 : decode m_M_at.2.1 39 = .ok (.bipush 100, 2) := by decide +kernel
theorem d_M_at_41 : decode m_M_at.2.1 41 = .ok (.invokestatic 167, 3) := by decide +kernel
theorem d_M_at_44 : decode m_M_at.2.1 44 = .ok (.ifCond .ne 5, 3) := by decide +kernel
theorem d_M_at_47 : decode m_M_at.2.1 47 = .ok (.iconst (-1), 1) := by decide +kernel
theorem d_M_at_48 : decode m_M_at.2.1 48 = .ok (.ireturn, 1) := by decide +kernel
theorem d_M_at_49 : decode m_M_at.2.1 49 = .ok (.aload_n 0, 1) := by decide +kernel
theorem d_M_at_50 : decode m_M_at.2.1 50 = .ok (.iload_n 1, 1) := by decide +kernel
theorem d_M_at_51 : decode m_M_at.2.1 51 = .ok (.iload_n 2, 1) := by decide +kernel
theorem d_M_at_52 : decode m_M_at.2.1 52 = .ok (.invokevirtual 210, 3) := by decide +kernel
theorem d_M_at_55 : decode m_M_at.2.1 55 = .ok (.aload_n 0, 1) := by decide +kernel
theorem d_M_at_56 : decode m_M_at.2.1 56 = .ok (.invokevirtual 263, 3) := by decide +kernel
theorem d_M_at_59 : decode m_M_at.2.1 59 = .ok (.bipush (-2), 2) := by decide +kernel
theorem d_M_at_61 : decode m_M_at.2.1 61 = .ok (.istore 6, 2) := by decide +kernel
theorem d_M_at_63 : decode m_M_at.2.1 63 = .ok (.iconst 0, 1) := by decide +kernel
theorem d_M_at_64 : decode m_M_at.2.1 64 = .ok (.istore 7, 2) := by decide +kernel
theorem d_M_at_66 : decode m_M_at.2.1 66 = .ok (.iconst 0, 1) := by decide +kernel
theorem d_M_at_67 : decode m_M_at.2.1 67 = .ok (.istore 8, 2) := by decide +kernel
theorem d_M_at_69 : decode m_M_at.2.1 69 = .ok (.iload 8, 2) := by decide +kernel
theorem d_M_at_71 : decode m_M_at.2.1 71 = .ok (.aload_n 0, 1) := by decide +kernel
theorem d_M_at_72 : decode m_M_at.2.1 72 = .ok (.getfield 189, 3) := by decide +kernel
theorem d_M_at_75 : decode m_M_at.2.1 75 = .ok (.if_icmp .ge 65, 3) := by decide +kernel
theorem d_M_at_78 : decode m_M_at.2.1 78 = .ok (.aload_n 0, 1) := by decide +kernel
theorem d_M_at_79 : decode m_M_at.2.1 79 = .ok (.getfield 35, 3) := by decide +kernel
theorem d_M_at_82 : decode m_M_at.2.1 82 = .ok (.iload 8, 2) := by decide +kernel
theorem d_M_at_84 : decode m_M_at.2.1 84 = .ok (.iaload, 1) := by decide +kernel
theorem d_M_at_85 : decode m_M_at.2.1 85 = .ok (.invokestatic 199, 3) := by decide +kernel
theorem d_M_at_88 : decode m_M_at.2.1 88 = .ok (.ifCond .ne 6, 3) := by decide +kernel
theorem d_M_at_91 : decode m_M_at.2.1 91 = .ok (.goto 43, 3) := by decide +kernel
theorem d_M_at_94 : decode m_M_at.2.1 94 = .ok (.aload_n 0, 1) := by decide +kernel
theorem d_M_at_95 : decode m_M_at.2.1 95 = .ok (.iload 8, 2) := by decide +kernel
theorem d_M_at_97 : decode m_M_at.2.1 97 = .ok (.iconst 0, 1) := by decide +kernel
theorem d_M_at_98 : decode m_M_at.2.1 98 = .ok (.aload_n 0, 1) := by decide +kernel
theorem d_M_at_99 : decode m_M_at.2.1 99 = .ok (.iload_n 1, 1) := by decide +kernel
theorem d_M_at_100 : decode m_M_at.2.1 100 = .ok (.invokevirtual 266, 3) := by decide +kernel
theorem d_M_at_103 : decode m_M_at.2.1 103 = .ok (.iload_n 3, 1) := by decide +kernel
theorem d_M_at_104 : decode m_M_at.2.1 104 = .ok (.iload 5, 2) := by decide +kernel
theorem d_M_at_106 : decode m_M_at.2.1 106 = .ok (.invokevirtual 277, 3) := by decide +kernel
theorem d_M_at_109 : decode m_M_at.2.1 109 = .ok (.ifCond .eq 22, 3) := by decide +kernel
theorem d_M_at_112 : decode m_M_at.2.1 112 = .ok (.aload_n 0, 1) := by decide +kernel
theorem d_M_at_113 : decode m_M_at.2.1 113 = .ok (.iload 8, 2) := by decide +kernel
theorem d_M_at_115 : decode m_M_at.2.1 115 = .ok (.iconst 1, 1) := by decide +kernel
theorem d_M_at_116 : decode m_M_at.2.1 116 = .ok (.iconst 0, 1) := by decide +kernel
theorem d_M_at_117 : decode m_M_at.2.1 117 = .ok (.iload 4, 2) := by decide +kernel
theorem d_M_at_119 : decode m_M_at.2.1 119 = .ok (.iload 5, 2) := by decide +kernel
theorem d_M_at_121 : decode m_M_at.2.1 121 = .ok (.invokevirtual 277, 3) := by decide +kernel
theorem d_M_at_124 : decode m_M_at.2.1 124 = .ok (.ifCond .eq 7, 3) := by decide +kernel
theorem d_M_at_127 : decode m_M_at.2.1 127 = .ok (.iload 7, 2) := by decide +kernel
theorem d_M_at_129 : decode m_M_at.2.1 129 = .ok (.istore 6, 2) := by decide +kernel
theorem d_M_at_131 : decode m_M_at.2.1 131 = .ok (.iinc 7 1, 3) := by decide +kernel
theorem d_M_at_134 : decode m_M_at.2.1 134 = .ok (.iinc 8 1, 3) := by decide +kernel
theorem d_M_at_137 : decode m_M_at.2.1 137 = .ok (.goto (-68), 3) := by decide +kernel
theorem d_M_at_140 : decode m_M_at.2.1 140 = .ok (.iload 6, 2) := by decide +kernel
theorem d_M_at_142 : decode m_M_at.2.1 142 = .ok (.ireturn, 1) := by decide +kernel
theorem b_M_at_0 {E : EV} {d : Nat} {Q : Option AV → St → Prop} {σ : St} (x1 x2 x3 x4 x5 : Int) (hF : Fix σ) (h : (WMi E m_M_isSquare d [aP 42, aI x1, aI x2] σ (fun v1 σ1 => Fix σ1 ∧ (rI v1) ∧ ((v1 = 0 → Q (some (aI (-1))) σ1) ∧ (¬ v1 = 0 → (WMi E m_M_in d [aI x3, aI (-10000), aI 10000] σ1 (fun v3 σ3 => Fix σ3 ∧ (rI v3) ∧ ((v3 = 0 → Q (some (aI (-1))) σ3) ∧ (¬ v3 = 0 → (WMi E m_M_in d [aI x4, aI (-10000), aI 10000] σ3 (fun v5 σ5 => Fix σ5 ∧ (rI v5) ∧ ((v5 = 0 → Q (some (aI (-1))) σ5) ∧ (¬ v5 = 0 → (WMi E m_M_in d [aI x5, aI 1, aI 100] σ5 (fun v7 σ7 => Fix σ7 ∧ (rI v7) ∧ ((¬ v7 = 0 → (WMv E m_M_takes d [aP 42, aI x1, aI x2] σ7 (fun σ9 => Fix σ9 ∧ (WMv E m_M_places d [aP 42] σ9 (fun σ10 => WP E m_M_at (d + 1) 69 [(0, aP 42), (1, aI x1), (3, aI x3), (4, aI x4), (5, aI x5), (6, aI (-2)), (7, aI 0), (8, aI 0)] [] σ10 Q))))) ∧ (v7 = 0 → Q (some (aI (-1))) σ7))))))))))))))))) : WP E m_M_at (d + 1) 0 [(0, aP 42), (1, aI x1), (2, aI x2), (3, aI x3), (4, aI x4), (5, aI x5)] [] σ Q := by
  refine s_aload_n 0 d_M_at_0 rfl rfl ?_
  refine s_iload_n 1 d_M_at_1 rfl rfl ?_
  refine s_iload_n 2 d_M_at_2 rfl rfl ?_
  refine s_callV (as := [aI x1, aI x2]) (ci := 10) d_M_at_3 ok_M_isSquare lk_M_206 io_M_isSquare so_M_isSquare (by decide) rfl rfl rfl (Nat.le_of_ble_eq_true rfl) rfl (sf_42 hF) (WM.mono h ?_)
  rintro _ σ1 ⟨v1, rfl, hp, h⟩
  obtain ⟨hF1, h⟩ := h
  show WP E m_M_at (d + 1) 6 [(0, aP 42), (1, aI x1), (2, aI x2), (3, aI x3), (4, aI x4), (5, aI x5)] [aI v1] σ1 Q
  obtain ⟨g2, h⟩ := h
  refine s_if_eq d_M_at_6 rfl g2 (fun c => ?_) (fun c => ?_)
  · have h := h.1 c
    refine s_iconst d_M_at_47 ?_
    exact s_ireturn d_M_at_48 rfl h
  · have h := h.2 c
    refine s_iload_n 3 d_M_at_9 rfl rfl ?_
    refine s_sipush d_M_at_10 (by decide) ?_
    refine s_sipush d_M_at_13 (by decide) ?_
    refine s_callS (as := [aI x3, aI (-10000), aI 10000]) d_M_at_16 ok_M_in lk_M_167 to_M_in rfl (Nat.le_of_ble_eq_true rfl) rfl (WM.mono h ?_)
    rintro _ σ3 ⟨v3, rfl, hp, h⟩
    obtain ⟨hF3, h⟩ := h
    show WP E m_M_at (d + 1) 19 [(0, aP 42), (1, aI x1), (2, aI x2), (3, aI x3), (4, aI x4), (5, aI x5)] [aI v3] σ3 Q
    obtain ⟨g4, h⟩ := h
    refine s_if_eq d_M_at_19 rfl g4 (fun c => ?_) (fun c => ?_)
    · have h := h.1 c
      refine s_iconst d_M_at_47 ?_
      exact s_ireturn d_M_at_48 rfl h
    · have h := h.2 c
      refine s_iload 4 d_M_at_22 rfl ?_
      refine s_sipush d_M_at_24 (by decide) ?_
      refine s_sipush d_M_at_27 (by decide) ?_
      refine s_callS (as := [aI x4, aI (-10000), aI 10000]) d_M_at_30 ok_M_in lk_M_167 to_M_in rfl (Nat.le_of_ble_eq_true rfl) rfl (WM.mono h ?_)
      rintro _ σ5 ⟨v5, rfl, hp, h⟩
      obtain ⟨hF5, h⟩ := h
      show WP E m_M_at (d + 1) 33 [(0, aP 42), (1, aI x1), (2, aI x2), (3, aI x3), (4, aI x4), (5, aI x5)] [aI v5] σ5 Q
      obtain ⟨g6, h⟩ := h
      refine s_if_eq d_M_at_33 rfl g6 (fun c => ?_) (fun c => ?_)
      · have h := h.1 c
        refine s_iconst d_M_at_47 ?_
        exact s_ireturn d_M_at_48 rfl h
      · have h := h.2 c
        refine s_iload 5 d_M_at_36 rfl ?_
        refine s_iconst d_M_at_38 ?_
        refine s_bipush d_M_at_39 (by decide) ?_
        refine s_callS (as := [aI x5, aI 1, aI 100]) d_M_at_41 ok_M_in lk_M_167 to_M_in rfl (Nat.le_of_ble_eq_true rfl) rfl (WM.mono h ?_)
        rintro _ σ7 ⟨v7, rfl, hp, h⟩
        obtain ⟨hF7, h⟩ := h
        show WP E m_M_at (d + 1) 44 [(0, aP 42), (1, aI x1), (2, aI x2), (3, aI x3), (4, aI x4), (5, aI x5)] [aI v7] σ7 Q
        obtain ⟨g8, h⟩ := h
        refine s_if_ne d_M_at_44 rfl g8 (fun c => ?_) (fun c => ?_)
        · have h := h.1 c
          refine s_aload_n 0 d_M_at_49 rfl rfl ?_
          refine s_iload_n 1 d_M_at_50 rfl rfl ?_
          refine s_iload_n 2 d_M_at_51 rfl rfl ?_
          refine s_callV (as := [aI x1, aI x2]) (ci := 10) d_M_at_52 ok_M_takes lk_M_210 io_M_takes so_M_takes (by decide) rfl rfl rfl (Nat.le_of_ble_eq_true rfl) rfl (sf_42 hF7) (WM.mono h ?_)
          rintro _ σ9 ⟨rfl, hp, h⟩
          obtain ⟨hF9, h⟩ := h
          show WP E m_M_at (d + 1) 55 [(0, aP 42), (1, aI x1), (2, aI x2), (3, aI x3), (4, aI x4), (5, aI x5)] [] σ9 Q
          refine s_aload_n 0 d_M_at_55 rfl rfl ?_
          refine s_callV (as := []) (ci := 10) d_M_at_56 ok_M_places lk_M_263 io_M_places so_M_places (by decide) rfl rfl rfl (Nat.le_of_ble_eq_true rfl) rfl (sf_42 hF9) (WM.mono h ?_)
          rintro _ σ10 ⟨rfl, hp, h⟩
          show WP E m_M_at (d + 1) 59 [(0, aP 42), (1, aI x1), (2, aI x2), (3, aI x3), (4, aI x4), (5, aI x5)] [] σ10 Q
          refine s_bipush d_M_at_59 (by decide) ?_
          refine s_istore d_M_at_61 (by decide) rfl ?_
          refine s_iconst d_M_at_63 ?_
          refine s_istore d_M_at_64 (by decide) rfl ?_
          refine s_iconst d_M_at_66 ?_
          refine s_istore d_M_at_67 (by decide) rfl ?_
          refine wp_drop [3, 4, 6, 7, 8, 2, 1, 0] rfl ?_
          exact h
        · have h := h.2 c
          refine s_iconst d_M_at_47 ?_
          exact s_ireturn d_M_at_48 rfl h
theorem e_M_at {E : EV} {d : Nat} {Q : Option AV → St → Prop} {σ : St} (x1 x2 x3 x4 x5 : Int) (hF : Fix σ) (h : (WMi E m_M_isSquare d [aP 42, aI x1, aI x2] σ (fun v1 σ1 => Fix σ1 ∧ (rI v1) ∧ ((v1 = 0 → Q (some (aI (-1))) σ1) ∧ (¬ v1 = 0 → (WMi E m_M_in d [aI x3, aI (-10000), aI 10000] σ1 (fun v3 σ3 => Fix σ3 ∧ (rI v3) ∧ ((v3 = 0 → Q (some (aI (-1))) σ3) ∧ (¬ v3 = 0 → (WMi E m_M_in d [aI x4, aI (-10000), aI 10000] σ3 (fun v5 σ5 => Fix σ5 ∧ (rI v5) ∧ ((v5 = 0 → Q (some (aI (-1))) σ5) ∧ (¬ v5 = 0 → (WMi E m_M_in d [aI x5, aI 1, aI 100] σ5 (fun v7 σ7 => Fix σ7 ∧ (rI v7) ∧ ((¬ v7 = 0 → (WMv E m_M_takes d [aP 42, aI x1, aI x2] σ7 (fun σ9 => Fix σ9 ∧ (WMv E m_M_places d [aP 42] σ9 (fun σ10 => WP E m_M_at (d + 1) 69 [(0, aP 42), (1, aI x1), (3, aI x3), (4, aI x4), (5, aI x5), (6, aI (-2)), (7, aI 0), (8, aI 0)] [] σ10 Q))))) ∧ (v7 = 0 → Q (some (aI (-1))) σ7))))))))))))))))) : WM E m_M_at (d + 1) [aP 42, aI x1, aI x2, aI x3, aI x4, aI x5] σ Q := s_meth (by decide) (Nat.le_of_ble_eq_true rfl) rfl (b_M_at_0 x1 x2 x3 x4 x5 hF h)
theorem b_M_at_69 {E : EV} {d : Nat} {Q : Option AV → St → Prop} {σ : St} (x1 x3 x4 x5 x6 x7 x8 : Int) (hF : Fix σ) (h : (rI x8) ∧ (rI (σ.1 42 10)) ∧ (((σ.1 42 10) ≤ x8 → Q (some (aI x6)) σ) ∧ (¬ (σ.1 42 10) ≤ x8 → (0 ≤ x8 ∧ x8 < 24) ∧ (WMi E m_M_isSign d [aI (σ.1 50 x8)] σ (fun v4 σ4 => Fix σ4 ∧ (rI v4) ∧ ((¬ v4 = 0 → (WMi E m_M_isLeft d [aP 42, aI x1] σ4 (fun v6 σ6 => Fix σ6 ∧ (WMi E m_M_isWithin d [aP 42, aI x8, aI 0, aI v6, aI x3, aI x5] σ6 (fun v7 σ7 => Fix σ7 ∧ (rI v7) ∧ ((v7 = 0 → WP E m_M_at (d + 1) 131 [(0, aP 42), (1, aI x1), (3, aI x3), (4, aI x4), (5, aI x5), (6, aI x6), (7, aI x7), (8, aI x8)] [] σ7 Q) ∧ (¬ v7 = 0 → (WMi E m_M_isWithin d [aP 42, aI x8, aI 1, aI 0, aI x4, aI x5] σ7 (fun v9 σ9 => (rI v9) ∧ ((v9 = 0 → WP E m_M_at (d + 1) 131 [(0, aP 42), (1, aI x1), (3, aI x3), (4, aI x4), (5, aI x5), (6, aI x6), (7, aI x7), (8, aI x8)] [] σ9 Q) ∧ (¬ v9 = 0 → WP E m_M_at (d + 1) 131 [(0, aP 42), (1, aI x1), (3, aI x3), (4, aI x4), (5, aI x5), (6, aI x7), (7, aI x7), (8, aI x8)] [] σ9 Q))))))))))) ∧ (v4 = 0 → WP E m_M_at (d + 1) 134 [(0, aP 42), (1, aI x1), (3, aI x3), (4, aI x4), (5, aI x5), (6, aI x6), (7, aI x7), (8, aI x8)] [] σ4 Q))))))) : WP E m_M_at (d + 1) 69 [(0, aP 42), (1, aI x1), (3, aI x3), (4, aI x4), (5, aI x5), (6, aI x6), (7, aI x7), (8, aI x8)] [] σ Q := by
  refine s_iload 7 d_M_at_69 rfl ?_
  refine s_aload_n 0 d_M_at_71 rfl rfl ?_
  refine s_getF (v := σ.1 42 10) d_M_at_72 fl_M_189 rfl (sf_42 hF) rfl ?_
  obtain ⟨g1, h⟩ := h
  obtain ⟨g2, h⟩ := h
  refine s_icmp_ge d_M_at_75 rfl g1 g2 (fun c => ?_) (fun c => ?_)
  · have h := h.1 c
    refine s_iload 5 d_M_at_140 rfl ?_
    exact s_ireturn d_M_at_142 rfl h
  · have h := h.2 c
    refine s_aload_n 0 d_M_at_78 rfl rfl ?_
    refine s_getF (v := 50) d_M_at_79 fl_M_35 rfl (sf_42 hF) (ff_35 hF) ?_
    refine s_iload 7 d_M_at_82 rfl ?_
    obtain ⟨g3, h⟩ := h
    refine s_ialoadv (v := σ.1 50 x8) d_M_at_84 ⟨_, sf_50 hF, g3.1, g3.2, by have := g3.2; omega⟩ rfl ?_
    refine s_callS (as := [aI (σ.1 50 x8)]) d_M_at_85 ok_M_isSign lk_M_199 to_M_isSign rfl (Nat.le_of_ble_eq_true rfl) rfl (WM.mono h ?_)
    rintro _ σ4 ⟨v4, rfl, hp, h⟩
    obtain ⟨hF4, h⟩ := h
    show WP E m_M_at (d + 1) 88 [(0, aP 42), (1, aI x1), (3, aI x3), (4, aI x4), (5, aI x5), (6, aI x6), (7, aI x7), (8, aI x8)] [aI v4] σ4 Q
    obtain ⟨g5, h⟩ := h
    refine s_if_ne d_M_at_88 rfl g5 (fun c => ?_) (fun c => ?_)
    · have h := h.1 c
      refine s_aload_n 0 d_M_at_94 rfl rfl ?_
      refine s_iload 7 d_M_at_95 rfl ?_
      refine s_iconst d_M_at_97 ?_
      refine s_aload_n 0 d_M_at_98 rfl rfl ?_
      refine s_iload_n 1 d_M_at_99 rfl rfl ?_
      refine s_callV (as := [aI x1]) (ci := 10) d_M_at_100 ok_M_isLeft lk_M_266 io_M_isLeft so_M_isLeft (by decide) rfl rfl rfl (Nat.le_of_ble_eq_true rfl) rfl (sf_42 hF4) (WM.mono h ?_)
      rintro _ σ6 ⟨v6, rfl, hp, h⟩
      obtain ⟨hF6, h⟩ := h
      show WP E m_M_at (d + 1) 103 [(0, aP 42), (1, aI x1), (3, aI x3), (4, aI x4), (5, aI x5), (6, aI x6), (7, aI x7), (8, aI x8)] [aI v6, aI 0, aI x8, aP 42] σ6 Q
      refine s_iload_n 2 d_M_at_103 rfl rfl ?_
      refine s_iload 4 d_M_at_104 rfl ?_
      refine s_callV (as := [aI x8, aI 0, aI v6, aI x3, aI x5]) (ci := 10) d_M_at_106 ok_M_isWithin lk_M_277 io_M_isWithin so_M_isWithin (by decide) rfl rfl rfl (Nat.le_of_ble_eq_true rfl) rfl (sf_42 hF6) (WM.mono h ?_)
      rintro _ σ7 ⟨v7, rfl, hp, h⟩
      obtain ⟨hF7, h⟩ := h
      show WP E m_M_at (d + 1) 109 [(0, aP 42), (1, aI x1), (3, aI x3), (4, aI x4), (5, aI x5), (6, aI x6), (7, aI x7), (8, aI x8)] [aI v7] σ7 Q
      obtain ⟨g8, h⟩ := h
      refine s_if_eq d_M_at_109 rfl g8 (fun c => ?_) (fun c => ?_)
      · have h := h.1 c
        exact h
      · have h := h.2 c
        refine s_aload_n 0 d_M_at_112 rfl rfl ?_
        refine s_iload 7 d_M_at_113 rfl ?_
        refine s_iconst d_M_at_115 ?_
        refine s_iconst d_M_at_116 ?_
        refine s_iload 3 d_M_at_117 rfl ?_
        refine s_iload 4 d_M_at_119 rfl ?_
        refine s_callV (as := [aI x8, aI 1, aI 0, aI x4, aI x5]) (ci := 10) d_M_at_121 ok_M_isWithin lk_M_277 io_M_isWithin so_M_isWithin (by decide) rfl rfl rfl (Nat.le_of_ble_eq_true rfl) rfl (sf_42 hF7) (WM.mono h ?_)
        rintro _ σ9 ⟨v9, rfl, hp, h⟩
        show WP E m_M_at (d + 1) 124 [(0, aP 42), (1, aI x1), (3, aI x3), (4, aI x4), (5, aI x5), (6, aI x6), (7, aI x7), (8, aI x8)] [aI v9] σ9 Q
        obtain ⟨g10, h⟩ := h
        refine s_if_eq d_M_at_124 rfl g10 (fun c => ?_) (fun c => ?_)
        · have h := h.1 c
          exact h
        · have h := h.2 c
          refine s_iload 6 d_M_at_127 rfl ?_
          refine s_istore d_M_at_129 (by decide) rfl ?_
          refine wp_drop [1, 2, 3, 4, 5, 0, 6, 7] rfl ?_
          exact h
    · have h := h.2 c
      refine s_goto d_M_at_91 rfl ?_
      exact h
theorem b_M_at_131 {E : EV} {d : Nat} {Q : Option AV → St → Prop} {σ : St} (x1 x3 x4 x5 x6 x7 x8 : Int) (h : WP E m_M_at (d + 1) 134 [(0, aP 42), (1, aI x1), (3, aI x3), (4, aI x4), (5, aI x5), (6, aI x6), (7, aI (x7 + 1)), (8, aI x8)] [] σ Q) : WP E m_M_at (d + 1) 131 [(0, aP 42), (1, aI x1), (3, aI x3), (4, aI x4), (5, aI x5), (6, aI x6), (7, aI x7), (8, aI x8)] [] σ Q := by
  refine s_iinc 6 d_M_at_131 rfl (by decide) rfl ?_
  refine wp_drop [1, 2, 3, 4, 5, 6, 0, 7] rfl ?_
  exact h
theorem b_M_at_134 {E : EV} {d : Nat} {Q : Option AV → St → Prop} {σ : St} (x1 x3 x4 x5 x6 x7 x8 : Int) (h : WP E m_M_at (d + 1) 69 [(0, aP 42), (1, aI x1), (3, aI x3), (4, aI x4), (5, aI x5), (6, aI x6), (7, aI x7), (8, aI (x8 + 1))] [] σ Q) : WP E m_M_at (d + 1) 134 [(0, aP 42), (1, aI x1), (3, aI x3), (4, aI x4), (5, aI x5), (6, aI x6), (7, aI x7), (8, aI x8)] [] σ Q := by
  refine s_iinc 7 d_M_at_134 rfl (by decide) rfl ?_
  refine s_goto d_M_at_137 rfl ?_
  refine wp_drop [1, 2, 3, 4, 5, 6, 7, 0] rfl ?_
  exact h
theorem d_M_isWithin_0 : decode m_M_isWithin.2.1 0 = .ok (.aload_n 0, 1) := by decide +kernel
theorem d_M_isWithin_1 : decode m_M_isWithin.2.1 1 = .ok (.iload_n 1, 1) := by decide +kernel
theorem d_M_isWithin_2 : decode m_M_isWithin.2.1 2 = .ok (.iload_n 2, 1) := by decide +kernel
theorem d_M_isWithin_3 : decode m_M_isWithin.2.1 3 = .ok (.iload_n 3, 1) := by decide +kernel
theorem d_M_isWithin_4 : decode m_M_isWithin.2.1 4 = .ok (.invokevirtual 269, 3) := by decide +kernel
theorem d_M_isWithin_7 : decode m_M_isWithin.2.1 7 = .ok (.aload_n 0, 1) := by decide +kernel
theorem d_M_isWithin_8 : decode m_M_isWithin.2.1 8 = .ok (.getfield 227, 3) := by decide +kernel
theorem d_M_isWithin_11 : decode m_M_isWithin.2.1 11 = .ok (.iload 5, 2) := by decide +kernel
theorem d_M_isWithin_13 : decode m_M_isWithin.2.1 13 = .ok (.i2l, 1) := by decide +kernel
theorem d_M_isWithin_14 : decode m_M_isWithin.2.1 14 = .ok (.lmul, 1) := by decide +kernel
theorem d_M_isWithin_15 : decode m_M_isWithin.2.1 15 = .ok (.iload 4, 2) := by decide +kernel
theorem d_M_isWithin_17 : decode m_M_isWithin.2.1 17 = .ok (.i2l, 1) := by decide +kernel
theorem d_M_isWithin_18 : decode m_M_isWithin.2.1 18 = .ok (.aload_n 0, 1) := by decide +kernel
theorem d_M_isWithin_19 : decode m_M_isWithin.2.1 19 = .ok (.getfield 231, 3) := by decide +kernel
theorem d_M_isWithin_22 : decode m_M_isWithin.2.1 22 = .ok (.lmul, 1) := by decide +kernel
theorem d_M_isWithin_23 : decode m_M_isWithin.2.1 23 = .ok (.lcmp, 1) := by decide +kernel
theorem d_M_isWithin_24 : decode m_M_isWithin.2.1 24 = .ok (.ifCond .le 5, 3) := by decide +kernel
theorem d_M_isWithin_27 : decode m_M_isWithin.2.1 27 = .ok (.iconst 0, 1) := by decide +kernel
theorem d_M_isWithin_28 : decode m_M_isWithin.2.1 28 = .ok (.ireturn, 1) := by decide +kernel
theorem d_M_isWithin_29 : decode m_M_isWithin.2.1 29 = .ok (.aload_n 0, 1) := by decide +kernel
theorem d_M_isWithin_30 : decode m_M_isWithin.2.1 30 = .ok (.iload_n 2, 1) := by decide +kernel
theorem d_M_isWithin_31 : decode m_M_isWithin.2.1 31 = .ok (.ifCond .ne 12, 3) := by decide +kernel
theorem d_M_isWithin_34 : decode m_M_isWithin.2.1 34 = .ok (.aload_n 0, 1) := by decide +kernel
theorem d_M_isWithin_35 : decode m_M_isWithin.2.1 35 = .ok (.getfield 41, 3) := by decide +kernel
theorem d_M_isWithin_38 : decode m_M_isWithin.2.1 38 = .ok (.iload_n 1, 1) := by decide +kernel
theorem d_M_isWithin_39 : decode m_M_isWithin.2.1 39 = .ok (.iaload, 1) := by decide +kernel
theorem d_M_isWithin_40 : decode m_M_isWithin.2.1 40 = .ok (.goto 9, 3) := by decide +kernel
theorem d_M_isWithin_43 : decode m_M_isWithin.2.1 43 = .ok (.aload_n 0, 1) := by decide +kernel
theorem d_M_isWithin_44 : decode m_M_isWithin.2.1 44 = .ok (.getfield 44, 3) := by decide +kernel
theorem d_M_isWithin_47 : decode m_M_isWithin.2.1 47 = .ok (.iload_n 1, 1) := by decide +kernel
theorem d_M_isWithin_48 : decode m_M_isWithin.2.1 48 = .ok (.iaload, 1) := by decide +kernel
theorem d_M_isWithin_49 : decode m_M_isWithin.2.1 49 = .ok (.i2l, 1) := by decide +kernel
theorem d_M_isWithin_50 : decode m_M_isWithin.2.1 50 = .ok (.aload_n 0, 1) := by decide +kernel
theorem d_M_isWithin_51 : decode m_M_isWithin.2.1 51 = .ok (.getfield 50, 3) := by decide +kernel
theorem d_M_isWithin_54 : decode m_M_isWithin.2.1 54 = .ok (.aload_n 0, 1) := by decide +kernel
theorem d_M_isWithin_55 : decode m_M_isWithin.2.1 55 = .ok (.getfield 69, 3) := by decide +kernel
theorem d_M_isWithin_58 : decode m_M_isWithin.2.1 58 = .ok (.iload_n 1, 1) := by decide +kernel
theorem d_M_isWithin_59 : decode m_M_isWithin.2.1 59 = .ok (.iaload, 1) := by decide +kernel
theorem d_M_isWithin_60 : decode m_M_isWithin.2.1 60 = .ok (.laload, 1) := by decide +kernel
theorem d_M_isWithin_61 : decode m_M_isWithin.2.1 61 = .ok (.lmul, 1) := by decide +kernel
theorem d_M_isWithin_62 : decode m_M_isWithin.2.1 62 = .ok (.aload_n 0, 1) := by decide +kernel
theorem d_M_isWithin_63 : decode m_M_isWithin.2.1 63 = .ok (.getfield 54, 3) := by decide +kernel
theorem d_M_isWithin_66 : decode m_M_isWithin.2.1 66 = .ok (.aload_n 0, 1) := by decide +kernel
theorem d_M_isWithin_67 : decode m_M_isWithin.2.1 67 = .ok (.getfield 69, 3) := by decide +kernel
theorem d_M_isWithin_70 : decode m_M_isWithin.2.1 70 = .ok (.iload_n 1, 1) := by decide +kernel
theorem d_M_isWithin_71 : decode m_M_isWithin.2.1 71 = .ok (.iaload, 1) := by decide +kernel
theorem d_M_isWithin_72 : decode m_M_isWithin.2.1 72 = .ok (.laload, 1) := by decide +kernel
theorem d_M_isWithin_73 : decode m_M_isWithin.2.1 73 = .ok (.invokevirtual 243, 3) := by decide +kernel
theorem d_M_isWithin_76 : decode m_M_isWithin.2.1 76 = .ok (.aload_n 0, 1) := by decide +kernel
theorem d_M_isWithin_77 : decode m_M_isWithin.2.1 77 = .ok (.getfield 227, 3) := by decide +kernel
theorem d_M_isWithin_80 : decode m_M_isWithin.2.1 80 = .ok (.iload 5, 2) := by decide +kernel
theorem d_M_isWithin_82 : decode m_M_isWithin.2.1 82 = .ok (.i2l, 1) := by decide +kernel
theorem d_M_isWithin_83 : decode m_M_isWithin.2.1 83 = .ok (.lmul, 1) := by decide +kernel
theorem d_M_isWithin_84 : decode m_M_isWithin.2.1 84 = .ok (.iload 4, 2) := by decide +kernel
theorem d_M_isWithin_86 : decode m_M_isWithin.2.1 86 = .ok (.i2l, 1) := by decide +kernel
theorem d_M_isWithin_87 : decode m_M_isWithin.2.1 87 = .ok (.aload_n 0, 1) := by decide +kernel
theorem d_M_isWithin_88 : decode m_M_isWithin.2.1 88 = .ok (.getfield 231, 3) := by decide +kernel
theorem d_M_isWithin_91 : decode m_M_isWithin.2.1 91 = .ok (.lmul, 1) := by decide +kernel
theorem d_M_isWithin_92 : decode m_M_isWithin.2.1 92 = .ok (.lcmp, 1) := by decide +kernel
theorem d_M_isWithin_93 : decode m_M_isWithin.2.1 93 = .ok (.ifCond .lt 7, 3) := by decide +kernel
theorem d_M_isWithin_96 : decode m_M_isWithin.2.1 96 = .ok (.iconst 1, 1) := by decide +kernel
theorem d_M_isWithin_97 : decode m_M_isWithin.2.1 97 = .ok (.goto 4, 3) := by decide +kernel
theorem d_M_isWithin_100 : decode m_M_isWithin.2.1 100 = .ok (.iconst 0, 1) := by decide +kernel
theorem d_M_isWithin_101 : decode m_M_isWithin.2.1 101 = .ok (.ireturn, 1) := by decide +kernel
theorem b_M_isWithin_0 {E : EV} {d : Nat} {Q : Option AV → St → Prop} {σ : St} (x1 x2 x3 x4 x5 : Int) (hF : Fix σ) (h : (WMv E m_M_boxOf d [aP 42, aI x1, aI x2, aI x3] σ (fun σ1 => Fix σ1 ∧ (rI x5) ∧ (rI x4) ∧ (rL ((σ1.1 42 16) * x5)) ∧ (rL (x4 * (σ1.1 42 17))) ∧ ((((σ1.1 42 16) * x5) ≤ (x4 * (σ1.1 42 17)) → (rI x2) ∧ ((¬ x2 = 0 → (0 ≤ x1 ∧ x1 < 24) ∧ WP E m_M_isWithin (d + 1) 49 [(0, aP 42), (1, aI x1), (4, aI x4), (5, aI x5)] [aI (σ1.1 53 x1), aP 42] σ1 Q) ∧ (x2 = 0 → (0 ≤ x1 ∧ x1 < 24) ∧ WP E m_M_isWithin (d + 1) 49 [(0, aP 42), (1, aI x1), (4, aI x4), (5, aI x5)] [aI (σ1.1 52 x1), aP 42] σ1 Q))) ∧ (¬ ((σ1.1 42 16) * x5) ≤ (x4 * (σ1.1 42 17)) → Q (some (aI 0)) σ1))))) : WP E m_M_isWithin (d + 1) 0 [(0, aP 42), (1, aI x1), (2, aI x2), (3, aI x3), (4, aI x4), (5, aI x5)] [] σ Q := by
  refine s_aload_n 0 d_M_isWithin_0 rfl rfl ?_
  refine s_iload_n 1 d_M_isWithin_1 rfl rfl ?_
  refine s_iload_n 2 d_M_isWithin_2 rfl rfl ?_
  refine s_iload_n 3 d_M_isWithin_3 rfl rfl ?_
  refine s_callV (as := [aI x1, aI x2, aI x3]) (ci := 10) d_M_isWithin_4 ok_M_boxOf lk_M_269 io_M_boxOf so_M_boxOf (by decide) rfl rfl rfl (Nat.le_of_ble_eq_true rfl) rfl (sf_42 hF) (WM.mono h ?_)
  rintro _ σ1 ⟨rfl, hp, h⟩
  obtain ⟨hF1, h⟩ := h
  show WP E m_M_isWithin (d + 1) 7 [(0, aP 42), (1, aI x1), (2, aI x2), (3, aI x3), (4, aI x4), (5, aI x5)] [] σ1 Q
  refine s_aload_n 0 d_M_isWithin_7 rfl rfl ?_
  refine s_getF (v := σ1.1 42 16) d_M_isWithin_8 fl_M_227 rfl (sf_42 hF1) rfl ?_
  refine s_iload 5 d_M_isWithin_11 rfl ?_
  obtain ⟨g2, h⟩ := h
  refine s_i2l d_M_isWithin_13 g2 ?_
  refine s_lmul d_M_isWithin_14 ?_
  refine s_iload 4 d_M_isWithin_15 rfl ?_
  obtain ⟨g3, h⟩ := h
  refine s_i2l d_M_isWithin_17 g3 ?_
  refine s_aload_n 0 d_M_isWithin_18 rfl rfl ?_
  refine s_getF (v := σ1.1 42 17) d_M_isWithin_19 fl_M_231 rfl (sf_42 hF1) rfl ?_
  refine s_lmul d_M_isWithin_22 ?_
  obtain ⟨g4, h⟩ := h
  obtain ⟨g5, h⟩ := h
  refine s_lcmp d_M_isWithin_23 g4 g5 ?_
  refine s_if_le d_M_isWithin_24 rfl (lcmp_r _ _) (fun c => ?_) (fun c => ?_)
  · have h := h.1 (lcmp_le.mp c)
    refine s_aload_n 0 d_M_isWithin_29 rfl rfl ?_
    refine s_iload_n 2 d_M_isWithin_30 rfl rfl ?_
    obtain ⟨g6, h⟩ := h
    refine s_if_ne d_M_isWithin_31 rfl g6 (fun c => ?_) (fun c => ?_)
    · have h := h.1 c
      refine s_aload_n 0 d_M_isWithin_43 rfl rfl ?_
      refine s_getF (v := 53) d_M_isWithin_44 fl_M_44 rfl (sf_42 hF1) (ff_38 hF1) ?_
      refine s_iload_n 1 d_M_isWithin_47 rfl rfl ?_
      obtain ⟨g7, h⟩ := h
      refine s_ialoadv (v := σ1.1 53 x1) d_M_isWithin_48 ⟨_, sf_53 hF1, g7.1, g7.2, by have := g7.2; omega⟩ rfl ?_
      refine wp_drop [0, 1, 4, 5] rfl ?_
      exact h
    · have h := h.2 c
      refine s_aload_n 0 d_M_isWithin_34 rfl rfl ?_
      refine s_getF (v := 52) d_M_isWithin_35 fl_M_41 rfl (sf_42 hF1) (ff_37 hF1) ?_
      refine s_iload_n 1 d_M_isWithin_38 rfl rfl ?_
      obtain ⟨g8, h⟩ := h
      refine s_ialoadv (v := σ1.1 52 x1) d_M_isWithin_39 ⟨_, sf_52 hF1, g8.1, g8.2, by have := g8.2; omega⟩ rfl ?_
      refine s_goto d_M_isWithin_40 rfl ?_
      refine wp_drop [0, 1, 4, 5] rfl ?_
      exact h
  · have h := h.2 (nlcmp_le c)
    refine s_iconst d_M_isWithin_27 ?_
    exact s_zreturn d_M_isWithin_28 rfl (by decide) h
theorem e_M_isWithin {E : EV} {d : Nat} {Q : Option AV → St → Prop} {σ : St} (x1 x2 x3 x4 x5 : Int) (hF : Fix σ) (h : (WMv E m_M_boxOf d [aP 42, aI x1, aI x2, aI x3] σ (fun σ1 => Fix σ1 ∧ (rI x5) ∧ (rI x4) ∧ (rL ((σ1.1 42 16) * x5)) ∧ (rL (x4 * (σ1.1 42 17))) ∧ ((((σ1.1 42 16) * x5) ≤ (x4 * (σ1.1 42 17)) → (rI x2) ∧ ((¬ x2 = 0 → (0 ≤ x1 ∧ x1 < 24) ∧ WP E m_M_isWithin (d + 1) 49 [(0, aP 42), (1, aI x1), (4, aI x4), (5, aI x5)] [aI (σ1.1 53 x1), aP 42] σ1 Q) ∧ (x2 = 0 → (0 ≤ x1 ∧ x1 < 24) ∧ WP E m_M_isWithin (d + 1) 49 [(0, aP 42), (1, aI x1), (4, aI x4), (5, aI x5)] [aI (σ1.1 52 x1), aP 42] σ1 Q))) ∧ (¬ ((σ1.1 42 16) * x5) ≤ (x4 * (σ1.1 42 17)) → Q (some (aI 0)) σ1))))) : WM E m_M_isWithin (d + 1) [aP 42, aI x1, aI x2, aI x3, aI x4, aI x5] σ Q := s_meth (by decide) (Nat.le_of_ble_eq_true rfl) rfl (b_M_isWithin_0 x1 x2 x3 x4 x5 hF h)
theorem b_M_isWithin_49 {E : EV} {d : Nat} {Q : Option AV → St → Prop} {σ : St} (x1 x4 x5 s0 s1 : Int) (hF : Fix σ) (h : (rI s1) ∧ (0 ≤ x1 ∧ x1 < 24) ∧ (0 ≤ (σ.1 61 x1) ∧ (σ.1 61 x1) < 12) ∧ (0 ≤ x1 ∧ x1 < 24) ∧ (0 ≤ (σ.1 61 x1) ∧ (σ.1 61 x1) < 12) ∧ (sh σ s0 = some (10, 74)) ∧ (WMv E m_M_plus d [aP s0, aL (s1 * (σ.1 55 (σ.1 61 x1))), aL (σ.1 56 (σ.1 61 x1))] σ (fun σ6 => Fix σ6 ∧ (rI x5) ∧ (rI x4) ∧ (rL ((σ6.1 42 16) * x5)) ∧ (rL (x4 * (σ6.1 42 17))) ∧ ((((σ6.1 42 16) * x5) < (x4 * (σ6.1 42 17)) → Q (some (aI 0)) σ6) ∧ (¬ ((σ6.1 42 16) * x5) < (x4 * (σ6.1 42 17)) → Q (some (aI 1)) σ6))))) : WP E m_M_isWithin (d + 1) 49 [(0, aP 42), (1, aI x1), (4, aI x4), (5, aI x5)] [aI s1, aP s0] σ Q := by
  obtain ⟨g1, h⟩ := h
  refine s_i2l d_M_isWithin_49 g1 ?_
  refine s_aload_n 0 d_M_isWithin_50 rfl rfl ?_
  refine s_getF (v := 55) d_M_isWithin_51 fl_M_50 rfl (sf_42 hF) (ff_40 hF) ?_
  refine s_aload_n 0 d_M_isWithin_54 rfl rfl ?_
  refine s_getF (v := 61) d_M_isWithin_55 fl_M_69 rfl (sf_42 hF) (ff_46 hF) ?_
  refine s_iload_n 1 d_M_isWithin_58 rfl rfl ?_
  obtain ⟨g2, h⟩ := h
  refine s_ialoadv (v := σ.1 61 x1) d_M_isWithin_59 ⟨_, sf_61 hF, g2.1, g2.2, by have := g2.2; omega⟩ rfl ?_
  obtain ⟨g3, h⟩ := h
  refine s_laloadv (v := σ.1 55 (σ.1 61 x1)) d_M_isWithin_60 ⟨_, sf_55 hF, g3.1, g3.2, by have := g3.2; omega⟩ rfl ?_
  refine s_lmul d_M_isWithin_61 ?_
  refine s_aload_n 0 d_M_isWithin_62 rfl rfl ?_
  refine s_getF (v := 56) d_M_isWithin_63 fl_M_54 rfl (sf_42 hF) (ff_41 hF) ?_
  refine s_aload_n 0 d_M_isWithin_66 rfl rfl ?_
  refine s_getF (v := 61) d_M_isWithin_67 fl_M_69 rfl (sf_42 hF) (ff_46 hF) ?_
  refine s_iload_n 1 d_M_isWithin_70 rfl rfl ?_
  obtain ⟨g4, h⟩ := h
  refine s_ialoadv (v := σ.1 61 x1) d_M_isWithin_71 ⟨_, sf_61 hF, g4.1, g4.2, by have := g4.2; omega⟩ rfl ?_
  obtain ⟨g5, h⟩ := h
  refine s_laloadv (v := σ.1 56 (σ.1 61 x1)) d_M_isWithin_72 ⟨_, sf_56 hF, g5.1, g5.2, by have := g5.2; omega⟩ rfl ?_
  obtain ⟨g7, h⟩ := h
  refine s_callV (as := [aL (s1 * (σ.1 55 (σ.1 61 x1))), aL (σ.1 56 (σ.1 61 x1))]) (ci := 10) d_M_isWithin_73 ok_M_plus lk_M_243 io_M_plus so_M_plus (by decide) rfl rfl rfl (Nat.le_of_ble_eq_true rfl) rfl g7 (WM.mono h ?_)
  rintro _ σ6 ⟨rfl, hp, h⟩
  obtain ⟨hF7, h⟩ := h
  show WP E m_M_isWithin (d + 1) 76 [(0, aP 42), (1, aI x1), (4, aI x4), (5, aI x5)] [] σ6 Q
  refine s_aload_n 0 d_M_isWithin_76 rfl rfl ?_
  refine s_getF (v := σ6.1 42 16) d_M_isWithin_77 fl_M_227 rfl (sf_42 hF7) rfl ?_
  refine s_iload 3 d_M_isWithin_80 rfl ?_
  obtain ⟨g8, h⟩ := h
  refine s_i2l d_M_isWithin_82 g8 ?_
  refine s_lmul d_M_isWithin_83 ?_
  refine s_iload 2 d_M_isWithin_84 rfl ?_
  obtain ⟨g9, h⟩ := h
  refine s_i2l d_M_isWithin_86 g9 ?_
  refine s_aload_n 0 d_M_isWithin_87 rfl rfl ?_
  refine s_getF (v := σ6.1 42 17) d_M_isWithin_88 fl_M_231 rfl (sf_42 hF7) rfl ?_
  refine s_lmul d_M_isWithin_91 ?_
  obtain ⟨g10, h⟩ := h
  obtain ⟨g11, h⟩ := h
  refine s_lcmp d_M_isWithin_92 g10 g11 ?_
  refine s_if_lt d_M_isWithin_93 rfl (lcmp_r _ _) (fun c => ?_) (fun c => ?_)
  · have h := h.1 (lcmp_lt.mp c)
    refine s_iconst d_M_isWithin_100 ?_
    exact s_zreturn d_M_isWithin_101 rfl (by decide) h
  · have h := h.2 (nlcmp_lt c)
    refine s_iconst d_M_isWithin_96 ?_
    refine s_goto d_M_isWithin_97 rfl ?_
    exact s_zreturn d_M_isWithin_101 rfl (by decide) h
theorem d_M_column_0 : decode m_M_column.2.1 0 = .ok (.aload_n 0, 1) := by decide +kernel
theorem d_M_column_1 : decode m_M_column.2.1 1 = .ok (.iload_n 1, 1) := by decide +kernel
theorem d_M_column_2 : decode m_M_column.2.1 2 = .ok (.iload_n 2, 1) := by decide +kernel
theorem d_M_column_3 : decode m_M_column.2.1 3 = .ok (.invokevirtual 206, 3) := by decide +kernel
theorem d_M_column_6 : decode m_M_column.2.1 6 = .ok (.ifCond .ne 5, 3) := by decide +kernel
theorem d_M_column_9 : decode m_M_column.2.1 9 = .ok (.iconst (-1), 1) := by decide +kernel
theorem d_M_column_10 : decode m_M_column.2.1 10 = .ok (.ireturn, 1) := by decide +kernel
theorem d_M_column_11 : decode m_M_column.2.1 11 = .ok (.aload_n 0, 1) := by decide +kernel
theorem d_M_column_12 : decode m_M_column.2.1 12 = .ok (.iload_n 1, 1) := by decide +kernel
theorem d_M_column_13 : decode m_M_column.2.1 13 = .ok (.invokevirtual 266, 3) := by decide +kernel
theorem d_M_column_16 : decode m_M_column.2.1 16 = .ok (.ifCond .eq 15, 3) := by decide +kernel
theorem d_M_column_19 : decode m_M_column.2.1 19 = .ok (.aload_n 0, 1) := by decide +kernel
theorem d_M_column_20 : decode m_M_column.2.1 20 = .ok (.iload_n 1, 1) := by decide +kernel
theorem d_M_column_21 : decode m_M_column.2.1 21 = .ok (.invokevirtual 178, 3) := by decide +kernel
theorem d_M_column_24 : decode m_M_column.2.1 24 = .ok (.iconst 1, 1) := by decide +kernel
theorem d_M_column_25 : decode m_M_column.2.1 25 = .ok (.isub, 1) := by decide +kernel
theorem d_M_column_26 : decode m_M_column.2.1 26 = .ok (.iload_n 2, 1) := by decide +kernel
theorem d_M_column_27 : decode m_M_column.2.1 27 = .ok (.isub, 1) := by decide +kernel
theorem d_M_column_28 : decode m_M_column.2.1 28 = .ok (.goto 4, 3) := by decide +kernel
theorem d_M_column_31 : decode m_M_column.2.1 31 = .ok (.iload_n 2, 1) := by decide +kernel
theorem d_M_column_32 : decode m_M_column.2.1 32 = .ok (.ireturn, 1) := by decide +kernel
theorem b_M_column_0 {E : EV} {d : Nat} {Q : Option AV → St → Prop} {σ : St} (x1 x2 : Int) (hF : Fix σ) (h : (WMi E m_M_isSquare d [aP 42, aI x1, aI x2] σ (fun v1 σ1 => Fix σ1 ∧ (rI v1) ∧ ((¬ v1 = 0 → (WMi E m_M_isLeft d [aP 42, aI x1] σ1 (fun v3 σ3 => Fix σ3 ∧ (rI v3) ∧ ((v3 = 0 → Q (some (aI x2)) σ3) ∧ (¬ v3 = 0 → (WMi E m_M_squaresOf d [aP 42, aI x1] σ3 (fun v5 σ5 => Q (some (aI ((v5 - 1) - x2))) σ5))))))) ∧ (v1 = 0 → Q (some (aI (-1))) σ1))))) : WP E m_M_column (d + 1) 0 [(0, aP 42), (1, aI x1), (2, aI x2)] [] σ Q := by
  refine s_aload_n 0 d_M_column_0 rfl rfl ?_
  refine s_iload_n 1 d_M_column_1 rfl rfl ?_
  refine s_iload_n 2 d_M_column_2 rfl rfl ?_
  refine s_callV (as := [aI x1, aI x2]) (ci := 10) d_M_column_3 ok_M_isSquare lk_M_206 io_M_isSquare so_M_isSquare (by decide) rfl rfl rfl (Nat.le_of_ble_eq_true rfl) rfl (sf_42 hF) (WM.mono h ?_)
  rintro _ σ1 ⟨v1, rfl, hp, h⟩
  obtain ⟨hF1, h⟩ := h
  show WP E m_M_column (d + 1) 6 [(0, aP 42), (1, aI x1), (2, aI x2)] [aI v1] σ1 Q
  obtain ⟨g2, h⟩ := h
  refine s_if_ne d_M_column_6 rfl g2 (fun c => ?_) (fun c => ?_)
  · have h := h.1 c
    refine s_aload_n 0 d_M_column_11 rfl rfl ?_
    refine s_iload_n 1 d_M_column_12 rfl rfl ?_
    refine s_callV (as := [aI x1]) (ci := 10) d_M_column_13 ok_M_isLeft lk_M_266 io_M_isLeft so_M_isLeft (by decide) rfl rfl rfl (Nat.le_of_ble_eq_true rfl) rfl (sf_42 hF1) (WM.mono h ?_)
    rintro _ σ3 ⟨v3, rfl, hp, h⟩
    obtain ⟨hF3, h⟩ := h
    show WP E m_M_column (d + 1) 16 [(0, aP 42), (1, aI x1), (2, aI x2)] [aI v3] σ3 Q
    obtain ⟨g4, h⟩ := h
    refine s_if_eq d_M_column_16 rfl g4 (fun c => ?_) (fun c => ?_)
    · have h := h.1 c
      refine s_iload_n 2 d_M_column_31 rfl rfl ?_
      exact s_ireturn d_M_column_32 rfl h
    · have h := h.2 c
      refine s_aload_n 0 d_M_column_19 rfl rfl ?_
      refine s_iload_n 1 d_M_column_20 rfl rfl ?_
      refine s_callV (as := [aI x1]) (ci := 10) d_M_column_21 ok_M_squaresOf lk_M_178 io_M_squaresOf so_M_squaresOf (by decide) rfl rfl rfl (Nat.le_of_ble_eq_true rfl) rfl (sf_42 hF3) (WM.mono h ?_)
      rintro _ σ5 ⟨v5, rfl, hp, h⟩
      show WP E m_M_column (d + 1) 24 [(0, aP 42), (1, aI x1), (2, aI x2)] [aI v5] σ5 Q
      refine s_iconst d_M_column_24 ?_
      refine s_isub d_M_column_25 ?_
      refine s_iload_n 2 d_M_column_26 rfl rfl ?_
      refine s_isub d_M_column_27 ?_
      refine s_goto d_M_column_28 rfl ?_
      exact s_ireturn d_M_column_32 rfl h
  · have h := h.2 c
    refine s_iconst d_M_column_9 ?_
    exact s_ireturn d_M_column_10 rfl h
theorem e_M_column {E : EV} {d : Nat} {Q : Option AV → St → Prop} {σ : St} (x1 x2 : Int) (hF : Fix σ) (h : (WMi E m_M_isSquare d [aP 42, aI x1, aI x2] σ (fun v1 σ1 => Fix σ1 ∧ (rI v1) ∧ ((¬ v1 = 0 → (WMi E m_M_isLeft d [aP 42, aI x1] σ1 (fun v3 σ3 => Fix σ3 ∧ (rI v3) ∧ ((v3 = 0 → Q (some (aI x2)) σ3) ∧ (¬ v3 = 0 → (WMi E m_M_squaresOf d [aP 42, aI x1] σ3 (fun v5 σ5 => Q (some (aI ((v5 - 1) - x2))) σ5))))))) ∧ (v1 = 0 → Q (some (aI (-1))) σ1))))) : WM E m_M_column (d + 1) [aP 42, aI x1, aI x2] σ Q := s_meth (by decide) (Nat.le_of_ble_eq_true rfl) rfl (b_M_column_0 x1 x2 hF h)
theorem d_M_scale_0 : decode m_M_scale.2.1 0 = .ok (.aload_n 0, 1) := by decide +kernel
theorem d_M_scale_1 : decode m_M_scale.2.1 1 = .ok (.iload_n 1, 1) := by decide +kernel
theorem d_M_scale_2 : decode m_M_scale.2.1 2 = .ok (.iload_n 2, 1) := by decide +kernel
theorem d_M_scale_3 : decode m_M_scale.2.1 3 = .ok (.invokevirtual 206, 3) := by decide +kernel
theorem d_M_scale_6 : decode m_M_scale.2.1 6 = .ok (.ifCond .eq 12, 3) := by decide +kernel
theorem d_M_scale_9 : decode m_M_scale.2.1 9 = .ok (.iload_n 3, 1) := by decide +kernel
theorem d_M_scale_10 : decode m_M_scale.2.1 10 = .ok (.iconst 0, 1) := by decide +kernel
theorem d_M_scale_11 : decode m_M_scale.2.1 11 = .ok (.iconst 1, 1) := by decide +kernel
theorem d_M_scale_12 : decode m_M_scale.2.1 12 = .ok (.invokestatic 167, 3) := by decide +kernel
theorem d_M_scale_15 : decode m_M_scale.2.1 15 = .ok (.ifCond .ne 5, 3) := by decide +kernel
theorem d_M_scale_18 : decode m_M_scale.2.1 18 = .ok (.iconst (-1), 1) := by decide +kernel
theorem d_M_scale_19 : decode m_M_scale.2.1 19 = .ok (.ireturn, 1) := by decide +kernel
theorem d_M_scale_20 : decode m_M_scale.2.1 20 = .ok (.aload_n 0, 1) := by decide +kernel
theorem d_M_scale_21 : decode m_M_scale.2.1 21 = .ok (.iload_n 1, 1) := by decide +kernel
theorem d_M_scale_22 : decode m_M_scale.2.1 22 = .ok (.iload_n 2, 1) := by decide +kernel
theorem d_M_scale_23 : decode m_M_scale.2.1 23 = .ok (.invokevirtual 210, 3) := by decide +kernel
theorem d_M_scale_26 : decode m_M_scale.2.1 26 = .ok (.aload_n 0, 1) := by decide +kernel
theorem d_M_scale_27 : decode m_M_scale.2.1 27 = .ok (.aload_n 0, 1) := by decide +kernel
theorem d_M_scale_28 : decode m_M_scale.2.1 28 = .ok (.getfield 26, 3) := by decide +kernel
theorem d_M_scale_31 : decode m_M_scale.2.1 31 = .ok (.iconst 0, 1) := by decide +kernel
theorem d_M_scale_32 : decode m_M_scale.2.1 32 = .ok (.iaload, 1) := by decide +kernel
theorem d_M_scale_33 : decode m_M_scale.2.1 33 = .ok (.i2l, 1) := by decide +kernel
theorem d_M_scale_34 : decode m_M_scale.2.1 34 = .ok (.aload_n 0, 1) := by decide +kernel
theorem d_M_scale_35 : decode m_M_scale.2.1 35 = .ok (.invokevirtual 250, 3) := by decide +kernel
theorem d_M_scale_38 : decode m_M_scale.2.1 38 = .ok (.i2l, 1) := by decide +kernel
theorem d_M_scale_39 : decode m_M_scale.2.1 39 = .ok (.invokevirtual 234, 3) := by decide +kernel
theorem d_M_scale_42 : decode m_M_scale.2.1 42 = .ok (.aload_n 0, 1) := by decide +kernel
theorem d_M_scale_43 : decode m_M_scale.2.1 43 = .ok (.iload_n 3, 1) := by decide +kernel
theorem d_M_scale_44 : decode m_M_scale.2.1 44 = .ok (.invokevirtual 273, 3) := by decide +kernel
theorem d_M_scale_47 : decode m_M_scale.2.1 47 = .ok (.l2i, 1) := by decide +kernel
theorem d_M_scale_48 : decode m_M_scale.2.1 48 = .ok (.ireturn, 1) := by decide +kernel
theorem b_M_scale_0 {E : EV} {d : Nat} {Q : Option AV → St → Prop} {σ : St} (x1 x2 x3 : Int) (hF : Fix σ) (h : (WMi E m_M_isSquare d [aP 42, aI x1, aI x2] σ (fun v1 σ1 => Fix σ1 ∧ (rI v1) ∧ ((v1 = 0 → Q (some (aI (-1))) σ1) ∧ (¬ v1 = 0 → (WMi E m_M_in d [aI x3, aI 0, aI 1] σ1 (fun v3 σ3 => Fix σ3 ∧ (rI v3) ∧ ((¬ v3 = 0 → (WMv E m_M_takes d [aP 42, aI x1, aI x2] σ3 (fun σ5 => Fix σ5 ∧ (rI (σ5.1 47 0)) ∧ (WMi E m_M_greatest d [aP 42] σ5 (fun v7 σ7 => Fix σ7 ∧ (rI v7) ∧ (WMv E m_M_tells d [aP 42, aL (σ5.1 47 0), aL v7] σ7 (fun σ9 => Fix σ9 ∧ (WMl E m_M_term d [aP 42, aI x3] σ9 (fun v10 σ10 => Q (some (aI v10)) σ10))))))))) ∧ (v3 = 0 → Q (some (aI (-1))) σ3))))))))) : WP E m_M_scale (d + 1) 0 [(0, aP 42), (1, aI x1), (2, aI x2), (3, aI x3)] [] σ Q := by
  refine s_aload_n 0 d_M_scale_0 rfl rfl ?_
  refine s_iload_n 1 d_M_scale_1 rfl rfl ?_
  refine s_iload_n 2 d_M_scale_2 rfl rfl ?_
  refine s_callV (as := [aI x1, aI x2]) (ci := 10) d_M_scale_3 ok_M_isSquare lk_M_206 io_M_isSquare so_M_isSquare (by decide) rfl rfl rfl (Nat.le_of_ble_eq_true rfl) rfl (sf_42 hF) (WM.mono h ?_)
  rintro _ σ1 ⟨v1, rfl, hp, h⟩
  obtain ⟨hF1, h⟩ := h
  show WP E m_M_scale (d + 1) 6 [(0, aP 42), (1, aI x1), (2, aI x2), (3, aI x3)] [aI v1] σ1 Q
  obtain ⟨g2, h⟩ := h
  refine s_if_eq d_M_scale_6 rfl g2 (fun c => ?_) (fun c => ?_)
  · have h := h.1 c
    refine s_iconst d_M_scale_18 ?_
    exact s_ireturn d_M_scale_19 rfl h
  · have h := h.2 c
    refine s_iload_n 3 d_M_scale_9 rfl rfl ?_
    refine s_iconst d_M_scale_10 ?_
    refine s_iconst d_M_scale_11 ?_
    refine s_callS (as := [aI x3, aI 0, aI 1]) d_M_scale_12 ok_M_in lk_M_167 to_M_in rfl (Nat.le_of_ble_eq_true rfl) rfl (WM.mono h ?_)
    rintro _ σ3 ⟨v3, rfl, hp, h⟩
    obtain ⟨hF3, h⟩ := h
    show WP E m_M_scale (d + 1) 15 [(0, aP 42), (1, aI x1), (2, aI x2), (3, aI x3)] [aI v3] σ3 Q
    obtain ⟨g4, h⟩ := h
    refine s_if_ne d_M_scale_15 rfl g4 (fun c => ?_) (fun c => ?_)
    · have h := h.1 c
      refine s_aload_n 0 d_M_scale_20 rfl rfl ?_
      refine s_iload_n 1 d_M_scale_21 rfl rfl ?_
      refine s_iload_n 2 d_M_scale_22 rfl rfl ?_
      refine s_callV (as := [aI x1, aI x2]) (ci := 10) d_M_scale_23 ok_M_takes lk_M_210 io_M_takes so_M_takes (by decide) rfl rfl rfl (Nat.le_of_ble_eq_true rfl) rfl (sf_42 hF3) (WM.mono h ?_)
      rintro _ σ5 ⟨rfl, hp, h⟩
      obtain ⟨hF5, h⟩ := h
      show WP E m_M_scale (d + 1) 26 [(0, aP 42), (1, aI x1), (2, aI x2), (3, aI x3)] [] σ5 Q
      refine s_aload_n 0 d_M_scale_26 rfl rfl ?_
      refine s_aload_n 0 d_M_scale_27 rfl rfl ?_
      refine s_getF (v := 47) d_M_scale_28 fl_M_26 rfl (sf_42 hF5) (ff_32 hF5) ?_
      refine s_iconst d_M_scale_31 ?_
      refine s_ialoadv (v := σ5.1 47 0) d_M_scale_32 ⟨_, sf_47 hF5, by decide, by decide, by decide⟩ rfl ?_
      obtain ⟨g6, h⟩ := h
      refine s_i2l d_M_scale_33 g6 ?_
      refine s_aload_n 0 d_M_scale_34 rfl rfl ?_
      refine s_callV (as := []) (ci := 10) d_M_scale_35 ok_M_greatest lk_M_250 io_M_greatest so_M_greatest (by decide) rfl rfl rfl (Nat.le_of_ble_eq_true rfl) rfl (sf_42 hF5) (WM.mono h ?_)
      rintro _ σ7 ⟨v7, rfl, hp, h⟩
      obtain ⟨hF7, h⟩ := h
      show WP E m_M_scale (d + 1) 38 [(0, aP 42), (1, aI x1), (2, aI x2), (3, aI x3)] [aI v7, aL (σ5.1 47 0), aP 42] σ7 Q
      obtain ⟨g8, h⟩ := h
      refine s_i2l d_M_scale_38 g8 ?_
      refine s_callV (as := [aL (σ5.1 47 0), aL v7]) (ci := 10) d_M_scale_39 ok_M_tells lk_M_234 io_M_tells so_M_tells (by decide) rfl rfl rfl (Nat.le_of_ble_eq_true rfl) rfl (sf_42 hF7) (WM.mono h ?_)
      rintro _ σ9 ⟨rfl, hp, h⟩
      obtain ⟨hF9, h⟩ := h
      show WP E m_M_scale (d + 1) 42 [(0, aP 42), (1, aI x1), (2, aI x2), (3, aI x3)] [] σ9 Q
      refine s_aload_n 0 d_M_scale_42 rfl rfl ?_
      refine s_iload_n 3 d_M_scale_43 rfl rfl ?_
      refine s_callV (as := [aI x3]) (ci := 10) d_M_scale_44 ok_M_term lk_M_273 io_M_term so_M_term (by decide) rfl rfl rfl (Nat.le_of_ble_eq_true rfl) rfl (sf_42 hF9) (WM.mono h ?_)
      rintro _ σ10 ⟨v10, rfl, hp, h⟩
      show WP E m_M_scale (d + 1) 47 [(0, aP 42), (1, aI x1), (2, aI x2), (3, aI x3)] [aL v10] σ10 Q
      refine s_l2i d_M_scale_47 ?_
      exact s_ireturn d_M_scale_48 rfl h
    · have h := h.2 c
      refine s_iconst d_M_scale_18 ?_
      exact s_ireturn d_M_scale_19 rfl h
theorem e_M_scale {E : EV} {d : Nat} {Q : Option AV → St → Prop} {σ : St} (x1 x2 x3 : Int) (hF : Fix σ) (h : (WMi E m_M_isSquare d [aP 42, aI x1, aI x2] σ (fun v1 σ1 => Fix σ1 ∧ (rI v1) ∧ ((v1 = 0 → Q (some (aI (-1))) σ1) ∧ (¬ v1 = 0 → (WMi E m_M_in d [aI x3, aI 0, aI 1] σ1 (fun v3 σ3 => Fix σ3 ∧ (rI v3) ∧ ((¬ v3 = 0 → (WMv E m_M_takes d [aP 42, aI x1, aI x2] σ3 (fun σ5 => Fix σ5 ∧ (rI (σ5.1 47 0)) ∧ (WMi E m_M_greatest d [aP 42] σ5 (fun v7 σ7 => Fix σ7 ∧ (rI v7) ∧ (WMv E m_M_tells d [aP 42, aL (σ5.1 47 0), aL v7] σ7 (fun σ9 => Fix σ9 ∧ (WMl E m_M_term d [aP 42, aI x3] σ9 (fun v10 σ10 => Q (some (aI v10)) σ10))))))))) ∧ (v3 = 0 → Q (some (aI (-1))) σ3))))))))) : WM E m_M_scale (d + 1) [aP 42, aI x1, aI x2, aI x3] σ Q := s_meth (by decide) (Nat.le_of_ble_eq_true rfl) rfl (b_M_scale_0 x1 x2 x3 hF h)
theorem d_M_covered_0 : decode m_M_covered.2.1 0 = .ok (.aload_n 0, 1) := by decide +kernel
theorem d_M_covered_1 : decode m_M_covered.2.1 1 = .ok (.iload_n 1, 1) := by decide +kernel
theorem d_M_covered_2 : decode m_M_covered.2.1 2 = .ok (.iload_n 2, 1) := by decide +kernel
theorem d_M_covered_3 : decode m_M_covered.2.1 3 = .ok (.invokevirtual 206, 3) := by decide +kernel
theorem d_M_covered_6 : decode m_M_covered.2.1 6 = .ok (.ifCond .eq 12, 3) := by decide +kernel
theorem d_M_covered_9 : decode m_M_covered.2.1 9 = .ok (.iload_n 3, 1) := by decide +kernel
theorem d_M_covered_10 : decode m_M_covered.2.1 10 = .ok (.iconst 0, 1) := by decide +kernel
theorem d_M_covered_11 : decode m_M_covered.2.1 11 = .ok (.iconst 1, 1) := by decide +kernel
theorem d_M_covered_12 : decode m_M_covered.2.1 12 = .ok (.invokestatic 167, 3) := by decide +kernel
theorem d_M_covered_15 : decode m_M_covered.2.1 15 = .ok (.ifCond .ne 7, 3) := by decide +kernel
theorem d_M_covered_18 : decode m_M_covered.2.1 18 = .ok (.ldc2_w 261, 3) := by decide +kernel
theorem d_M_covered_21 : decode m_M_covered.2.1 21 = .ok (.lreturn, 1) := by decide +kernel
theorem d_M_covered_22 : decode m_M_covered.2.1 22 = .ok (.aload_n 0, 1) := by decide +kernel
theorem d_M_covered_23 : decode m_M_covered.2.1 23 = .ok (.iload_n 1, 1) := by decide +kernel
theorem d_M_covered_24 : decode m_M_covered.2.1 24 = .ok (.iload_n 2, 1) := by decide +kernel
theorem d_M_covered_25 : decode m_M_covered.2.1 25 = .ok (.invokevirtual 210, 3) := by decide +kernel
theorem d_M_covered_28 : decode m_M_covered.2.1 28 = .ok (.aload_n 0, 1) := by decide +kernel
theorem d_M_covered_29 : decode m_M_covered.2.1 29 = .ok (.invokevirtual 250, 3) := by decide +kernel
theorem d_M_covered_32 : decode m_M_covered.2.1 32 = .ok (.i2l, 1) := by decide +kernel
theorem d_M_covered_33 : decode m_M_covered.2.1 33 = .ok (.lstore 4, 2) := by decide +kernel
theorem d_M_covered_35 : decode m_M_covered.2.1 35 = .ok (.lconst 0, 1) := by decide +kernel
theorem d_M_covered_36 : decode m_M_covered.2.1 36 = .ok (.lstore 6, 2) := by decide +kernel
theorem d_M_covered_38 : decode m_M_covered.2.1 38 = .ok (.iconst 0, 1) := by decide +kernel
theorem d_M_covered_39 : decode m_M_covered.2.1 39 = .ok (.istore 8, 2) := by decide +kernel
theorem d_M_covered_41 : decode m_M_covered.2.1 41 = .ok (.iload 8, 2) := by decide +kernel
theorem d_M_covered_43 : decode m_M_covered.2.1 43 = .ok (.aload_n 0, 1) := by decide +kernel
theorem d_M_covered_44 : decode m_M_covered.2.1 44 = .ok (.getfield 189, 3) := by decide +kernel
theorem d_M_covered_47 : decode m_M_covered.2.1 47 = .ok (.if_icmp .ge 55, 3) := by decide +kernel
theorem d_M_covered_50 : decode m_M_covered.2.1 50 = .ok (.aload_n 0, 1) := by decide +kernel
theorem d_M_covered_51 : decode m_M_covered.2.1 51 = .ok (.getfield 35, 3) := by decide +kernel
theorem d_M_covered_54 : decode m_M_covered.2.1 54 = .ok (.iload 8, 2) := by decide +kernel
theorem d_M_covered_56 : decode m_M_covered.2.1 56 = .ok (.iaload, 1) := by decide +kernel
theorem d_M_covered_57 : decode m_M_covered.2.1 57 = .ok (.invokestatic 199, 3) := by decide +kernel
theorem d_M_covered_60 : decode m_M_covered.2.1 60 = .ok (.ifCond .eq 36, 3) := by decide +kernel
theorem d_M_covered_63 : decode m_M_covered.2.1 63 = .ok (.lload 6, 2) := by decide +kernel
theorem d_M_covered_65 : decode m_M_covered.2.1 65 = .ok (.aload_n 0, 1) := by decide +kernel
theorem d_M_covered_66 : decode m_M_covered.2.1 66 = .ok (.getfield 41, 3) := by decide +kernel
theorem d_M_covered_69 : decode m_M_covered.2.1 69 = .ok (.iload 8, 2) := by decide +kernel
theorem d_M_covered_71 : decode m_M_covered.2.1 71 = .ok (.iaload, 1) := by decide +kernel
theorem d_M_covered_72 : decode m_M_covered.2.1 72 = .ok (.aload_n 0, 1) := by decide +kernel
theorem d_M_covered_73 : decode m_M_covered.2.1 73 = .ok (.getfield 44, 3) := by decide +kernel
theorem d_M_covered_76 : decode m_M_covered.2.1 76 = .ok (.iload 8, 2) := by decide +kernel
theorem d_M_covered_78 : decode m_M_covered.2.1 78 = .ok (.iaload, 1) := by decide +kernel
theorem d_M_covered_79 : decode m_M_covered.2.1 79 = .ok (.imul, 1) := by decide +kernel
theorem d_M_covered_80 : decode m_M_covered.2.1 80 = .ok (.i2l, 1) := by decide +kernel
theorem d_M_covered_81 : decode m_M_covered.2.1 81 = .ok (.ladd, 1) := by decide +kernel
theorem d_M_covered_82 : decode m_M_covered.2.1 82 = .ok (.lstore 6, 2) := by decide +kernel
theorem d_M_covered_84 : decode m_M_covered.2.1 84 = .ok (.aload_n 0, 1) := by decide +kernel
theorem d_M_covered_85 : decode m_M_covered.2.1 85 = .ok (.getfield 47, 3) := by decide +kernel
theorem d_M_covered_88 : decode m_M_covered.2.1 88 = .ok (.iload 8, 2) := by decide +kernel
theorem d_M_covered_90 : decode m_M_covered.2.1 90 = .ok (.iaload, 1) := by decide +kernel
theorem d_M_covered_91 : decode m_M_covered.2.1 91 = .ok (.istore 8, 2) := by decide +kernel
theorem d_M_covered_93 : decode m_M_covered.2.1 93 = .ok (.goto (-52), 3) := by decide +kernel
theorem d_M_covered_96 : decode m_M_covered.2.1 96 = .ok (.iinc 8 1, 3) := by decide +kernel
theorem d_M_covered_99 : decode m_M_covered.2.1 99 = .ok (.goto (-58), 3) := by decide +kernel
theorem d_M_covered_102 : decode m_M_covered.2.1 102 = .ok (.aload_n 0, 1) := by decide +kernel
theorem d_M_covered_103 : decode m_M_covered.2.1 103 = .ok (.lload 6, 2) := by decide +kernel
theorem d_M_covered_105 : decode m_M_covered.2.1 105 = .ok (.lload 4, 2) := by decide +kernel
theorem d_M_covered_107 : decode m_M_covered.2.1 107 = .ok (.lload 4, 2) := by decide +kernel
theorem d_M_covered_109 : decode m_M_covered.2.1 109 = .ok (.lmul, 1) := by decide +kernel
theorem d_M_covered_110 : decode m_M_covered.2.1 110 = .ok (.invokevirtual 234, 3) := by decide +kernel
theorem d_M_covered_113 : decode m_M_covered.2.1 113 = .ok (.aload_n 0, 1) := by decide +kernel
theorem d_M_covered_114 : decode m_M_covered.2.1 114 = .ok (.iload_n 3, 1) := by decide +kernel
theorem d_M_covered_115 : decode m_M_covered.2.1 115 = .ok (.invokevirtual 273, 3) := by decide +kernel
theorem d_M_covered_118 : decode m_M_covered.2.1 118 = .ok (.lreturn, 1) := by decide +kernel
theorem b_M_covered_0 {E : EV} {d : Nat} {Q : Option AV → St → Prop} {σ : St} (x1 x2 x3 : Int) (hF : Fix σ) (h : (WMi E m_M_isSquare d [aP 42, aI x1, aI x2] σ (fun v1 σ1 => Fix σ1 ∧ (rI v1) ∧ ((v1 = 0 → Q (some (aL (-1))) σ1) ∧ (¬ v1 = 0 → (WMi E m_M_in d [aI x3, aI 0, aI 1] σ1 (fun v3 σ3 => Fix σ3 ∧ (rI v3) ∧ ((¬ v3 = 0 → (WMv E m_M_takes d [aP 42, aI x1, aI x2] σ3 (fun σ5 => Fix σ5 ∧ (WMi E m_M_greatest d [aP 42] σ5 (fun v6 σ6 => (rI v6) ∧ WP E m_M_covered (d + 1) 41 [(0, aP 42), (3, aI x3), (4, aL v6), (6, aL 0), (8, aI 0)] [] σ6 Q))))) ∧ (v3 = 0 → Q (some (aL (-1))) σ3))))))))) : WP E m_M_covered (d + 1) 0 [(0, aP 42), (1, aI x1), (2, aI x2), (3, aI x3)] [] σ Q := by
  refine s_aload_n 0 d_M_covered_0 rfl rfl ?_
  refine s_iload_n 1 d_M_covered_1 rfl rfl ?_
  refine s_iload_n 2 d_M_covered_2 rfl rfl ?_
  refine s_callV (as := [aI x1, aI x2]) (ci := 10) d_M_covered_3 ok_M_isSquare lk_M_206 io_M_isSquare so_M_isSquare (by decide) rfl rfl rfl (Nat.le_of_ble_eq_true rfl) rfl (sf_42 hF) (WM.mono h ?_)
  rintro _ σ1 ⟨v1, rfl, hp, h⟩
  obtain ⟨hF1, h⟩ := h
  show WP E m_M_covered (d + 1) 6 [(0, aP 42), (1, aI x1), (2, aI x2), (3, aI x3)] [aI v1] σ1 Q
  obtain ⟨g2, h⟩ := h
  refine s_if_eq d_M_covered_6 rfl g2 (fun c => ?_) (fun c => ?_)
  · have h := h.1 c
    refine s_ldc2 (v := -1) d_M_covered_18 ll_M_261 (by decide) ?_
    exact s_lreturn d_M_covered_21 rfl h
  · have h := h.2 c
    refine s_iload_n 3 d_M_covered_9 rfl rfl ?_
    refine s_iconst d_M_covered_10 ?_
    refine s_iconst d_M_covered_11 ?_
    refine s_callS (as := [aI x3, aI 0, aI 1]) d_M_covered_12 ok_M_in lk_M_167 to_M_in rfl (Nat.le_of_ble_eq_true rfl) rfl (WM.mono h ?_)
    rintro _ σ3 ⟨v3, rfl, hp, h⟩
    obtain ⟨hF3, h⟩ := h
    show WP E m_M_covered (d + 1) 15 [(0, aP 42), (1, aI x1), (2, aI x2), (3, aI x3)] [aI v3] σ3 Q
    obtain ⟨g4, h⟩ := h
    refine s_if_ne d_M_covered_15 rfl g4 (fun c => ?_) (fun c => ?_)
    · have h := h.1 c
      refine s_aload_n 0 d_M_covered_22 rfl rfl ?_
      refine s_iload_n 1 d_M_covered_23 rfl rfl ?_
      refine s_iload_n 2 d_M_covered_24 rfl rfl ?_
      refine s_callV (as := [aI x1, aI x2]) (ci := 10) d_M_covered_25 ok_M_takes lk_M_210 io_M_takes so_M_takes (by decide) rfl rfl rfl (Nat.le_of_ble_eq_true rfl) rfl (sf_42 hF3) (WM.mono h ?_)
      rintro _ σ5 ⟨rfl, hp, h⟩
      obtain ⟨hF5, h⟩ := h
      show WP E m_M_covered (d + 1) 28 [(0, aP 42), (1, aI x1), (2, aI x2), (3, aI x3)] [] σ5 Q
      refine s_aload_n 0 d_M_covered_28 rfl rfl ?_
      refine s_callV (as := []) (ci := 10) d_M_covered_29 ok_M_greatest lk_M_250 io_M_greatest so_M_greatest (by decide) rfl rfl rfl (Nat.le_of_ble_eq_true rfl) rfl (sf_42 hF5) (WM.mono h ?_)
      rintro _ σ6 ⟨v6, rfl, hp, h⟩
      show WP E m_M_covered (d + 1) 32 [(0, aP 42), (1, aI x1), (2, aI x2), (3, aI x3)] [aI v6] σ6 Q
      obtain ⟨g7, h⟩ := h
      refine s_i2l d_M_covered_32 g7 ?_
      refine s_lstore d_M_covered_33 (by decide) rfl ?_
      refine s_lconst (v := 0) d_M_covered_35 rfl ?_
      refine s_lstore d_M_covered_36 (by decide) rfl ?_
      refine s_iconst d_M_covered_38 ?_
      refine s_istore d_M_covered_39 (by decide) rfl ?_
      refine wp_drop [3, 6, 2, 1, 0] rfl ?_
      exact h
    · have h := h.2 c
      refine s_ldc2 (v := -1) d_M_covered_18 ll_M_261 (by decide) ?_
      exact s_lreturn d_M_covered_21 rfl h
theorem e_M_covered {E : EV} {d : Nat} {Q : Option AV → St → Prop} {σ : St} (x1 x2 x3 : Int) (hF : Fix σ) (h : (WMi E m_M_isSquare d [aP 42, aI x1, aI x2] σ (fun v1 σ1 => Fix σ1 ∧ (rI v1) ∧ ((v1 = 0 → Q (some (aL (-1))) σ1) ∧ (¬ v1 = 0 → (WMi E m_M_in d [aI x3, aI 0, aI 1] σ1 (fun v3 σ3 => Fix σ3 ∧ (rI v3) ∧ ((¬ v3 = 0 → (WMv E m_M_takes d [aP 42, aI x1, aI x2] σ3 (fun σ5 => Fix σ5 ∧ (WMi E m_M_greatest d [aP 42] σ5 (fun v6 σ6 => (rI v6) ∧ WP E m_M_covered (d + 1) 41 [(0, aP 42), (3, aI x3), (4, aL v6), (6, aL 0), (8, aI 0)] [] σ6 Q))))) ∧ (v3 = 0 → Q (some (aL (-1))) σ3))))))))) : WM E m_M_covered (d + 1) [aP 42, aI x1, aI x2, aI x3] σ Q := s_meth (by decide) (Nat.le_of_ble_eq_true rfl) rfl (b_M_covered_0 x1 x2 x3 hF h)
theorem b_M_covered_41 {E : EV} {d : Nat} {Q : Option AV → St → Prop} {σ : St} (x3 x4 x6 x8 : Int) (hF : Fix σ) (h : (rI x8) ∧ (rI (σ.1 42 10)) ∧ (((σ.1 42 10) ≤ x8 → (WMv E m_M_tells d [aP 42, aL x6, aL (x4 * x4)] σ (fun σ3 => Fix σ3 ∧ (WMl E m_M_term d [aP 42, aI x3] σ3 (fun v4 σ4 => Q (some (aL v4)) σ4))))) ∧ (¬ (σ.1 42 10) ≤ x8 → (0 ≤ x8 ∧ x8 < 24) ∧ (WMi E m_M_isSign d [aI (σ.1 50 x8)] σ (fun v6 σ6 => Fix σ6 ∧ (rI v6) ∧ ((v6 = 0 → WP E m_M_covered (d + 1) 41 [(0, aP 42), (3, aI x3), (4, aL x4), (6, aL x6), (8, aI (x8 + 1))] [] σ6 Q) ∧ (¬ v6 = 0 → (0 ≤ x8 ∧ x8 < 24) ∧ (0 ≤ x8 ∧ x8 < 24) ∧ (rI ((σ6.1 52 x8) * (σ6.1 53 x8))) ∧ (0 ≤ x8 ∧ x8 < 24) ∧ WP E m_M_covered (d + 1) 41 [(0, aP 42), (3, aI x3), (4, aL x4), (6, aL (x6 + ((σ6.1 52 x8) * (σ6.1 53 x8)))), (8, aI (σ6.1 54 x8))] [] σ6 Q))))))) : WP E m_M_covered (d + 1) 41 [(0, aP 42), (3, aI x3), (4, aL x4), (6, aL x6), (8, aI x8)] [] σ Q := by
  refine s_iload 4 d_M_covered_41 rfl ?_
  refine s_aload_n 0 d_M_covered_43 rfl rfl ?_
  refine s_getF (v := σ.1 42 10) d_M_covered_44 fl_M_189 rfl (sf_42 hF) rfl ?_
  obtain ⟨g1, h⟩ := h
  obtain ⟨g2, h⟩ := h
  refine s_icmp_ge d_M_covered_47 rfl g1 g2 (fun c => ?_) (fun c => ?_)
  · have h := h.1 c
    refine s_aload_n 0 d_M_covered_102 rfl rfl ?_
    refine s_lload 3 d_M_covered_103 rfl ?_
    refine s_lload 2 d_M_covered_105 rfl ?_
    refine s_lload 2 d_M_covered_107 rfl ?_
    refine s_lmul d_M_covered_109 ?_
    refine s_callV (as := [aL x6, aL (x4 * x4)]) (ci := 10) d_M_covered_110 ok_M_tells lk_M_234 io_M_tells so_M_tells (by decide) rfl rfl rfl (Nat.le_of_ble_eq_true rfl) rfl (sf_42 hF) (WM.mono h ?_)
    rintro _ σ3 ⟨rfl, hp, h⟩
    obtain ⟨hF3, h⟩ := h
    show WP E m_M_covered (d + 1) 113 [(0, aP 42), (3, aI x3), (4, aL x4), (6, aL x6), (8, aI x8)] [] σ3 Q
    refine s_aload_n 0 d_M_covered_113 rfl rfl ?_
    refine s_iload_n 1 d_M_covered_114 rfl rfl ?_
    refine s_callV (as := [aI x3]) (ci := 10) d_M_covered_115 ok_M_term lk_M_273 io_M_term so_M_term (by decide) rfl rfl rfl (Nat.le_of_ble_eq_true rfl) rfl (sf_42 hF3) (WM.mono h ?_)
    rintro _ σ4 ⟨v4, rfl, hp, h⟩
    show WP E m_M_covered (d + 1) 118 [(0, aP 42), (3, aI x3), (4, aL x4), (6, aL x6), (8, aI x8)] [aL v4] σ4 Q
    exact s_lreturn d_M_covered_118 rfl h
  · have h := h.2 c
    refine s_aload_n 0 d_M_covered_50 rfl rfl ?_
    refine s_getF (v := 50) d_M_covered_51 fl_M_35 rfl (sf_42 hF) (ff_35 hF) ?_
    refine s_iload 4 d_M_covered_54 rfl ?_
    obtain ⟨g5, h⟩ := h
    refine s_ialoadv (v := σ.1 50 x8) d_M_covered_56 ⟨_, sf_50 hF, g5.1, g5.2, by have := g5.2; omega⟩ rfl ?_
    refine s_callS (as := [aI (σ.1 50 x8)]) d_M_covered_57 ok_M_isSign lk_M_199 to_M_isSign rfl (Nat.le_of_ble_eq_true rfl) rfl (WM.mono h ?_)
    rintro _ σ6 ⟨v6, rfl, hp, h⟩
    obtain ⟨hF6, h⟩ := h
    show WP E m_M_covered (d + 1) 60 [(0, aP 42), (3, aI x3), (4, aL x4), (6, aL x6), (8, aI x8)] [aI v6] σ6 Q
    obtain ⟨g7, h⟩ := h
    refine s_if_eq d_M_covered_60 rfl g7 (fun c => ?_) (fun c => ?_)
    · have h := h.1 c
      refine s_iinc 4 d_M_covered_96 rfl (by decide) rfl ?_
      refine s_goto d_M_covered_99 rfl ?_
      refine wp_drop [1, 2, 3, 4, 0] rfl ?_
      exact h
    · have h := h.2 c
      refine s_lload 3 d_M_covered_63 rfl ?_
      refine s_aload_n 0 d_M_covered_65 rfl rfl ?_
      refine s_getF (v := 52) d_M_covered_66 fl_M_41 rfl (sf_42 hF6) (ff_37 hF6) ?_
      refine s_iload 4 d_M_covered_69 rfl ?_
      obtain ⟨g8, h⟩ := h
      refine s_ialoadv (v := σ6.1 52 x8) d_M_covered_71 ⟨_, sf_52 hF6, g8.1, g8.2, by have := g8.2; omega⟩ rfl ?_
      refine s_aload_n 0 d_M_covered_72 rfl rfl ?_
      refine s_getF (v := 53) d_M_covered_73 fl_M_44 rfl (sf_42 hF6) (ff_38 hF6) ?_
      refine s_iload 4 d_M_covered_76 rfl ?_
      obtain ⟨g9, h⟩ := h
      refine s_ialoadv (v := σ6.1 53 x8) d_M_covered_78 ⟨_, sf_53 hF6, g9.1, g9.2, by have := g9.2; omega⟩ rfl ?_
      refine s_imul d_M_covered_79 ?_
      obtain ⟨g10, h⟩ := h
      refine s_i2l d_M_covered_80 g10 ?_
      refine s_ladd d_M_covered_81 ?_
      refine s_lstore d_M_covered_82 (by decide) rfl ?_
      refine s_aload_n 1 d_M_covered_84 rfl rfl ?_
      refine s_getF (v := 54) d_M_covered_85 fl_M_47 rfl (sf_42 hF6) (ff_39 hF6) ?_
      refine s_iload 4 d_M_covered_88 rfl ?_
      obtain ⟨g11, h⟩ := h
      refine s_ialoadv (v := σ6.1 54 x8) d_M_covered_90 ⟨_, sf_54 hF6, g11.1, g11.2, by have := g11.2; omega⟩ rfl ?_
      refine s_istore d_M_covered_91 (by decide) rfl ?_
      refine s_goto d_M_covered_93 rfl ?_
      refine wp_drop [2, 3, 4, 1, 0] rfl ?_
      exact h
theorem d_M_smallest_0 : decode m_M_smallest.2.1 0 = .ok (.aload_n 0, 1) := by decide +kernel
theorem d_M_smallest_1 : decode m_M_smallest.2.1 1 = .ok (.iload_n 1, 1) := by decide +kernel
theorem d_M_smallest_2 : decode m_M_smallest.2.1 2 = .ok (.iload_n 2, 1) := by decide +kernel
theorem d_M_smallest_3 : decode m_M_smallest.2.1 3 = .ok (.invokevirtual 206, 3) := by decide +kernel
theorem d_M_smallest_6 : decode m_M_smallest.2.1 6 = .ok (.ifCond .ne 5, 3) := by decide +kernel
theorem d_M_smallest_9 : decode m_M_smallest.2.1 9 = .ok (.iconst (-1), 1) := by decide +kernel
theorem d_M_smallest_10 : decode m_M_smallest.2.1 10 = .ok (.ireturn, 1) := by decide +kernel
theorem d_M_smallest_11 : decode m_M_smallest.2.1 11 = .ok (.aload_n 0, 1) := by decide +kernel
theorem d_M_smallest_12 : decode m_M_smallest.2.1 12 = .ok (.iload_n 1, 1) := by decide +kernel
theorem d_M_smallest_13 : decode m_M_smallest.2.1 13 = .ok (.iload_n 2, 1) := by decide +kernel
theorem d_M_smallest_14 : decode m_M_smallest.2.1 14 = .ok (.invokevirtual 210, 3) := by decide +kernel
theorem d_M_smallest_17 : decode m_M_smallest.2.1 17 = .ok (.aload_n 0, 1) := by decide +kernel
theorem d_M_smallest_18 : decode m_M_smallest.2.1 18 = .ok (.invokevirtual 263, 3) := by decide +kernel
theorem d_M_smallest_21 : decode m_M_smallest.2.1 21 = .ok (.iconst 0, 1) := by decide +kernel
theorem d_M_smallest_22 : decode m_M_smallest.2.1 22 = .ok (.istore_n 3, 1) := by decide +kernel
theorem d_M_smallest_23 : decode m_M_smallest.2.1 23 = .ok (.iconst 1, 1) := by decide +kernel
theorem d_M_smallest_24 : decode m_M_smallest.2.1 24 = .ok (.istore 4, 2) := by decide +kernel
theorem d_M_smallest_26 : decode m_M_smallest.2.1 26 = .ok (.iload 4, 2) := by decide +kernel
theorem d_M_smallest_28 : decode m_M_smallest.2.1 28 = .ok (.aload_n 0, 1) := by decide +kernel
theorem d_M_smallest_29 : decode m_M_smallest.2.1 29 = .ok (.getfield 238, 3) := by decide +kernel
theorem d_M_smallest_32 : decode m_M_smallest.2.1 32 = .ok (.if_icmp .ge 44, 3) := by decide +kernel
theorem d_M_smallest_35 : decode m_M_smallest.2.1 35 = .ok (.aload_n 0, 1) := by decide +kernel
theorem d_M_smallest_36 : decode m_M_smallest.2.1 36 = .ok (.getfield 50, 3) := by decide +kernel
theorem d_M_smallest_39 : decode m_M_smallest.2.1 39 = .ok (.iload 4, 2) := by decide +kernel
theorem d_M_smallest_41 : decode m_M_smallest.2.1 41 = .ok (.laload, 1) := by decide +kernel
theorem d_M_smallest_42 : decode m_M_smallest.2.1 42 = .ok (.aload_n 0, 1) := by decide +kernel
theorem d_M_smallest_43 : decode m_M_smallest.2.1 43 = .ok (.getfield 54, 3) := by decide +kernel
theorem d_M_smallest_46 : decode m_M_smallest.2.1 46 = .ok (.iload_n 3, 1) := by decide +kernel
theorem d_M_smallest_47 : decode m_M_smallest.2.1 47 = .ok (.laload, 1) := by decide +kernel
theorem d_M_smallest_48 : decode m_M_smallest.2.1 48 = .ok (.lmul, 1) := by decide +kernel
theorem d_M_smallest_49 : decode m_M_smallest.2.1 49 = .ok (.aload_n 0, 1) := by decide +kernel
theorem d_M_smallest_50 : decode m_M_smallest.2.1 50 = .ok (.getfield 50, 3) := by decide +kernel
theorem d_M_smallest_53 : decode m_M_smallest.2.1 53 = .ok (.iload_n 3, 1) := by decide +kernel
theorem d_M_smallest_54 : decode m_M_smallest.2.1 54 = .ok (.laload, 1) := by decide +kernel
theorem d_M_smallest_55 : decode m_M_smallest.2.1 55 = .ok (.aload_n 0, 1) := by decide +kernel
theorem d_M_smallest_56 : decode m_M_smallest.2.1 56 = .ok (.getfield 54, 3) := by decide +kernel
theorem d_M_smallest_59 : decode m_M_smallest.2.1 59 = .ok (.iload 4, 2) := by decide +kernel
theorem d_M_smallest_61 : decode m_M_smallest.2.1 61 = .ok (.laload, 1) := by decide +kernel
theorem d_M_smallest_62 : decode m_M_smallest.2.1 62 = .ok (.lmul, 1) := by decide +kernel
theorem d_M_smallest_63 : decode m_M_smallest.2.1 63 = .ok (.lcmp, 1) := by decide +kernel
theorem d_M_smallest_64 : decode m_M_smallest.2.1 64 = .ok (.ifCond .ge 6, 3) := by decide +kernel
theorem d_M_smallest_67 : decode m_M_smallest.2.1 67 = .ok (.iload 4, 2) := by decide +kernel
theorem d_M_smallest_69 : decode m_M_smallest.2.1 69 = .ok (.istore_n 3, 1) := by decide +kernel
theorem d_M_smallest_70 : decode m_M_smallest.2.1 70 = .ok (.iinc 4 1, 3) := by decide +kernel
theorem d_M_smallest_73 : decode m_M_smallest.2.1 73 = .ok (.goto (-47), 3) := by decide +kernel
theorem d_M_smallest_76 : decode m_M_smallest.2.1 76 = .ok (.iconst 0, 1) := by decide +kernel
theorem d_M_smallest_77 : decode m_M_smallest.2.1 77 = .ok (.istore 4, 2) := by decide +kernel
theorem d_M_smallest_79 : decode m_M_smallest.2.1 79 = .ok (.iconst 0, 1) := by decide +kernel
theorem d_M_smallest_80 : decode m_M_smallest.2.1 80 = .ok (.istore 5, 2) := by decide +kernel
theorem d_M_smallest_82 : decode m_M_smallest.2.1 82 = .ok (.iload 5, 2) := by decide +kernel
theorem d_M_smallest_84 : decode m_M_smallest.2.1 84 = .ok (.aload_n 0, 1) := by decide +kernel
theorem d_M_smallest_85 : decode m_M_smallest.2.1 85 = .ok (.getfield 189, 3) := by decide +kernel
theorem d_M_smallest_88 : decode m_M_smallest.2.1 88 = .ok (.if_icmp .ge 68, 3) := by decide +kernel
theorem d_M_smallest_91 : decode m_M_smallest.2.1 91 = .ok (.aload_n 0, 1) := by decide +kernel
theorem d_M_smallest_92 : decode m_M_smallest.2.1 92 = .ok (.getfield 69, 3) := by decide +kernel
theorem d_M_smallest_95 : decode m_M_smallest.2.1 95 = .ok (.iload 5, 2) := by decide +kernel
theorem d_M_smallest_97 : decode m_M_smallest.2.1 97 = .ok (.iaload, 1) := by decide +kernel
theorem d_M_smallest_98 : decode m_M_smallest.2.1 98 = .ok (.istore 6, 2) := by decide +kernel
theorem d_M_smallest_100 : decode m_M_smallest.2.1 100 = .ok (.aload_n 0, 1) := by decide +kernel
theorem d_M_smallest_101 : decode m_M_smallest.2.1 101 = .ok (.getfield 35, 3) := by decide +kernel
theorem d_M_smallest_104 : decode m_M_smallest.2.1 104 = .ok (.iload 5, 2) := by decide +kernel
theorem d_M_smallest_106 : decode m_M_smallest.2.1 106 = .ok (.iaload, 1) := by decide +kernel
theorem d_M_smallest_107 : decode m_M_smallest.2.1 107 = .ok (.invokestatic 199, 3) := by decide +kernel
theorem d_M_smallest_110 : decode m_M_smallest.2.1 110 = .ok (.ifCond .eq 40, 3) := by decide +kernel
theorem d_M_smallest_113 : decode m_M_smallest.2.1 113 = .ok (.aload_n 0, 1) := by decide +kernel
theorem d_M_smallest_114 : decode m_M_smallest.2.1 114 = .ok (.getfield 50, 3) := by decide +kernel
theorem d_M_smallest_117 : decode m_M_smallest.2.1 117 = .ok (.iload 6, 2) := by decide +kernel
theorem d_M_smallest_119 : decode m_M_smallest.2.1 119 = .ok (.laload, 1) := by decide +kernel
theorem d_M_smallest_120 : decode m_M_smallest.2.1 120 = .ok (.aload_n 0, 1) := by decide +kernel
theorem d_M_smallest_121 : decode m_M_smallest.2.1 121 = .ok (.getfield 50, 3) := by decide +kernel
theorem d_M_smallest_124 : decode m_M_smallest.2.1 124 = .ok (.iload_n 3, 1) := by decide +kernel
theorem d_M_smallest_125 : decode m_M_smallest.2.1 125 = .ok (.laload, 1) := by decide +kernel
theorem d_M_smallest_126 : decode m_M_smallest.2.1 126 = .ok (.lcmp, 1) := by decide +kernel
theorem d_M_smallest_127 : decode m_M_smallest.2.1 127 = .ok (.ifCond .ne 23, 3) := by decide +kernel
theorem d_M_smallest_130 : decode m_M_smallest.2.1 130 = .ok (.aload_n 0, 1) := by decide +kernel
theorem d_M_smallest_131 : decode m_M_smallest.2.1 131 = .ok (.getfield 54, 3) := by decide +kernel
theorem d_M_smallest_134 : decode m_M_smallest.2.1 134 = .ok (.iload 6, 2) := by decide +kernel
theorem d_M_smallest_136 : decode m_M_smallest.2.1 136 = .ok (.laload, 1) := by decide +kernel
theorem d_M_smallest_137 : decode m_M_smallest.2.1 137 = .ok (.aload_n 0, 1) := by decide +kernel
theorem d_M_smallest_138 : decode m_M_smallest.2.1 138 = .ok (.getfield 54, 3) := by decide +kernel
theorem d_M_smallest_141 : decode m_M_smallest.2.1 141 = .ok (.iload_n 3, 1) := by decide +kernel
theorem d_M_smallest_142 : decode m_M_smallest.2.1 142 = .ok (.laload, 1) := by decide +kernel
theorem d_M_smallest_143 : decode m_M_smallest.2.1 143 = .ok (.lcmp, 1) := by decide +kernel
theorem d_M_smallest_144 : decode m_M_smallest.2.1 144 = .ok (.ifCond .ne 6, 3) := by decide +kernel
theorem d_M_smallest_147 : decode m_M_smallest.2.1 147 = .ok (.iinc 4 1, 3) := by decide +kernel
theorem d_M_smallest_150 : decode m_M_smallest.2.1 150 = .ok (.iinc 5 1, 3) := by decide +kernel
theorem d_M_smallest_153 : decode m_M_smallest.2.1 153 = .ok (.goto (-71), 3) := by decide +kernel
theorem d_M_smallest_156 : decode m_M_smallest.2.1 156 = .ok (.iload 4, 2) := by decide +kernel
theorem d_M_smallest_158 : decode m_M_smallest.2.1 158 = .ok (.ireturn, 1) := by decide +kernel
theorem b_M_smallest_0 {E : EV} {d : Nat} {Q : Option AV → St → Prop} {σ : St} (x1 x2 : Int) (hF : Fix σ) (h : (WMi E m_M_isSquare d [aP 42, aI x1, aI x2] σ (fun v1 σ1 => Fix σ1 ∧ (rI v1) ∧ ((¬ v1 = 0 → (WMv E m_M_takes d [aP 42, aI x1, aI x2] σ1 (fun σ3 => Fix σ3 ∧ (WMv E m_M_places d [aP 42] σ3 (fun σ4 => WP E m_M_smallest (d + 1) 26 [(0, aP 42), (3, aI 0), (4, aI 1)] [] σ4 Q))))) ∧ (v1 = 0 → Q (some (aI (-1))) σ1))))) : WP E m_M_smallest (d + 1) 0 [(0, aP 42), (1, aI x1), (2, aI x2)] [] σ Q := by
  refine s_aload_n 0 d_M_smallest_0 rfl rfl ?_
  refine s_iload_n 1 d_M_smallest_1 rfl rfl ?_
  refine s_iload_n 2 d_M_smallest_2 rfl rfl ?_
  refine s_callV (as := [aI x1, aI x2]) (ci := 10) d_M_smallest_3 ok_M_isSquare lk_M_206 io_M_isSquare so_M_isSquare (by decide) rfl rfl rfl (Nat.le_of_ble_eq_true rfl) rfl (sf_42 hF) (WM.mono h ?_)
  rintro _ σ1 ⟨v1, rfl, hp, h⟩
  obtain ⟨hF1, h⟩ := h
  show WP E m_M_smallest (d + 1) 6 [(0, aP 42), (1, aI x1), (2, aI x2)] [aI v1] σ1 Q
  obtain ⟨g2, h⟩ := h
  refine s_if_ne d_M_smallest_6 rfl g2 (fun c => ?_) (fun c => ?_)
  · have h := h.1 c
    refine s_aload_n 0 d_M_smallest_11 rfl rfl ?_
    refine s_iload_n 1 d_M_smallest_12 rfl rfl ?_
    refine s_iload_n 2 d_M_smallest_13 rfl rfl ?_
    refine s_callV (as := [aI x1, aI x2]) (ci := 10) d_M_smallest_14 ok_M_takes lk_M_210 io_M_takes so_M_takes (by decide) rfl rfl rfl (Nat.le_of_ble_eq_true rfl) rfl (sf_42 hF1) (WM.mono h ?_)
    rintro _ σ3 ⟨rfl, hp, h⟩
    obtain ⟨hF3, h⟩ := h
    show WP E m_M_smallest (d + 1) 17 [(0, aP 42), (1, aI x1), (2, aI x2)] [] σ3 Q
    refine s_aload_n 0 d_M_smallest_17 rfl rfl ?_
    refine s_callV (as := []) (ci := 10) d_M_smallest_18 ok_M_places lk_M_263 io_M_places so_M_places (by decide) rfl rfl rfl (Nat.le_of_ble_eq_true rfl) rfl (sf_42 hF3) (WM.mono h ?_)
    rintro _ σ4 ⟨rfl, hp, h⟩
    show WP E m_M_smallest (d + 1) 21 [(0, aP 42), (1, aI x1), (2, aI x2)] [] σ4 Q
    refine s_iconst d_M_smallest_21 ?_
    refine s_istore_n d_M_smallest_22 rfl (by decide) rfl ?_
    refine s_iconst d_M_smallest_23 ?_
    refine s_istore d_M_smallest_24 (by decide) rfl ?_
    refine wp_drop [2, 1, 0] rfl ?_
    exact h
  · have h := h.2 c
    refine s_iconst d_M_smallest_9 ?_
    exact s_ireturn d_M_smallest_10 rfl h
theorem e_M_smallest {E : EV} {d : Nat} {Q : Option AV → St → Prop} {σ : St} (x1 x2 : Int) (hF : Fix σ) (h : (WMi E m_M_isSquare d [aP 42, aI x1, aI x2] σ (fun v1 σ1 => Fix σ1 ∧ (rI v1) ∧ ((¬ v1 = 0 → (WMv E m_M_takes d [aP 42, aI x1, aI x2] σ1 (fun σ3 => Fix σ3 ∧ (WMv E m_M_places d [aP 42] σ3 (fun σ4 => WP E m_M_smallest (d + 1) 26 [(0, aP 42), (3, aI 0), (4, aI 1)] [] σ4 Q))))) ∧ (v1 = 0 → Q (some (aI (-1))) σ1))))) : WM E m_M_smallest (d + 1) [aP 42, aI x1, aI x2] σ Q := s_meth (by decide) (Nat.le_of_ble_eq_true rfl) rfl (b_M_smallest_0 x1 x2 hF h)
theorem b_M_smallest_26 {E : EV} {d : Nat} {Q : Option AV → St → Prop} {σ : St} (x3 x4 : Int) (hF : Fix σ) (h : (rI x4) ∧ (rI (σ.1 42 27)) ∧ (((σ.1 42 27) ≤ x4 → WP E m_M_smallest (d + 1) 82 [(0, aP 42), (3, aI x3), (4, aI 0), (5, aI 0)] [] σ Q) ∧ (¬ (σ.1 42 27) ≤ x4 → (0 ≤ x4 ∧ x4 < 12) ∧ (0 ≤ x3 ∧ x3 < 12) ∧ (0 ≤ x3 ∧ x3 < 12) ∧ (0 ≤ x4 ∧ x4 < 12) ∧ (rL ((σ.1 55 x4) * (σ.1 56 x3))) ∧ (rL ((σ.1 55 x3) * (σ.1 56 x4))) ∧ ((((σ.1 55 x3) * (σ.1 56 x4)) ≤ ((σ.1 55 x4) * (σ.1 56 x3)) → WP E m_M_smallest (d + 1) 70 [(0, aP 42), (3, aI x3), (4, aI x4)] [] σ Q) ∧ (¬ ((σ.1 55 x3) * (σ.1 56 x4)) ≤ ((σ.1 55 x4) * (σ.1 56 x3)) → WP E m_M_smallest (d + 1) 70 [(0, aP 42), (3, aI x4), (4, aI x4)] [] σ Q))))) : WP E m_M_smallest (d + 1) 26 [(0, aP 42), (3, aI x3), (4, aI x4)] [] σ Q := by
  refine s_iload 2 d_M_smallest_26 rfl ?_
  refine s_aload_n 0 d_M_smallest_28 rfl rfl ?_
  refine s_getF (v := σ.1 42 27) d_M_smallest_29 fl_M_238 rfl (sf_42 hF) rfl ?_
  obtain ⟨g1, h⟩ := h
  obtain ⟨g2, h⟩ := h
  refine s_icmp_ge d_M_smallest_32 rfl g1 g2 (fun c => ?_) (fun c => ?_)
  · have h := h.1 c
    refine s_iconst d_M_smallest_76 ?_
    refine s_istore d_M_smallest_77 (by decide) rfl ?_
    refine s_iconst d_M_smallest_79 ?_
    refine s_istore d_M_smallest_80 (by decide) rfl ?_
    refine wp_drop [2, 3, 1, 0] rfl ?_
    exact h
  · have h := h.2 c
    refine s_aload_n 0 d_M_smallest_35 rfl rfl ?_
    refine s_getF (v := 55) d_M_smallest_36 fl_M_50 rfl (sf_42 hF) (ff_40 hF) ?_
    refine s_iload 2 d_M_smallest_39 rfl ?_
    obtain ⟨g3, h⟩ := h
    refine s_laloadv (v := σ.1 55 x4) d_M_smallest_41 ⟨_, sf_55 hF, g3.1, g3.2, by have := g3.2; omega⟩ rfl ?_
    refine s_aload_n 0 d_M_smallest_42 rfl rfl ?_
    refine s_getF (v := 56) d_M_smallest_43 fl_M_54 rfl (sf_42 hF) (ff_41 hF) ?_
    refine s_iload_n 1 d_M_smallest_46 rfl rfl ?_
    obtain ⟨g4, h⟩ := h
    refine s_laloadv (v := σ.1 56 x3) d_M_smallest_47 ⟨_, sf_56 hF, g4.1, g4.2, by have := g4.2; omega⟩ rfl ?_
    refine s_lmul d_M_smallest_48 ?_
    refine s_aload_n 0 d_M_smallest_49 rfl rfl ?_
    refine s_getF (v := 55) d_M_smallest_50 fl_M_50 rfl (sf_42 hF) (ff_40 hF) ?_
    refine s_iload_n 1 d_M_smallest_53 rfl rfl ?_
    obtain ⟨g5, h⟩ := h
    refine s_laloadv (v := σ.1 55 x3) d_M_smallest_54 ⟨_, sf_55 hF, g5.1, g5.2, by have := g5.2; omega⟩ rfl ?_
    refine s_aload_n 0 d_M_smallest_55 rfl rfl ?_
    refine s_getF (v := 56) d_M_smallest_56 fl_M_54 rfl (sf_42 hF) (ff_41 hF) ?_
    refine s_iload 2 d_M_smallest_59 rfl ?_
    obtain ⟨g6, h⟩ := h
    refine s_laloadv (v := σ.1 56 x4) d_M_smallest_61 ⟨_, sf_56 hF, g6.1, g6.2, by have := g6.2; omega⟩ rfl ?_
    refine s_lmul d_M_smallest_62 ?_
    obtain ⟨g7, h⟩ := h
    obtain ⟨g8, h⟩ := h
    refine s_lcmp d_M_smallest_63 g7 g8 ?_
    refine s_if_ge d_M_smallest_64 rfl (lcmp_r _ _) (fun c => ?_) (fun c => ?_)
    · have h := h.1 (lcmp_ge.mp c)
      exact h
    · have h := h.2 (nlcmp_ge c)
      refine s_iload 2 d_M_smallest_67 rfl ?_
      refine s_istore_n d_M_smallest_69 rfl (by decide) rfl ?_
      refine wp_drop [1, 0, 2] rfl ?_
      exact h
theorem b_M_smallest_70 {E : EV} {d : Nat} {Q : Option AV → St → Prop} {σ : St} (x3 x4 : Int) (h : WP E m_M_smallest (d + 1) 26 [(0, aP 42), (3, aI x3), (4, aI (x4 + 1))] [] σ Q) : WP E m_M_smallest (d + 1) 70 [(0, aP 42), (3, aI x3), (4, aI x4)] [] σ Q := by
  refine s_iinc 2 d_M_smallest_70 rfl (by decide) rfl ?_
  refine s_goto d_M_smallest_73 rfl ?_
  refine wp_drop [1, 2, 0] rfl ?_
  exact h
theorem b_M_smallest_82 {E : EV} {d : Nat} {Q : Option AV → St → Prop} {σ : St} (x3 x4 x5 : Int) (hF : Fix σ) (h : (rI x5) ∧ (rI (σ.1 42 10)) ∧ (((σ.1 42 10) ≤ x5 → Q (some (aI x4)) σ) ∧ (¬ (σ.1 42 10) ≤ x5 → (0 ≤ x5 ∧ x5 < 24) ∧ (0 ≤ x5 ∧ x5 < 24) ∧ (WMi E m_M_isSign d [aI (σ.1 50 x5)] σ (fun v5 σ5 => Fix σ5 ∧ (rI v5) ∧ ((v5 = 0 → WP E m_M_smallest (d + 1) 150 [(0, aP 42), (3, aI x3), (4, aI x4), (5, aI x5)] [] σ5 Q) ∧ (¬ v5 = 0 → (0 ≤ (σ.1 61 x5) ∧ (σ.1 61 x5) < 12) ∧ (0 ≤ x3 ∧ x3 < 12) ∧ (rL (σ5.1 55 (σ.1 61 x5))) ∧ (rL (σ5.1 55 x3)) ∧ ((¬ (σ5.1 55 (σ.1 61 x5)) = (σ5.1 55 x3) → WP E m_M_smallest (d + 1) 150 [(0, aP 42), (3, aI x3), (4, aI x4), (5, aI x5)] [] σ5 Q) ∧ ((σ5.1 55 (σ.1 61 x5)) = (σ5.1 55 x3) → (0 ≤ (σ.1 61 x5) ∧ (σ.1 61 x5) < 12) ∧ (0 ≤ x3 ∧ x3 < 12) ∧ (rL (σ5.1 56 (σ.1 61 x5))) ∧ (rL (σ5.1 56 x3)) ∧ ((¬ (σ5.1 56 (σ.1 61 x5)) = (σ5.1 56 x3) → WP E m_M_smallest (d + 1) 150 [(0, aP 42), (3, aI x3), (4, aI x4), (5, aI x5)] [] σ5 Q) ∧ ((σ5.1 56 (σ.1 61 x5)) = (σ5.1 56 x3) → WP E m_M_smallest (d + 1) 150 [(0, aP 42), (3, aI x3), (4, aI (x4 + 1)), (5, aI x5)] [] σ5 Q))))))))))) : WP E m_M_smallest (d + 1) 82 [(0, aP 42), (3, aI x3), (4, aI x4), (5, aI x5)] [] σ Q := by
  refine s_iload 3 d_M_smallest_82 rfl ?_
  refine s_aload_n 0 d_M_smallest_84 rfl rfl ?_
  refine s_getF (v := σ.1 42 10) d_M_smallest_85 fl_M_189 rfl (sf_42 hF) rfl ?_
  obtain ⟨g1, h⟩ := h
  obtain ⟨g2, h⟩ := h
  refine s_icmp_ge d_M_smallest_88 rfl g1 g2 (fun c => ?_) (fun c => ?_)
  · have h := h.1 c
    refine s_iload 2 d_M_smallest_156 rfl ?_
    exact s_ireturn d_M_smallest_158 rfl h
  · have h := h.2 c
    refine s_aload_n 0 d_M_smallest_91 rfl rfl ?_
    refine s_getF (v := 61) d_M_smallest_92 fl_M_69 rfl (sf_42 hF) (ff_46 hF) ?_
    refine s_iload 3 d_M_smallest_95 rfl ?_
    obtain ⟨g3, h⟩ := h
    refine s_ialoadv (v := σ.1 61 x5) d_M_smallest_97 ⟨_, sf_61 hF, g3.1, g3.2, by have := g3.2; omega⟩ rfl ?_
    refine s_istore d_M_smallest_98 (by decide) rfl ?_
    refine s_aload_n 1 d_M_smallest_100 rfl rfl ?_
    refine s_getF (v := 50) d_M_smallest_101 fl_M_35 rfl (sf_42 hF) (ff_35 hF) ?_
    refine s_iload 4 d_M_smallest_104 rfl ?_
    obtain ⟨g4, h⟩ := h
    refine s_ialoadv (v := σ.1 50 x5) d_M_smallest_106 ⟨_, sf_50 hF, g4.1, g4.2, by have := g4.2; omega⟩ rfl ?_
    refine s_callS (as := [aI (σ.1 50 x5)]) d_M_smallest_107 ok_M_isSign lk_M_199 to_M_isSign rfl (Nat.le_of_ble_eq_true rfl) rfl (WM.mono h ?_)
    rintro _ σ5 ⟨v5, rfl, hp, h⟩
    obtain ⟨hF5, h⟩ := h
    show WP E m_M_smallest (d + 1) 110 [(6, aI (σ.1 61 x5)), (0, aP 42), (3, aI x3), (4, aI x4), (5, aI x5)] [aI v5] σ5 Q
    obtain ⟨g6, h⟩ := h
    refine s_if_eq d_M_smallest_110 rfl g6 (fun c => ?_) (fun c => ?_)
    · have h := h.1 c
      refine wp_drop [1, 2, 3, 4] rfl ?_
      exact h
    · have h := h.2 c
      refine s_aload_n 1 d_M_smallest_113 rfl rfl ?_
      refine s_getF (v := 55) d_M_smallest_114 fl_M_50 rfl (sf_42 hF5) (ff_40 hF5) ?_
      refine s_iload 0 d_M_smallest_117 rfl ?_
      obtain ⟨g7, h⟩ := h
      refine s_laloadv (v := σ5.1 55 (σ.1 61 x5)) d_M_smallest_119 ⟨_, sf_55 hF5, g7.1, g7.2, by have := g7.2; omega⟩ rfl ?_
      refine s_aload_n 1 d_M_smallest_120 rfl rfl ?_
      refine s_getF (v := 55) d_M_smallest_121 fl_M_50 rfl (sf_42 hF5) (ff_40 hF5) ?_
      refine s_iload_n 2 d_M_smallest_124 rfl rfl ?_
      obtain ⟨g8, h⟩ := h
      refine s_laloadv (v := σ5.1 55 x3) d_M_smallest_125 ⟨_, sf_55 hF5, g8.1, g8.2, by have := g8.2; omega⟩ rfl ?_
      obtain ⟨g9, h⟩ := h
      obtain ⟨g10, h⟩ := h
      refine s_lcmp d_M_smallest_126 g9 g10 ?_
      refine s_if_ne d_M_smallest_127 rfl (lcmp_r _ _) (fun c => ?_) (fun c => ?_)
      · have h := h.1 (lcmp_ne.mp c)
        refine wp_drop [1, 2, 3, 4] rfl ?_
        exact h
      · have h := h.2 (nlcmp_ne c)
        refine s_aload_n 1 d_M_smallest_130 rfl rfl ?_
        refine s_getF (v := 56) d_M_smallest_131 fl_M_54 rfl (sf_42 hF5) (ff_41 hF5) ?_
        refine s_iload 0 d_M_smallest_134 rfl ?_
        obtain ⟨g11, h⟩ := h
        refine s_laloadv (v := σ5.1 56 (σ.1 61 x5)) d_M_smallest_136 ⟨_, sf_56 hF5, g11.1, g11.2, by have := g11.2; omega⟩ rfl ?_
        refine s_aload_n 1 d_M_smallest_137 rfl rfl ?_
        refine s_getF (v := 56) d_M_smallest_138 fl_M_54 rfl (sf_42 hF5) (ff_41 hF5) ?_
        refine s_iload_n 2 d_M_smallest_141 rfl rfl ?_
        obtain ⟨g12, h⟩ := h
        refine s_laloadv (v := σ5.1 56 x3) d_M_smallest_142 ⟨_, sf_56 hF5, g12.1, g12.2, by have := g12.2; omega⟩ rfl ?_
        obtain ⟨g13, h⟩ := h
        obtain ⟨g14, h⟩ := h
        refine s_lcmp d_M_smallest_143 g13 g14 ?_
        refine s_if_ne d_M_smallest_144 rfl (lcmp_r _ _) (fun c => ?_) (fun c => ?_)
        · have h := h.1 (lcmp_ne.mp c)
          refine wp_drop [1, 2, 3, 4] rfl ?_
          exact h
        · have h := h.2 (nlcmp_ne c)
          refine s_iinc 3 d_M_smallest_147 rfl (by decide) rfl ?_
          refine wp_drop [2, 3, 0, 4] rfl ?_
          exact h
theorem b_M_smallest_150 {E : EV} {d : Nat} {Q : Option AV → St → Prop} {σ : St} (x3 x4 x5 : Int) (h : WP E m_M_smallest (d + 1) 82 [(0, aP 42), (3, aI x3), (4, aI x4), (5, aI (x5 + 1))] [] σ Q) : WP E m_M_smallest (d + 1) 150 [(0, aP 42), (3, aI x3), (4, aI x4), (5, aI x5)] [] σ Q := by
  refine s_iinc 3 d_M_smallest_150 rfl (by decide) rfl ?_
  refine s_goto d_M_smallest_153 rfl ?_
  refine wp_drop [1, 2, 3, 0] rfl ?_
  exact h
theorem d_M_tightest_0 : decode m_M_tightest.2.1 0 = .ok (.aload_n 0, 1) := by decide +kernel
theorem d_M_tightest_1 : decode m_M_tightest.2.1 1 = .ok (.iload_n 1, 1) := by decide +kernel
theorem d_M_tightest_2 : decode m_M_tightest.2.1 2 = .ok (.invokevirtual 174, 3) := by decide +kernel
theorem d_M_tightest_5 : decode m_M_tightest.2.1 5 = .ok (.ifCond .eq 11, 3) := by decide +kernel
theorem d_M_tightest_8 : decode m_M_tightest.2.1 8 = .ok (.aload_n 0, 1) := by decide +kernel
theorem d_M_tightest_9 : decode m_M_tightest.2.1 9 = .ok (.iload_n 1, 1) := by decide +kernel
theorem d_M_tightest_10 : decode m_M_tightest.2.1 10 = .ok (.invokevirtual 281, 3) := by decide +kernel
theorem d_M_tightest_13 : decode m_M_tightest.2.1 13 = .ok (.goto 4, 3) := by decide +kernel
theorem d_M_tightest_16 : decode m_M_tightest.2.1 16 = .ok (.iconst (-1), 1) := by decide +kernel
theorem d_M_tightest_17 : decode m_M_tightest.2.1 17 = .ok (.ireturn, 1) := by decide +kernel
theorem b_M_tightest_0 {E : EV} {d : Nat} {Q : Option AV → St → Prop} {σ : St} (x1 : Int) (hF : Fix σ) (h : (WMi E m_M_isLine d [aP 42, aI x1] σ (fun v1 σ1 => Fix σ1 ∧ (rI v1) ∧ ((v1 = 0 → Q (some (aI (-1))) σ1) ∧ (¬ v1 = 0 → (WMi E m_M_tightestOf d [aP 42, aI x1] σ1 (fun v3 σ3 => Q (some (aI v3)) σ3))))))) : WP E m_M_tightest (d + 1) 0 [(0, aP 42), (1, aI x1)] [] σ Q := by
  refine s_aload_n 0 d_M_tightest_0 rfl rfl ?_
  refine s_iload_n 1 d_M_tightest_1 rfl rfl ?_
  refine s_callV (as := [aI x1]) (ci := 10) d_M_tightest_2 ok_M_isLine lk_M_174 io_M_isLine so_M_isLine (by decide) rfl rfl rfl (Nat.le_of_ble_eq_true rfl) rfl (sf_42 hF) (WM.mono h ?_)
  rintro _ σ1 ⟨v1, rfl, hp, h⟩
  obtain ⟨hF1, h⟩ := h
  show WP E m_M_tightest (d + 1) 5 [(0, aP 42), (1, aI x1)] [aI v1] σ1 Q
  obtain ⟨g2, h⟩ := h
  refine s_if_eq d_M_tightest_5 rfl g2 (fun c => ?_) (fun c => ?_)
  · have h := h.1 c
    refine s_iconst d_M_tightest_16 ?_
    exact s_ireturn d_M_tightest_17 rfl h
  · have h := h.2 c
    refine s_aload_n 0 d_M_tightest_8 rfl rfl ?_
    refine s_iload_n 1 d_M_tightest_9 rfl rfl ?_
    refine s_callV (as := [aI x1]) (ci := 10) d_M_tightest_10 ok_M_tightestOf lk_M_281 io_M_tightestOf so_M_tightestOf (by decide) rfl rfl rfl (Nat.le_of_ble_eq_true rfl) rfl (sf_42 hF1) (WM.mono h ?_)
    rintro _ σ3 ⟨v3, rfl, hp, h⟩
    show WP E m_M_tightest (d + 1) 13 [(0, aP 42), (1, aI x1)] [aI v3] σ3 Q
    refine s_goto d_M_tightest_13 rfl ?_
    exact s_ireturn d_M_tightest_17 rfl h
theorem e_M_tightest {E : EV} {d : Nat} {Q : Option AV → St → Prop} {σ : St} (x1 : Int) (hF : Fix σ) (h : (WMi E m_M_isLine d [aP 42, aI x1] σ (fun v1 σ1 => Fix σ1 ∧ (rI v1) ∧ ((v1 = 0 → Q (some (aI (-1))) σ1) ∧ (¬ v1 = 0 → (WMi E m_M_tightestOf d [aP 42, aI x1] σ1 (fun v3 σ3 => Q (some (aI v3)) σ3))))))) : WM E m_M_tightest (d + 1) [aP 42, aI x1] σ Q := s_meth (by decide) (Nat.le_of_ble_eq_true rfl) rfl (b_M_tightest_0 x1 hF h)
theorem d_M_tightestOf_0 : decode m_M_tightestOf.2.1 0 = .ok (.iconst (-1), 1) := by decide +kernel
theorem d_M_tightestOf_1 : decode m_M_tightestOf.2.1 1 = .ok (.istore_n 2, 1) := by decide +kernel
theorem d_M_tightestOf_2 : decode m_M_tightestOf.2.1 2 = .ok (.iconst 0, 1) := by decide +kernel
theorem d_M_tightestOf_3 : decode m_M_tightestOf.2.1 3 = .ok (.istore_n 3, 1) := by decide +kernel
theorem d_M_tightestOf_4 : decode m_M_tightestOf.2.1 4 = .ok (.iconst 0, 1) := by decide +kernel
theorem d_M_tightestOf_5 : decode m_M_tightestOf.2.1 5 = .ok (.istore 4, 2) := by decide +kernel
theorem d_M_tightestOf_7 : decode m_M_tightestOf.2.1 7 = .ok (.iload 4, 2) := by decide +kernel
theorem d_M_tightestOf_9 : decode m_M_tightestOf.2.1 9 = .ok (.aload_n 0, 1) := by decide +kernel
theorem d_M_tightestOf_10 : decode m_M_tightestOf.2.1 10 = .ok (.iload_n 1, 1) := by decide +kernel
theorem d_M_tightestOf_11 : decode m_M_tightestOf.2.1 11 = .ok (.invokevirtual 178, 3) := by decide +kernel
theorem d_M_tightestOf_14 : decode m_M_tightestOf.2.1 14 = .ok (.if_icmp .ge 37, 3) := by decide +kernel
theorem d_M_tightestOf_17 : decode m_M_tightestOf.2.1 17 = .ok (.aload_n 0, 1) := by decide +kernel
theorem d_M_tightestOf_18 : decode m_M_tightestOf.2.1 18 = .ok (.iload_n 1, 1) := by decide +kernel
theorem d_M_tightestOf_19 : decode m_M_tightestOf.2.1 19 = .ok (.iload 4, 2) := by decide +kernel
theorem d_M_tightestOf_21 : decode m_M_tightestOf.2.1 21 = .ok (.invokevirtual 210, 3) := by decide +kernel
theorem d_M_tightestOf_24 : decode m_M_tightestOf.2.1 24 = .ok (.aload_n 0, 1) := by decide +kernel
theorem d_M_tightestOf_25 : decode m_M_tightestOf.2.1 25 = .ok (.invokevirtual 250, 3) := by decide +kernel
theorem d_M_tightestOf_28 : decode m_M_tightestOf.2.1 28 = .ok (.istore 5, 2) := by decide +kernel
theorem d_M_tightestOf_30 : decode m_M_tightestOf.2.1 30 = .ok (.iload 5, 2) := by decide +kernel
theorem d_M_tightestOf_32 : decode m_M_tightestOf.2.1 32 = .ok (.iload_n 3, 1) := by decide +kernel
theorem d_M_tightestOf_33 : decode m_M_tightestOf.2.1 33 = .ok (.if_icmp .gt 6, 3) := by decide +kernel
theorem d_M_tightestOf_36 : decode m_M_tightestOf.2.1 36 = .ok (.goto 9, 3) := by decide +kernel
theorem d_M_tightestOf_39 : decode m_M_tightestOf.2.1 39 = .ok (.iload 5, 2) := by decide +kernel
theorem d_M_tightestOf_41 : decode m_M_tightestOf.2.1 41 = .ok (.istore_n 3, 1) := by decide +kernel
theorem d_M_tightestOf_42 : decode m_M_tightestOf.2.1 42 = .ok (.iload 4, 2) := by decide +kernel
theorem d_M_tightestOf_44 : decode m_M_tightestOf.2.1 44 = .ok (.istore_n 2, 1) := by decide +kernel
theorem d_M_tightestOf_45 : decode m_M_tightestOf.2.1 45 = .ok (.iinc 4 1, 3) := by decide +kernel
theorem d_M_tightestOf_48 : decode m_M_tightestOf.2.1 48 = .ok (.goto (-41), 3) := by decide +kernel
theorem d_M_tightestOf_51 : decode m_M_tightestOf.2.1 51 = .ok (.iload_n 2, 1) := by decide +kernel
theorem d_M_tightestOf_52 : decode m_M_tightestOf.2.1 52 = .ok (.ireturn, 1) := by decide +kernel
theorem b_M_tightestOf_0 {E : EV} {d : Nat} {Q : Option AV → St → Prop} {σ : St} (x1 : Int) (h : WP E m_M_tightestOf (d + 1) 7 [(0, aP 42), (1, aI x1), (2, aI (-1)), (3, aI 0), (4, aI 0)] [] σ Q) : WP E m_M_tightestOf (d + 1) 0 [(0, aP 42), (1, aI x1)] [] σ Q := by
  refine s_iconst d_M_tightestOf_0 ?_
  refine s_istore_n d_M_tightestOf_1 rfl (by decide) rfl ?_
  refine s_iconst d_M_tightestOf_2 ?_
  refine s_istore_n d_M_tightestOf_3 rfl (by decide) rfl ?_
  refine s_iconst d_M_tightestOf_4 ?_
  refine s_istore d_M_tightestOf_5 (by decide) rfl ?_
  refine wp_drop [3, 4, 2, 1, 0] rfl ?_
  exact h
theorem e_M_tightestOf {E : EV} {d : Nat} {Q : Option AV → St → Prop} {σ : St} (x1 : Int) (h : WP E m_M_tightestOf (d + 1) 7 [(0, aP 42), (1, aI x1), (2, aI (-1)), (3, aI 0), (4, aI 0)] [] σ Q) : WM E m_M_tightestOf (d + 1) [aP 42, aI x1] σ Q := s_meth (by decide) (Nat.le_of_ble_eq_true rfl) rfl (b_M_tightestOf_0 x1 h)
theorem b_M_tightestOf_7 {E : EV} {d : Nat} {Q : Option AV → St → Prop} {σ : St} (x1 x2 x3 x4 : Int) (hF : Fix σ) (h : (WMi E m_M_squaresOf d [aP 42, aI x1] σ (fun v1 σ1 => Fix σ1 ∧ (rI x4) ∧ (rI v1) ∧ ((v1 ≤ x4 → Q (some (aI x2)) σ1) ∧ (¬ v1 ≤ x4 → (WMv E m_M_takes d [aP 42, aI x1, aI x4] σ1 (fun σ4 => Fix σ4 ∧ (WMi E m_M_greatest d [aP 42] σ4 (fun v5 σ5 => (rI v5) ∧ (rI x3) ∧ ((x3 < v5 → WP E m_M_tightestOf (d + 1) 45 [(0, aP 42), (1, aI x1), (2, aI x4), (3, aI v5), (4, aI x4)] [] σ5 Q) ∧ (¬ x3 < v5 → WP E m_M_tightestOf (d + 1) 45 [(0, aP 42), (1, aI x1), (2, aI x2), (3, aI x3), (4, aI x4)] [] σ5 Q))))))))))) : WP E m_M_tightestOf (d + 1) 7 [(0, aP 42), (1, aI x1), (2, aI x2), (3, aI x3), (4, aI x4)] [] σ Q := by
  refine s_iload 4 d_M_tightestOf_7 rfl ?_
  refine s_aload_n 0 d_M_tightestOf_9 rfl rfl ?_
  refine s_iload_n 1 d_M_tightestOf_10 rfl rfl ?_
  refine s_callV (as := [aI x1]) (ci := 10) d_M_tightestOf_11 ok_M_squaresOf lk_M_178 io_M_squaresOf so_M_squaresOf (by decide) rfl rfl rfl (Nat.le_of_ble_eq_true rfl) rfl (sf_42 hF) (WM.mono h ?_)
  rintro _ σ1 ⟨v1, rfl, hp, h⟩
  obtain ⟨hF1, h⟩ := h
  show WP E m_M_tightestOf (d + 1) 14 [(0, aP 42), (1, aI x1), (2, aI x2), (3, aI x3), (4, aI x4)] [aI v1, aI x4] σ1 Q
  obtain ⟨g2, h⟩ := h
  obtain ⟨g3, h⟩ := h
  refine s_icmp_ge d_M_tightestOf_14 rfl g2 g3 (fun c => ?_) (fun c => ?_)
  · have h := h.1 c
    refine s_iload_n 2 d_M_tightestOf_51 rfl rfl ?_
    exact s_ireturn d_M_tightestOf_52 rfl h
  · have h := h.2 c
    refine s_aload_n 0 d_M_tightestOf_17 rfl rfl ?_
    refine s_iload_n 1 d_M_tightestOf_18 rfl rfl ?_
    refine s_iload 4 d_M_tightestOf_19 rfl ?_
    refine s_callV (as := [aI x1, aI x4]) (ci := 10) d_M_tightestOf_21 ok_M_takes lk_M_210 io_M_takes so_M_takes (by decide) rfl rfl rfl (Nat.le_of_ble_eq_true rfl) rfl (sf_42 hF1) (WM.mono h ?_)
    rintro _ σ4 ⟨rfl, hp, h⟩
    obtain ⟨hF4, h⟩ := h
    show WP E m_M_tightestOf (d + 1) 24 [(0, aP 42), (1, aI x1), (2, aI x2), (3, aI x3), (4, aI x4)] [] σ4 Q
    refine s_aload_n 0 d_M_tightestOf_24 rfl rfl ?_
    refine s_callV (as := []) (ci := 10) d_M_tightestOf_25 ok_M_greatest lk_M_250 io_M_greatest so_M_greatest (by decide) rfl rfl rfl (Nat.le_of_ble_eq_true rfl) rfl (sf_42 hF4) (WM.mono h ?_)
    rintro _ σ5 ⟨v5, rfl, hp, h⟩
    show WP E m_M_tightestOf (d + 1) 28 [(0, aP 42), (1, aI x1), (2, aI x2), (3, aI x3), (4, aI x4)] [aI v5] σ5 Q
    refine s_istore d_M_tightestOf_28 (by decide) rfl ?_
    refine s_iload 0 d_M_tightestOf_30 rfl ?_
    refine s_iload_n 4 d_M_tightestOf_32 rfl rfl ?_
    obtain ⟨g6, h⟩ := h
    obtain ⟨g7, h⟩ := h
    refine s_icmp_gt d_M_tightestOf_33 rfl g6 g7 (fun c => ?_) (fun c => ?_)
    · have h := h.1 c
      refine s_iload 0 d_M_tightestOf_39 rfl ?_
      refine s_istore_n d_M_tightestOf_41 rfl (by decide) rfl ?_
      refine s_iload 5 d_M_tightestOf_42 rfl ?_
      refine s_istore_n d_M_tightestOf_44 rfl (by decide) rfl ?_
      refine wp_drop [3, 4, 0, 1, 5] rfl ?_
      exact h
    · have h := h.2 c
      refine s_goto d_M_tightestOf_36 rfl ?_
      refine wp_drop [1, 2, 3, 4, 5] rfl ?_
      exact h
theorem b_M_tightestOf_45 {E : EV} {d : Nat} {Q : Option AV → St → Prop} {σ : St} (x1 x2 x3 x4 : Int) (h : WP E m_M_tightestOf (d + 1) 7 [(0, aP 42), (1, aI x1), (2, aI x2), (3, aI x3), (4, aI (x4 + 1))] [] σ Q) : WP E m_M_tightestOf (d + 1) 45 [(0, aP 42), (1, aI x1), (2, aI x2), (3, aI x3), (4, aI x4)] [] σ Q := by
  refine s_iinc 4 d_M_tightestOf_45 rfl (by decide) rfl ?_
  refine s_goto d_M_tightestOf_48 rfl ?_
  refine wp_drop [1, 2, 3, 4, 0] rfl ?_
  exact h
theorem d_M_least_0 : decode m_M_least.2.1 0 = .ok (.aload_n 0, 1) := by decide +kernel
theorem d_M_least_1 : decode m_M_least.2.1 1 = .ok (.iload_n 1, 1) := by decide +kernel
theorem d_M_least_2 : decode m_M_least.2.1 2 = .ok (.invokevirtual 174, 3) := by decide +kernel
theorem d_M_least_5 : decode m_M_least.2.1 5 = .ok (.ifCond .eq 17, 3) := by decide +kernel
theorem d_M_least_8 : decode m_M_least.2.1 8 = .ok (.aload_n 0, 1) := by decide +kernel
theorem d_M_least_9 : decode m_M_least.2.1 9 = .ok (.iload_n 1, 1) := by decide +kernel
theorem d_M_least_10 : decode m_M_least.2.1 10 = .ok (.aload_n 0, 1) := by decide +kernel
theorem d_M_least_11 : decode m_M_least.2.1 11 = .ok (.iload_n 1, 1) := by decide +kernel
theorem d_M_least_12 : decode m_M_least.2.1 12 = .ok (.invokevirtual 281, 3) := by decide +kernel
theorem d_M_least_15 : decode m_M_least.2.1 15 = .ok (.iload_n 2, 1) := by decide +kernel
theorem d_M_least_16 : decode m_M_least.2.1 16 = .ok (.invokevirtual 284, 3) := by decide +kernel
theorem d_M_least_19 : decode m_M_least.2.1 19 = .ok (.goto 4, 3) := by decide +kernel
theorem d_M_least_22 : decode m_M_least.2.1 22 = .ok (.iconst (-1), 1) := by decide +kernel
theorem d_M_least_23 : decode m_M_least.2.1 23 = .ok (.ireturn, 1) := by decide +kernel
theorem b_M_least_0 {E : EV} {d : Nat} {Q : Option AV → St → Prop} {σ : St} (x1 x2 : Int) (hF : Fix σ) (h : (WMi E m_M_isLine d [aP 42, aI x1] σ (fun v1 σ1 => Fix σ1 ∧ (rI v1) ∧ ((v1 = 0 → Q (some (aI (-1))) σ1) ∧ (¬ v1 = 0 → (WMi E m_M_tightestOf d [aP 42, aI x1] σ1 (fun v3 σ3 => Fix σ3 ∧ (WMi E m_M_scale d [aP 42, aI x1, aI v3, aI x2] σ3 (fun v4 σ4 => Q (some (aI v4)) σ4))))))))) : WP E m_M_least (d + 1) 0 [(0, aP 42), (1, aI x1), (2, aI x2)] [] σ Q := by
  refine s_aload_n 0 d_M_least_0 rfl rfl ?_
  refine s_iload_n 1 d_M_least_1 rfl rfl ?_
  refine s_callV (as := [aI x1]) (ci := 10) d_M_least_2 ok_M_isLine lk_M_174 io_M_isLine so_M_isLine (by decide) rfl rfl rfl (Nat.le_of_ble_eq_true rfl) rfl (sf_42 hF) (WM.mono h ?_)
  rintro _ σ1 ⟨v1, rfl, hp, h⟩
  obtain ⟨hF1, h⟩ := h
  show WP E m_M_least (d + 1) 5 [(0, aP 42), (1, aI x1), (2, aI x2)] [aI v1] σ1 Q
  obtain ⟨g2, h⟩ := h
  refine s_if_eq d_M_least_5 rfl g2 (fun c => ?_) (fun c => ?_)
  · have h := h.1 c
    refine s_iconst d_M_least_22 ?_
    exact s_ireturn d_M_least_23 rfl h
  · have h := h.2 c
    refine s_aload_n 0 d_M_least_8 rfl rfl ?_
    refine s_iload_n 1 d_M_least_9 rfl rfl ?_
    refine s_aload_n 0 d_M_least_10 rfl rfl ?_
    refine s_iload_n 1 d_M_least_11 rfl rfl ?_
    refine s_callV (as := [aI x1]) (ci := 10) d_M_least_12 ok_M_tightestOf lk_M_281 io_M_tightestOf so_M_tightestOf (by decide) rfl rfl rfl (Nat.le_of_ble_eq_true rfl) rfl (sf_42 hF1) (WM.mono h ?_)
    rintro _ σ3 ⟨v3, rfl, hp, h⟩
    obtain ⟨hF3, h⟩ := h
    show WP E m_M_least (d + 1) 15 [(0, aP 42), (1, aI x1), (2, aI x2)] [aI v3, aI x1, aP 42] σ3 Q
    refine s_iload_n 2 d_M_least_15 rfl rfl ?_
    refine s_callV (as := [aI x1, aI v3, aI x2]) (ci := 10) d_M_least_16 ok_M_scale lk_M_284 io_M_scale so_M_scale (by decide) rfl rfl rfl (Nat.le_of_ble_eq_true rfl) rfl (sf_42 hF3) (WM.mono h ?_)
    rintro _ σ4 ⟨v4, rfl, hp, h⟩
    show WP E m_M_least (d + 1) 19 [(0, aP 42), (1, aI x1), (2, aI x2)] [aI v4] σ4 Q
    refine s_goto d_M_least_19 rfl ?_
    exact s_ireturn d_M_least_23 rfl h
theorem e_M_least {E : EV} {d : Nat} {Q : Option AV → St → Prop} {σ : St} (x1 x2 : Int) (hF : Fix σ) (h : (WMi E m_M_isLine d [aP 42, aI x1] σ (fun v1 σ1 => Fix σ1 ∧ (rI v1) ∧ ((v1 = 0 → Q (some (aI (-1))) σ1) ∧ (¬ v1 = 0 → (WMi E m_M_tightestOf d [aP 42, aI x1] σ1 (fun v3 σ3 => Fix σ3 ∧ (WMi E m_M_scale d [aP 42, aI x1, aI v3, aI x2] σ3 (fun v4 σ4 => Q (some (aI v4)) σ4))))))))) : WM E m_M_least (d + 1) [aP 42, aI x1, aI x2] σ Q := s_meth (by decide) (Nat.le_of_ble_eq_true rfl) rfl (b_M_least_0 x1 x2 hF h)
theorem d_M_exchange_0 : decode m_M_exchange.2.1 0 = .ok (.aload_n 0, 1) := by decide +kernel
theorem d_M_exchange_1 : decode m_M_exchange.2.1 1 = .ok (.iload_n 1, 1) := by decide +kernel
theorem d_M_exchange_2 : decode m_M_exchange.2.1 2 = .ok (.iload_n 2, 1) := by decide +kernel
theorem d_M_exchange_3 : decode m_M_exchange.2.1 3 = .ok (.iload_n 3, 1) := by decide +kernel
theorem d_M_exchange_4 : decode m_M_exchange.2.1 4 = .ok (.invokevirtual 257, 3) := by decide +kernel
theorem d_M_exchange_7 : decode m_M_exchange.2.1 7 = .ok (.istore 5, 2) := by decide +kernel
theorem d_M_exchange_9 : decode m_M_exchange.2.1 9 = .ok (.iload 5, 2) := by decide +kernel
theorem d_M_exchange_11 : decode m_M_exchange.2.1 11 = .ok (.iconst (-1), 1) := by decide +kernel
theorem d_M_exchange_12 : decode m_M_exchange.2.1 12 = .ok (.if_icmp .eq 49, 3) := by decide +kernel
theorem d_M_exchange_15 : decode m_M_exchange.2.1 15 = .ok (.aload_n 0, 1) := by decide +kernel
theorem d_M_exchange_16 : decode m_M_exchange.2.1 16 = .ok (.iload 4, 2) := by decide +kernel
theorem d_M_exchange_18 : decode m_M_exchange.2.1 18 = .ok (.invokevirtual 287, 3) := by decide +kernel
theorem d_M_exchange_21 : decode m_M_exchange.2.1 21 = .ok (.ifCond .eq 40, 3) := by decide +kernel
theorem d_M_exchange_24 : decode m_M_exchange.2.1 24 = .ok (.aload_n 0, 1) := by decide +kernel
theorem d_M_exchange_25 : decode m_M_exchange.2.1 25 = .ok (.getfield 35, 3) := by decide +kernel
theorem d_M_exchange_28 : decode m_M_exchange.2.1 28 = .ok (.iload 5, 2) := by decide +kernel
theorem d_M_exchange_30 : decode m_M_exchange.2.1 30 = .ok (.iaload, 1) := by decide +kernel
theorem d_M_exchange_31 : decode m_M_exchange.2.1 31 = .ok (.invokestatic 217, 3) := by decide +kernel
theorem d_M_exchange_34 : decode m_M_exchange.2.1 34 = .ok (.iload 4, 2) := by decide +kernel
theorem d_M_exchange_36 : decode m_M_exchange.2.1 36 = .ok (.if_icmp .eq 25, 3) := by decide +kernel
theorem d_M_exchange_39 : decode m_M_exchange.2.1 39 = .ok (.aload_n 0, 1) := by decide +kernel
theorem d_M_exchange_40 : decode m_M_exchange.2.1 40 = .ok (.getfield 35, 3) := by decide +kernel
theorem d_M_exchange_43 : decode m_M_exchange.2.1 43 = .ok (.iload 5, 2) := by decide +kernel
theorem d_M_exchange_45 : decode m_M_exchange.2.1 45 = .ok (.iaload, 1) := by decide +kernel
theorem d_M_exchange_46 : decode m_M_exchange.2.1 46 = .ok (.bipush 100, 2) := by decide +kernel
theorem d_M_exchange_48 : decode m_M_exchange.2.1 48 = .ok (.if_icmp .lt 15, 3) := by decide +kernel
theorem d_M_exchange_51 : decode m_M_exchange.2.1 51 = .ok (.aload_n 0, 1) := by decide +kernel
theorem d_M_exchange_52 : decode m_M_exchange.2.1 52 = .ok (.getfield 20, 3) := by decide +kernel
theorem d_M_exchange_55 : decode m_M_exchange.2.1 55 = .ok (.iload 4, 2) := by decide +kernel
theorem d_M_exchange_57 : decode m_M_exchange.2.1 57 = .ok (.iaload, 1) := by decide +kernel
theorem d_M_exchange_58 : decode m_M_exchange.2.1 58 = .ok (.ifCond .ne 5, 3) := by decide +kernel
theorem d_M_exchange_61 : decode m_M_exchange.2.1 61 = .ok (.iconst 0, 1) := by decide +kernel
theorem d_M_exchange_62 : decode m_M_exchange.2.1 62 = .ok (.ireturn, 1) := by decide +kernel
theorem d_M_exchange_63 : decode m_M_exchange.2.1 63 = .ok (.aload_n 0, 1) := by decide +kernel
theorem d_M_exchange_64 : decode m_M_exchange.2.1 64 = .ok (.invokevirtual 290, 3) := by decide +kernel
theorem d_M_exchange_67 : decode m_M_exchange.2.1 67 = .ok (.aload_n 0, 1) := by decide +kernel
theorem d_M_exchange_68 : decode m_M_exchange.2.1 68 = .ok (.getfield 26, 3) := by decide +kernel
theorem d_M_exchange_71 : decode m_M_exchange.2.1 71 = .ok (.iload_n 1, 1) := by decide +kernel
theorem d_M_exchange_72 : decode m_M_exchange.2.1 72 = .ok (.iload_n 2, 1) := by decide +kernel
theorem d_M_exchange_73 : decode m_M_exchange.2.1 73 = .ok (.invokestatic 185, 3) := by decide +kernel
theorem d_M_exchange_76 : decode m_M_exchange.2.1 76 = .ok (.iconst 1, 1) := by decide +kernel
theorem d_M_exchange_77 : decode m_M_exchange.2.1 77 = .ok (.iadd, 1) := by decide +kernel
theorem d_M_exchange_78 : decode m_M_exchange.2.1 78 = .ok (.iload 5, 2) := by decide +kernel
theorem d_M_exchange_80 : decode m_M_exchange.2.1 80 = .ok (.iadd, 1) := by decide +kernel
theorem d_M_exchange_81 : decode m_M_exchange.2.1 81 = .ok (.dup2, 1) := by decide +kernel
theorem d_M_exchange_82 : decode m_M_exchange.2.1 82 = .ok (.iaload, 1) := by decide +kernel
theorem d_M_exchange_83 : decode m_M_exchange.2.1 83 = .ok (.iload 4, 2) := by decide +kernel
theorem d_M_exchange_85 : decode m_M_exchange.2.1 85 = .ok (.aload_n 0, 1) := by decide +kernel
theorem d_M_exchange_86 : decode m_M_exchange.2.1 86 = .ok (.getfield 35, 3) := by decide +kernel
theorem d_M_exchange_89 : decode m_M_exchange.2.1 89 = .ok (.iload 5, 2) := by decide +kernel
theorem d_M_exchange_91 : decode m_M_exchange.2.1 91 = .ok (.iaload, 1) := by decide +kernel
theorem d_M_exchange_92 : decode m_M_exchange.2.1 92 = .ok (.invokestatic 217, 3) := by decide +kernel
theorem d_M_exchange_95 : decode m_M_exchange.2.1 95 = .ok (.isub, 1) := by decide +kernel
theorem d_M_exchange_96 : decode m_M_exchange.2.1 96 = .ok (.iadd, 1) := by decide +kernel
theorem d_M_exchange_97 : decode m_M_exchange.2.1 97 = .ok (.iastore, 1) := by decide +kernel
theorem d_M_exchange_98 : decode m_M_exchange.2.1 98 = .ok (.iconst 1, 1) := by decide +kernel
theorem d_M_exchange_99 : decode m_M_exchange.2.1 99 = .ok (.ireturn, 1) := by decide +kernel
theorem b_M_exchange_0 {E : EV} {d : Nat} {Q : Option AV → St → Prop} {σ : St} (x1 x2 x3 x4 : Int) (hF : Fix σ) (h : (WMi E m_M_takesSign d [aP 42, aI x1, aI x2, aI x3] σ (fun v1 σ1 => Fix σ1 ∧ (rI v1) ∧ ((v1 = (-1) → Q (some (aI 0)) σ1) ∧ (¬ v1 = (-1) → (WMi E m_M_isTold d [aP 42, aI x4] σ1 (fun v3 σ3 => Fix σ3 ∧ (rI v3) ∧ ((v3 = 0 → Q (some (aI 0)) σ3) ∧ (¬ v3 = 0 → (0 ≤ v1 ∧ v1 < 24) ∧ (WMi E m_M_letterOf d [aI (σ3.1 50 v1)] σ3 (fun v6 σ6 => Fix σ6 ∧ (rI v6) ∧ (rI x4) ∧ ((v6 = x4 → Q (some (aI 0)) σ6) ∧ (¬ v6 = x4 → (0 ≤ v1 ∧ v1 < 24) ∧ (rI (σ6.1 50 v1)) ∧ (((σ6.1 50 v1) < 100 → WP E m_M_exchange (d + 1) 63 [(0, aP 42), (1, aI x1), (2, aI x2), (4, aI x4), (5, aI v1)] [] σ6 Q) ∧ (¬ (σ6.1 50 v1) < 100 → (0 ≤ x4 ∧ x4 < 26) ∧ (rI (σ6.1 45 x4)) ∧ ((¬ (σ6.1 45 x4) = 0 → WP E m_M_exchange (d + 1) 63 [(0, aP 42), (1, aI x1), (2, aI x2), (4, aI x4), (5, aI v1)] [] σ6 Q) ∧ ((σ6.1 45 x4) = 0 → Q (some (aI 0)) σ6))))))))))))))))) : WP E m_M_exchange (d + 1) 0 [(0, aP 42), (1, aI x1), (2, aI x2), (3, aI x3), (4, aI x4)] [] σ Q := by
  refine s_aload_n 0 d_M_exchange_0 rfl rfl ?_
  refine s_iload_n 1 d_M_exchange_1 rfl rfl ?_
  refine s_iload_n 2 d_M_exchange_2 rfl rfl ?_
  refine s_iload_n 3 d_M_exchange_3 rfl rfl ?_
  refine s_callV (as := [aI x1, aI x2, aI x3]) (ci := 10) d_M_exchange_4 ok_M_takesSign lk_M_257 io_M_takesSign so_M_takesSign (by decide) rfl rfl rfl (Nat.le_of_ble_eq_true rfl) rfl (sf_42 hF) (WM.mono h ?_)
  rintro _ σ1 ⟨v1, rfl, hp, h⟩
  obtain ⟨hF1, h⟩ := h
  show WP E m_M_exchange (d + 1) 7 [(0, aP 42), (1, aI x1), (2, aI x2), (3, aI x3), (4, aI x4)] [aI v1] σ1 Q
  refine s_istore d_M_exchange_7 (by decide) rfl ?_
  refine s_iload 0 d_M_exchange_9 rfl ?_
  refine s_iconst d_M_exchange_11 ?_
  obtain ⟨g2, h⟩ := h
  refine s_icmp_eq d_M_exchange_12 rfl g2 (by decide) (fun c => ?_) (fun c => ?_)
  · have h := h.1 c
    refine s_iconst d_M_exchange_61 ?_
    exact s_zreturn d_M_exchange_62 rfl (by decide) h
  · have h := h.2 c
    refine s_aload_n 1 d_M_exchange_15 rfl rfl ?_
    refine s_iload 5 d_M_exchange_16 rfl ?_
    refine s_callV (as := [aI x4]) (ci := 10) d_M_exchange_18 ok_M_isTold lk_M_287 io_M_isTold so_M_isTold (by decide) rfl rfl rfl (Nat.le_of_ble_eq_true rfl) rfl (sf_42 hF1) (WM.mono h ?_)
    rintro _ σ3 ⟨v3, rfl, hp, h⟩
    obtain ⟨hF3, h⟩ := h
    show WP E m_M_exchange (d + 1) 21 [(5, aI v1), (0, aP 42), (1, aI x1), (2, aI x2), (3, aI x3), (4, aI x4)] [aI v3] σ3 Q
    obtain ⟨g4, h⟩ := h
    refine s_if_eq d_M_exchange_21 rfl g4 (fun c => ?_) (fun c => ?_)
    · have h := h.1 c
      refine s_iconst d_M_exchange_61 ?_
      exact s_zreturn d_M_exchange_62 rfl (by decide) h
    · have h := h.2 c
      refine s_aload_n 1 d_M_exchange_24 rfl rfl ?_
      refine s_getF (v := 50) d_M_exchange_25 fl_M_35 rfl (sf_42 hF3) (ff_35 hF3) ?_
      refine s_iload 0 d_M_exchange_28 rfl ?_
      obtain ⟨g5, h⟩ := h
      refine s_ialoadv (v := σ3.1 50 v1) d_M_exchange_30 ⟨_, sf_50 hF3, g5.1, g5.2, by have := g5.2; omega⟩ rfl ?_
      refine s_callS (as := [aI (σ3.1 50 v1)]) d_M_exchange_31 ok_M_letterOf lk_M_217 to_M_letterOf rfl (Nat.le_of_ble_eq_true rfl) rfl (WM.mono h ?_)
      rintro _ σ6 ⟨v6, rfl, hp, h⟩
      obtain ⟨hF6, h⟩ := h
      show WP E m_M_exchange (d + 1) 34 [(5, aI v1), (0, aP 42), (1, aI x1), (2, aI x2), (3, aI x3), (4, aI x4)] [aI v6] σ6 Q
      refine s_iload 5 d_M_exchange_34 rfl ?_
      obtain ⟨g7, h⟩ := h
      obtain ⟨g8, h⟩ := h
      refine s_icmp_eq d_M_exchange_36 rfl g7 g8 (fun c => ?_) (fun c => ?_)
      · have h := h.1 c
        refine s_iconst d_M_exchange_61 ?_
        exact s_zreturn d_M_exchange_62 rfl (by decide) h
      · have h := h.2 c
        refine s_aload_n 1 d_M_exchange_39 rfl rfl ?_
        refine s_getF (v := 50) d_M_exchange_40 fl_M_35 rfl (sf_42 hF6) (ff_35 hF6) ?_
        refine s_iload 0 d_M_exchange_43 rfl ?_
        obtain ⟨g9, h⟩ := h
        refine s_ialoadv (v := σ6.1 50 v1) d_M_exchange_45 ⟨_, sf_50 hF6, g9.1, g9.2, by have := g9.2; omega⟩ rfl ?_
        refine s_bipush d_M_exchange_46 (by decide) ?_
        obtain ⟨g10, h⟩ := h
        refine s_icmp_lt d_M_exchange_48 rfl g10 (by decide) (fun c => ?_) (fun c => ?_)
        · have h := h.1 c
          refine wp_drop [1, 2, 3, 5, 0] rfl ?_
          exact h
        · have h := h.2 c
          refine s_aload_n 1 d_M_exchange_51 rfl rfl ?_
          refine s_getF (v := 45) d_M_exchange_52 fl_M_20 rfl (sf_42 hF6) (ff_30 hF6) ?_
          refine s_iload 5 d_M_exchange_55 rfl ?_
          obtain ⟨g11, h⟩ := h
          refine s_ialoadv (v := σ6.1 45 x4) d_M_exchange_57 ⟨_, sf_45 hF6, g11.1, g11.2, by have := g11.2; omega⟩ rfl ?_
          obtain ⟨g12, h⟩ := h
          refine s_if_ne d_M_exchange_58 rfl g12 (fun c => ?_) (fun c => ?_)
          · have h := h.1 c
            refine wp_drop [1, 2, 3, 5, 0] rfl ?_
            exact h
          · have h := h.2 c
            refine s_iconst d_M_exchange_61 ?_
            exact s_zreturn d_M_exchange_62 rfl (by decide) h
theorem e_M_exchange {E : EV} {d : Nat} {Q : Option AV → St → Prop} {σ : St} (x1 x2 x3 x4 : Int) (hF : Fix σ) (h : (WMi E m_M_takesSign d [aP 42, aI x1, aI x2, aI x3] σ (fun v1 σ1 => Fix σ1 ∧ (rI v1) ∧ ((v1 = (-1) → Q (some (aI 0)) σ1) ∧ (¬ v1 = (-1) → (WMi E m_M_isTold d [aP 42, aI x4] σ1 (fun v3 σ3 => Fix σ3 ∧ (rI v3) ∧ ((v3 = 0 → Q (some (aI 0)) σ3) ∧ (¬ v3 = 0 → (0 ≤ v1 ∧ v1 < 24) ∧ (WMi E m_M_letterOf d [aI (σ3.1 50 v1)] σ3 (fun v6 σ6 => Fix σ6 ∧ (rI v6) ∧ (rI x4) ∧ ((v6 = x4 → Q (some (aI 0)) σ6) ∧ (¬ v6 = x4 → (0 ≤ v1 ∧ v1 < 24) ∧ (rI (σ6.1 50 v1)) ∧ (((σ6.1 50 v1) < 100 → WP E m_M_exchange (d + 1) 63 [(0, aP 42), (1, aI x1), (2, aI x2), (4, aI x4), (5, aI v1)] [] σ6 Q) ∧ (¬ (σ6.1 50 v1) < 100 → (0 ≤ x4 ∧ x4 < 26) ∧ (rI (σ6.1 45 x4)) ∧ ((¬ (σ6.1 45 x4) = 0 → WP E m_M_exchange (d + 1) 63 [(0, aP 42), (1, aI x1), (2, aI x2), (4, aI x4), (5, aI v1)] [] σ6 Q) ∧ ((σ6.1 45 x4) = 0 → Q (some (aI 0)) σ6))))))))))))))))) : WM E m_M_exchange (d + 1) [aP 42, aI x1, aI x2, aI x3, aI x4] σ Q := s_meth (by decide) (Nat.le_of_ble_eq_true rfl) rfl (b_M_exchange_0 x1 x2 x3 x4 hF h)
theorem b_M_exchange_63 {E : EV} {d : Nat} {Q : Option AV → St → Prop} {σ : St} (x1 x2 x4 x5 : Int) (hF : Fix σ) (h : (WMv E m_M_keeps d [aP 42] σ (fun σ1 => Fix σ1 ∧ (WMi E m_M_placeOf d [aI x1, aI x2] σ1 (fun v2 σ2 => Fix σ2 ∧ (0 ≤ ((v2 + 1) + x5) ∧ ((v2 + 1) + x5) < 683) ∧ (0 ≤ x5 ∧ x5 < 24) ∧ (WMi E m_M_letterOf d [aI (σ2.1 50 x5)] σ2 (fun v5 σ5 => Fix σ5 ∧ (0 ≤ ((v2 + 1) + x5) ∧ ((v2 + 1) + x5) < 683) ∧ Q (some (aI 1)) (wr σ5 47 ((v2 + 1) + x5) ((σ2.1 47 ((v2 + 1) + x5)) + (x4 - v5)))))))))) : WP E m_M_exchange (d + 1) 63 [(0, aP 42), (1, aI x1), (2, aI x2), (4, aI x4), (5, aI x5)] [] σ Q := by
  refine s_aload_n 0 d_M_exchange_63 rfl rfl ?_
  refine s_callV (as := []) (ci := 10) d_M_exchange_64 ok_M_keeps lk_M_290 io_M_keeps so_M_keeps (by decide) rfl rfl rfl (Nat.le_of_ble_eq_true rfl) rfl (sf_42 hF) (WM.mono h ?_)
  rintro _ σ1 ⟨rfl, hp, h⟩
  obtain ⟨hF1, h⟩ := h
  show WP E m_M_exchange (d + 1) 67 [(0, aP 42), (1, aI x1), (2, aI x2), (4, aI x4), (5, aI x5)] [] σ1 Q
  refine s_aload_n 0 d_M_exchange_67 rfl rfl ?_
  refine s_getF (v := 47) d_M_exchange_68 fl_M_26 rfl (sf_42 hF1) (ff_32 hF1) ?_
  refine s_iload_n 1 d_M_exchange_71 rfl rfl ?_
  refine s_iload_n 2 d_M_exchange_72 rfl rfl ?_
  refine s_callS (as := [aI x1, aI x2]) d_M_exchange_73 ok_M_placeOf lk_M_185 to_M_placeOf rfl (Nat.le_of_ble_eq_true rfl) rfl (WM.mono h ?_)
  rintro _ σ2 ⟨v2, rfl, hp, h⟩
  obtain ⟨hF2, h⟩ := h
  show WP E m_M_exchange (d + 1) 76 [(0, aP 42), (1, aI x1), (2, aI x2), (4, aI x4), (5, aI x5)] [aI v2, aP 47] σ2 Q
  refine s_iconst d_M_exchange_76 ?_
  refine s_iadd d_M_exchange_77 ?_
  refine s_iload 4 d_M_exchange_78 rfl ?_
  refine s_iadd d_M_exchange_80 ?_
  refine s_dup2 d_M_exchange_81 (Nat.ne_of_beq_eq_false rfl) (Nat.ne_of_beq_eq_false rfl) ?_
  obtain ⟨g3, h⟩ := h
  refine s_ialoadv (v := σ2.1 47 ((v2 + 1) + x5)) d_M_exchange_82 ⟨_, sf_47 hF2, g3.1, g3.2, by have := g3.2; omega⟩ rfl ?_
  refine s_iload 3 d_M_exchange_83 rfl ?_
  refine s_aload_n 0 d_M_exchange_85 rfl rfl ?_
  refine s_getF (v := 50) d_M_exchange_86 fl_M_35 rfl (sf_42 hF2) (ff_35 hF2) ?_
  refine s_iload 4 d_M_exchange_89 rfl ?_
  obtain ⟨g4, h⟩ := h
  refine s_ialoadv (v := σ2.1 50 x5) d_M_exchange_91 ⟨_, sf_50 hF2, g4.1, g4.2, by have := g4.2; omega⟩ rfl ?_
  refine s_callS (as := [aI (σ2.1 50 x5)]) d_M_exchange_92 ok_M_letterOf lk_M_217 to_M_letterOf rfl (Nat.le_of_ble_eq_true rfl) rfl (WM.mono h ?_)
  rintro _ σ5 ⟨v5, rfl, hp, h⟩
  obtain ⟨hF5, h⟩ := h
  show WP E m_M_exchange (d + 1) 95 [(0, aP 42), (1, aI x1), (2, aI x2), (4, aI x4), (5, aI x5)] [aI v5, aI x4, aI (σ2.1 47 ((v2 + 1) + x5)), aI ((v2 + 1) + x5), aP 47] σ5 Q
  refine s_isub d_M_exchange_95 ?_
  refine s_iadd d_M_exchange_96 ?_
  obtain ⟨g6, h⟩ := h
  refine s_iastore d_M_exchange_97 ⟨_, sf_47 hF5, g6.1, g6.2, by have := g6.2; omega⟩ ?_
  refine s_iconst d_M_exchange_98 ?_
  exact s_zreturn d_M_exchange_99 rfl (by decide) h
theorem d_M_isTold_0 : decode m_M_isTold.2.1 0 = .ok (.iload_n 1, 1) := by decide +kernel
theorem d_M_isTold_1 : decode m_M_isTold.2.1 1 = .ok (.iconst 0, 1) := by decide +kernel
theorem d_M_isTold_2 : decode m_M_isTold.2.1 2 = .ok (.bipush 25, 2) := by decide +kernel
theorem d_M_isTold_4 : decode m_M_isTold.2.1 4 = .ok (.invokestatic 167, 3) := by decide +kernel
theorem d_M_isTold_7 : decode m_M_isTold.2.1 7 = .ok (.ifCond .eq 16, 3) := by decide +kernel
theorem d_M_isTold_10 : decode m_M_isTold.2.1 10 = .ok (.aload_n 0, 1) := by decide +kernel
theorem d_M_isTold_11 : decode m_M_isTold.2.1 11 = .ok (.getfield 13, 3) := by decide +kernel
theorem d_M_isTold_14 : decode m_M_isTold.2.1 14 = .ok (.iload_n 1, 1) := by decide +kernel
theorem d_M_isTold_15 : decode m_M_isTold.2.1 15 = .ok (.iaload, 1) := by decide +kernel
theorem d_M_isTold_16 : decode m_M_isTold.2.1 16 = .ok (.ifCond .le 7, 3) := by decide +kernel
theorem d_M_isTold_19 : decode m_M_isTold.2.1 19 = .ok (.iconst 1, 1) := by decide +kernel
theorem d_M_isTold_20 : decode m_M_isTold.2.1 20 = .ok (.goto 4, 3) := by decide +kernel
theorem d_M_isTold_23 : decode m_M_isTold.2.1 23 = .ok (.iconst 0, 1) := by decide +kernel
theorem d_M_isTold_24 : decode m_M_isTold.2.1 24 = .ok (.ireturn, 1) := by decide +kernel
theorem b_M_isTold_0 {E : EV} {d : Nat} {Q : Option AV → St → Prop} {σ : St} (x1 : Int) (hF : Fix σ) (h : (WMi E m_M_in d [aI x1, aI 0, aI 25] σ (fun v1 σ1 => Fix σ1 ∧ (rI v1) ∧ ((v1 = 0 → Q (some (aI 0)) σ1) ∧ (¬ v1 = 0 → (0 ≤ x1 ∧ x1 < 26) ∧ (rI (σ1.1 43 x1)) ∧ (((σ1.1 43 x1) ≤ 0 → Q (some (aI 0)) σ1) ∧ (¬ (σ1.1 43 x1) ≤ 0 → Q (some (aI 1)) σ1))))))) : WP E m_M_isTold (d + 1) 0 [(0, aP 42), (1, aI x1)] [] σ Q := by
  refine s_iload_n 1 d_M_isTold_0 rfl rfl ?_
  refine s_iconst d_M_isTold_1 ?_
  refine s_bipush d_M_isTold_2 (by decide) ?_
  refine s_callS (as := [aI x1, aI 0, aI 25]) d_M_isTold_4 ok_M_in lk_M_167 to_M_in rfl (Nat.le_of_ble_eq_true rfl) rfl (WM.mono h ?_)
  rintro _ σ1 ⟨v1, rfl, hp, h⟩
  obtain ⟨hF1, h⟩ := h
  show WP E m_M_isTold (d + 1) 7 [(0, aP 42), (1, aI x1)] [aI v1] σ1 Q
  obtain ⟨g2, h⟩ := h
  refine s_if_eq d_M_isTold_7 rfl g2 (fun c => ?_) (fun c => ?_)
  · have h := h.1 c
    refine s_iconst d_M_isTold_23 ?_
    exact s_zreturn d_M_isTold_24 rfl (by decide) h
  · have h := h.2 c
    refine s_aload_n 0 d_M_isTold_10 rfl rfl ?_
    refine s_getF (v := 43) d_M_isTold_11 fl_M_13 rfl (sf_42 hF1) (ff_28 hF1) ?_
    refine s_iload_n 1 d_M_isTold_14 rfl rfl ?_
    obtain ⟨g3, h⟩ := h
    refine s_ialoadv (v := σ1.1 43 x1) d_M_isTold_15 ⟨_, sf_43 hF1, g3.1, g3.2, by have := g3.2; omega⟩ rfl ?_
    obtain ⟨g4, h⟩ := h
    refine s_if_le d_M_isTold_16 rfl g4 (fun c => ?_) (fun c => ?_)
    · have h := h.1 c
      refine s_iconst d_M_isTold_23 ?_
      exact s_zreturn d_M_isTold_24 rfl (by decide) h
    · have h := h.2 c
      refine s_iconst d_M_isTold_19 ?_
      refine s_goto d_M_isTold_20 rfl ?_
      exact s_zreturn d_M_isTold_24 rfl (by decide) h
theorem e_M_isTold {E : EV} {d : Nat} {Q : Option AV → St → Prop} {σ : St} (x1 : Int) (hF : Fix σ) (h : (WMi E m_M_in d [aI x1, aI 0, aI 25] σ (fun v1 σ1 => Fix σ1 ∧ (rI v1) ∧ ((v1 = 0 → Q (some (aI 0)) σ1) ∧ (¬ v1 = 0 → (0 ≤ x1 ∧ x1 < 26) ∧ (rI (σ1.1 43 x1)) ∧ (((σ1.1 43 x1) ≤ 0 → Q (some (aI 0)) σ1) ∧ (¬ (σ1.1 43 x1) ≤ 0 → Q (some (aI 1)) σ1))))))) : WM E m_M_isTold (d + 1) [aP 42, aI x1] σ Q := s_meth (by decide) (Nat.le_of_ble_eq_true rfl) rfl (b_M_isTold_0 x1 hF h)
theorem d_M_keeps_0 : decode m_M_keeps.2.1 0 = .ok (.aload_n 0, 1) := by decide +kernel
theorem d_M_keeps_1 : decode m_M_keeps.2.1 1 = .ok (.getfield 171, 3) := by decide +kernel
theorem d_M_keeps_4 : decode m_M_keeps.2.1 4 = .ok (.bipush 12, 2) := by decide +kernel
theorem d_M_keeps_6 : decode m_M_keeps.2.1 6 = .ok (.if_icmp .ne 46, 3) := by decide +kernel
theorem d_M_keeps_9 : decode m_M_keeps.2.1 9 = .ok (.sipush 683, 3) := by decide +kernel
theorem d_M_keeps_12 : decode m_M_keeps.2.1 12 = .ok (.istore_n 1, 1) := by decide +kernel
theorem d_M_keeps_13 : decode m_M_keeps.2.1 13 = .ok (.iload_n 1, 1) := by decide +kernel
theorem d_M_keeps_14 : decode m_M_keeps.2.1 14 = .ok (.sipush 8196, 3) := by decide +kernel
theorem d_M_keeps_17 : decode m_M_keeps.2.1 17 = .ok (.if_icmp .ge 25, 3) := by decide +kernel
theorem d_M_keeps_20 : decode m_M_keeps.2.1 20 = .ok (.aload_n 0, 1) := by decide +kernel
theorem d_M_keeps_21 : decode m_M_keeps.2.1 21 = .ok (.getfield 32, 3) := by decide +kernel
theorem d_M_keeps_24 : decode m_M_keeps.2.1 24 = .ok (.iload_n 1, 1) := by decide +kernel
theorem d_M_keeps_25 : decode m_M_keeps.2.1 25 = .ok (.sipush 683, 3) := by decide +kernel
theorem d_M_keeps_28 : decode m_M_keeps.2.1 28 = .ok (.isub, 1) := by decide +kernel
theorem d_M_keeps_29 : decode m_M_keeps.2.1 29 = .ok (.aload_n 0, 1) := by decide +kernel
theorem d_M_keeps_30 : decode m_M_keeps.2.1 30 = .ok (.getfield 32, 3) := by decide +kernel
theorem d_M_keeps_33 : decode m_M_keeps.2.1 33 = .ok (.iload_n 1, 1) := by decide +kernel
theorem d_M_keeps_34 : decode m_M_keeps.2.1 34 = .ok (.iaload, 1) := by decide +kernel
theorem d_M_keeps_35 : decode m_M_keeps.2.1 35 = .ok (.iastore, 1) := by decide +kernel
theorem d_M_keeps_36 : decode m_M_keeps.2.1 36 = .ok (.iinc 1 1, 3) := by decide +kernel
theorem d_M_keeps_39 : decode m_M_keeps.2.1 39 = .ok (.goto (-26), 3) := by decide +kernel
theorem d_M_keeps_42 : decode m_M_keeps.2.1 42 = .ok (.aload_n 0, 1) := by decide +kernel
theorem d_M_keeps_43 : decode m_M_keeps.2.1 43 = .ok (.dup, 1) := by decide +kernel
theorem d_M_keeps_44 : decode m_M_keeps.2.1 44 = .ok (.getfield 171, 3) := by decide +kernel
theorem d_M_keeps_47 : decode m_M_keeps.2.1 47 = .ok (.iconst 1, 1) := by decide +kernel
theorem d_M_keeps_48 : decode m_M_keeps.2.1 48 = .ok (.isub, 1) := by decide +kernel
theorem d_M_keeps_49 : decode m_M_keeps.2.1 49 = .ok (.putfield 171, 3) := by decide +kernel
theorem d_M_keeps_52 : decode m_M_keeps.2.1 52 = .ok (.iconst 0, 1) := by decide +kernel
theorem d_M_keeps_53 : decode m_M_keeps.2.1 53 = .ok (.istore_n 1, 1) := by decide +kernel
theorem d_M_keeps_54 : decode m_M_keeps.2.1 54 = .ok (.iload_n 1, 1) := by decide +kernel
theorem d_M_keeps_55 : decode m_M_keeps.2.1 55 = .ok (.sipush 683, 3) := by decide +kernel
theorem d_M_keeps_58 : decode m_M_keeps.2.1 58 = .ok (.if_icmp .ge 30, 3) := by decide +kernel
theorem d_M_keeps_61 : decode m_M_keeps.2.1 61 = .ok (.aload_n 0, 1) := by decide +kernel
theorem d_M_keeps_62 : decode m_M_keeps.2.1 62 = .ok (.getfield 32, 3) := by decide +kernel
theorem d_M_keeps_65 : decode m_M_keeps.2.1 65 = .ok (.sipush 683, 3) := by decide +kernel
theorem d_M_keeps_68 : decode m_M_keeps.2.1 68 = .ok (.aload_n 0, 1) := by decide +kernel
theorem d_M_keeps_69 : decode m_M_keeps.2.1 69 = .ok (.getfield 171, 3) := by decide +kernel
theorem d_M_keeps_72 : decode m_M_keeps.2.1 72 = .ok (.imul, 1) := by decide +kernel
theorem d_M_keeps_73 : decode m_M_keeps.2.1 73 = .ok (.iload_n 1, 1) := by decide +kernel
theorem d_M_keeps_74 : decode m_M_keeps.2.1 74 = .ok (.iadd, 1) := by decide +kernel
theorem d_M_keeps_75 : decode m_M_keeps.2.1 75 = .ok (.aload_n 0, 1) := by decide +kernel
theorem d_M_keeps_76 : decode m_M_keeps.2.1 76 = .ok (.getfield 26, 3) := by decide +kernel
theorem d_M_keeps_79 : decode m_M_keeps.2.1 79 = .ok (.iload_n 1, 1) := by decide +kernel
theorem d_M_keeps_80 : decode m_M_keeps.2.1 80 = .ok (.iaload, 1) := by decide +kernel
theorem d_M_keeps_81 : decode m_M_keeps.2.1 81 = .ok (.iastore, 1) := by decide +kernel
theorem d_M_keeps_82 : decode m_M_keeps.2.1 82 = .ok (.iinc 1 1, 3) := by decide +kernel
theorem d_M_keeps_85 : decode m_M_keeps.2.1 85 = .ok (.goto (-31), 3) := by decide +kernel
theorem d_M_keeps_88 : decode m_M_keeps.2.1 88 = .ok (.aload_n 0, 1) := by decide +kernel
theorem d_M_keeps_89 : decode m_M_keeps.2.1 89 = .ok (.dup, 1) := by decide +kernel
theorem d_M_keeps_90 : decode m_M_keeps.2.1 90 = .ok (.getfield 171, 3) := by decide +kernel
theorem d_M_keeps_93 : decode m_M_keeps.2.1 93 = .ok (.iconst 1, 1) := by decide +kernel
theorem d_M_keeps_94 : decode m_M_keeps.2.1 94 = .ok (.iadd, 1) := by decide +kernel
theorem d_M_keeps_95 : decode m_M_keeps.2.1 95 = .ok (.putfield 171, 3) := by decide +kernel
theorem d_M_keeps_98 : decode m_M_keeps.2.1 98 = .ok (.return_, 1) := by decide +kernel
theorem b_M_keeps_0 {E : EV} {d : Nat} {Q : Option AV → St → Prop} {σ : St} (hF : Fix σ) (h : (rI (σ.1 42 8)) ∧ ((¬ (σ.1 42 8) = 12 → WP E m_M_keeps d 52 [(0, aP 42)] [] σ Q) ∧ ((σ.1 42 8) = 12 → WP E m_M_keeps d 13 [(0, aP 42), (1, aI 683)] [] σ Q))) : WP E m_M_keeps d 0 [(0, aP 42)] [] σ Q := by
  refine s_aload_n 0 d_M_keeps_0 rfl rfl ?_
  refine s_getF (v := σ.1 42 8) d_M_keeps_1 fl_M_171 rfl (sf_42 hF) rfl ?_
  refine s_bipush d_M_keeps_4 (by decide) ?_
  obtain ⟨g1, h⟩ := h
  refine s_icmp_ne d_M_keeps_6 rfl g1 (by decide) (fun c => ?_) (fun c => ?_)
  · have h := h.1 c
    exact h
  · have h := h.2 c
    refine s_sipush d_M_keeps_9 (by decide) ?_
    refine s_istore_n d_M_keeps_12 rfl (by decide) rfl ?_
    refine wp_drop [1, 0] rfl ?_
    exact h
theorem e_M_keeps {E : EV} {d : Nat} {Q : Option AV → St → Prop} {σ : St} (hF : Fix σ) (h : (rI (σ.1 42 8)) ∧ ((¬ (σ.1 42 8) = 12 → WP E m_M_keeps d 52 [(0, aP 42)] [] σ Q) ∧ ((σ.1 42 8) = 12 → WP E m_M_keeps d 13 [(0, aP 42), (1, aI 683)] [] σ Q))) : WM E m_M_keeps d [aP 42] σ Q := s_meth (by decide) (Nat.le_of_ble_eq_true rfl) rfl (b_M_keeps_0 hF h)
theorem b_M_keeps_13 {E : EV} {d : Nat} {Q : Option AV → St → Prop} {σ : St} (x1 : Int) (hF : Fix σ) (h : (rI x1) ∧ ((8196 ≤ x1 → WP E m_M_keeps d 52 [(0, aP 42)] [] (wr σ 42 8 ((σ.1 42 8) - 1)) Q) ∧ (¬ 8196 ≤ x1 → (0 ≤ x1 ∧ x1 < 8196) ∧ (0 ≤ (x1 - 683) ∧ (x1 - 683) < 8196) ∧ WP E m_M_keeps d 13 [(0, aP 42), (1, aI (x1 + 1))] [] (wr σ 49 (x1 - 683) (σ.1 49 x1)) Q))) : WP E m_M_keeps d 13 [(0, aP 42), (1, aI x1)] [] σ Q := by
  refine s_iload_n 1 d_M_keeps_13 rfl rfl ?_
  refine s_sipush d_M_keeps_14 (by decide) ?_
  obtain ⟨g1, h⟩ := h
  refine s_icmp_ge d_M_keeps_17 rfl g1 (by decide) (fun c => ?_) (fun c => ?_)
  · have h := h.1 c
    refine s_aload_n 0 d_M_keeps_42 rfl rfl ?_
    refine s_dup d_M_keeps_43 (Nat.ne_of_beq_eq_false rfl) ?_
    refine s_getF (v := σ.1 42 8) d_M_keeps_44 fl_M_171 rfl (sf_42 hF) rfl ?_
    refine s_iconst d_M_keeps_47 ?_
    refine s_isub d_M_keeps_48 ?_
    refine s_putf 8 rfl d_M_keeps_49 fl_M_171 (fun C T h => by cases h; exact Or.inl rfl) rfl (Or.inl rfl) (fun h => nomatch h) (sf_42 hF) ?_
    refine wp_drop [0] rfl ?_
    exact h
  · have h := h.2 c
    refine s_aload_n 0 d_M_keeps_20 rfl rfl ?_
    refine s_getF (v := 49) d_M_keeps_21 fl_M_32 rfl (sf_42 hF) (ff_34 hF) ?_
    refine s_iload_n 1 d_M_keeps_24 rfl rfl ?_
    refine s_sipush d_M_keeps_25 (by decide) ?_
    refine s_isub d_M_keeps_28 ?_
    refine s_aload_n 0 d_M_keeps_29 rfl rfl ?_
    refine s_getF (v := 49) d_M_keeps_30 fl_M_32 rfl (sf_42 hF) (ff_34 hF) ?_
    refine s_iload_n 1 d_M_keeps_33 rfl rfl ?_
    obtain ⟨g2, h⟩ := h
    refine s_ialoadv (v := σ.1 49 x1) d_M_keeps_34 ⟨_, sf_49 hF, g2.1, g2.2, by have := g2.2; omega⟩ rfl ?_
    obtain ⟨g3, h⟩ := h
    refine s_iastore d_M_keeps_35 ⟨_, sf_49 hF, g3.1, g3.2, by have := g3.2; omega⟩ ?_
    refine s_iinc 1 d_M_keeps_36 rfl (by decide) rfl ?_
    refine s_goto d_M_keeps_39 rfl ?_
    refine wp_drop [1, 0] rfl ?_
    exact h
theorem b_M_keeps_52 {E : EV} {d : Nat} {Q : Option AV → St → Prop} {σ : St} (h : WP E m_M_keeps d 54 [(0, aP 42), (1, aI 0)] [] σ Q) : WP E m_M_keeps d 52 [(0, aP 42)] [] σ Q := by
  refine s_iconst d_M_keeps_52 ?_
  refine s_istore_n d_M_keeps_53 rfl (by decide) rfl ?_
  refine wp_drop [1, 0] rfl ?_
  exact h
theorem b_M_keeps_54 {E : EV} {d : Nat} {Q : Option AV → St → Prop} {σ : St} (x1 : Int) (hF : Fix σ) (h : (rI x1) ∧ ((683 ≤ x1 → Q none (wr σ 42 8 ((σ.1 42 8) + 1))) ∧ (¬ 683 ≤ x1 → (0 ≤ x1 ∧ x1 < 683) ∧ (0 ≤ ((683 * (σ.1 42 8)) + x1) ∧ ((683 * (σ.1 42 8)) + x1) < 8196) ∧ WP E m_M_keeps d 54 [(0, aP 42), (1, aI (x1 + 1))] [] (wr σ 49 ((683 * (σ.1 42 8)) + x1) (σ.1 47 x1)) Q))) : WP E m_M_keeps d 54 [(0, aP 42), (1, aI x1)] [] σ Q := by
  refine s_iload_n 1 d_M_keeps_54 rfl rfl ?_
  refine s_sipush d_M_keeps_55 (by decide) ?_
  obtain ⟨g1, h⟩ := h
  refine s_icmp_ge d_M_keeps_58 rfl g1 (by decide) (fun c => ?_) (fun c => ?_)
  · have h := h.1 c
    refine s_aload_n 0 d_M_keeps_88 rfl rfl ?_
    refine s_dup d_M_keeps_89 (Nat.ne_of_beq_eq_false rfl) ?_
    refine s_getF (v := σ.1 42 8) d_M_keeps_90 fl_M_171 rfl (sf_42 hF) rfl ?_
    refine s_iconst d_M_keeps_93 ?_
    refine s_iadd d_M_keeps_94 ?_
    refine s_putf 8 rfl d_M_keeps_95 fl_M_171 (fun C T h => by cases h; exact Or.inl rfl) rfl (Or.inl rfl) (fun h => nomatch h) (sf_42 hF) ?_
    exact s_return d_M_keeps_98 rfl h
  · have h := h.2 c
    refine s_aload_n 0 d_M_keeps_61 rfl rfl ?_
    refine s_getF (v := 49) d_M_keeps_62 fl_M_32 rfl (sf_42 hF) (ff_34 hF) ?_
    refine s_sipush d_M_keeps_65 (by decide) ?_
    refine s_aload_n 0 d_M_keeps_68 rfl rfl ?_
    refine s_getF (v := σ.1 42 8) d_M_keeps_69 fl_M_171 rfl (sf_42 hF) rfl ?_
    refine s_imul d_M_keeps_72 ?_
    refine s_iload_n 1 d_M_keeps_73 rfl rfl ?_
    refine s_iadd d_M_keeps_74 ?_
    refine s_aload_n 0 d_M_keeps_75 rfl rfl ?_
    refine s_getF (v := 47) d_M_keeps_76 fl_M_26 rfl (sf_42 hF) (ff_32 hF) ?_
    refine s_iload_n 1 d_M_keeps_79 rfl rfl ?_
    obtain ⟨g2, h⟩ := h
    refine s_ialoadv (v := σ.1 47 x1) d_M_keeps_80 ⟨_, sf_47 hF, g2.1, g2.2, by have := g2.2; omega⟩ rfl ?_
    obtain ⟨g3, h⟩ := h
    refine s_iastore d_M_keeps_81 ⟨_, sf_49 hF, g3.1, g3.2, by have := g3.2; omega⟩ ?_
    refine s_iinc 1 d_M_keeps_82 rfl (by decide) rfl ?_
    refine s_goto d_M_keeps_85 rfl ?_
    refine wp_drop [1, 0] rfl ?_
    exact h
theorem d_M_turn_0 : decode m_M_turn.2.1 0 = .ok (.aload_n 0, 1) := by decide +kernel
theorem d_M_turn_1 : decode m_M_turn.2.1 1 = .ok (.iload_n 1, 1) := by decide +kernel
theorem d_M_turn_2 : decode m_M_turn.2.1 2 = .ok (.iload_n 2, 1) := by decide +kernel
theorem d_M_turn_3 : decode m_M_turn.2.1 3 = .ok (.invokevirtual 206, 3) := by decide +kernel
theorem d_M_turn_6 : decode m_M_turn.2.1 6 = .ok (.ifCond .ne 5, 3) := by decide +kernel
theorem d_M_turn_9 : decode m_M_turn.2.1 9 = .ok (.iconst 0, 1) := by decide +kernel
theorem d_M_turn_10 : decode m_M_turn.2.1 10 = .ok (.ireturn, 1) := by decide +kernel
theorem d_M_turn_11 : decode m_M_turn.2.1 11 = .ok (.aload_n 0, 1) := by decide +kernel
theorem d_M_turn_12 : decode m_M_turn.2.1 12 = .ok (.iload_n 1, 1) := by decide +kernel
theorem d_M_turn_13 : decode m_M_turn.2.1 13 = .ok (.iload_n 2, 1) := by decide +kernel
theorem d_M_turn_14 : decode m_M_turn.2.1 14 = .ok (.invokevirtual 210, 3) := by decide +kernel
theorem d_M_turn_17 : decode m_M_turn.2.1 17 = .ok (.aload_n 0, 1) := by decide +kernel
theorem d_M_turn_18 : decode m_M_turn.2.1 18 = .ok (.getfield 35, 3) := by decide +kernel
theorem d_M_turn_21 : decode m_M_turn.2.1 21 = .ok (.iconst 0, 1) := by decide +kernel
theorem d_M_turn_22 : decode m_M_turn.2.1 22 = .ok (.iaload, 1) := by decide +kernel
theorem d_M_turn_23 : decode m_M_turn.2.1 23 = .ok (.invokestatic 199, 3) := by decide +kernel
theorem d_M_turn_26 : decode m_M_turn.2.1 26 = .ok (.ifCond .eq 5, 3) := by decide +kernel
theorem d_M_turn_29 : decode m_M_turn.2.1 29 = .ok (.iconst 0, 1) := by decide +kernel
theorem d_M_turn_30 : decode m_M_turn.2.1 30 = .ok (.ireturn, 1) := by decide +kernel
theorem d_M_turn_31 : decode m_M_turn.2.1 31 = .ok (.aload_n 0, 1) := by decide +kernel
theorem d_M_turn_32 : decode m_M_turn.2.1 32 = .ok (.invokevirtual 290, 3) := by decide +kernel
theorem d_M_turn_35 : decode m_M_turn.2.1 35 = .ok (.aload_n 0, 1) := by decide +kernel
theorem d_M_turn_36 : decode m_M_turn.2.1 36 = .ok (.invokevirtual 293, 3) := by decide +kernel
theorem d_M_turn_39 : decode m_M_turn.2.1 39 = .ok (.iconst 0, 1) := by decide +kernel
theorem d_M_turn_40 : decode m_M_turn.2.1 40 = .ok (.istore_n 3, 1) := by decide +kernel
theorem d_M_turn_41 : decode m_M_turn.2.1 41 = .ok (.iload_n 3, 1) := by decide +kernel
theorem d_M_turn_42 : decode m_M_turn.2.1 42 = .ok (.aload_n 0, 1) := by decide +kernel
theorem d_M_turn_43 : decode m_M_turn.2.1 43 = .ok (.getfield 189, 3) := by decide +kernel
theorem d_M_turn_46 : decode m_M_turn.2.1 46 = .ok (.if_icmp .ge 85, 3) := by decide +kernel
theorem d_M_turn_49 : decode m_M_turn.2.1 49 = .ok (.aload_n 0, 1) := by decide +kernel
theorem d_M_turn_50 : decode m_M_turn.2.1 50 = .ok (.getfield 35, 3) := by decide +kernel
theorem d_M_turn_53 : decode m_M_turn.2.1 53 = .ok (.iload_n 3, 1) := by decide +kernel
theorem d_M_turn_54 : decode m_M_turn.2.1 54 = .ok (.iaload, 1) := by decide +kernel
theorem d_M_turn_55 : decode m_M_turn.2.1 55 = .ok (.invokestatic 199, 3) := by decide +kernel
theorem d_M_turn_58 : decode m_M_turn.2.1 58 = .ok (.ifCond .eq 30, 3) := by decide +kernel
theorem d_M_turn_61 : decode m_M_turn.2.1 61 = .ok (.aload_n 0, 1) := by decide +kernel
theorem d_M_turn_62 : decode m_M_turn.2.1 62 = .ok (.getfield 35, 3) := by decide +kernel
theorem d_M_turn_65 : decode m_M_turn.2.1 65 = .ok (.iload_n 3, 1) := by decide +kernel
theorem d_M_turn_66 : decode m_M_turn.2.1 66 = .ok (.invokestatic 296, 3) := by decide +kernel
theorem d_M_turn_69 : decode m_M_turn.2.1 69 = .ok (.istore 4, 2) := by decide +kernel
theorem d_M_turn_71 : decode m_M_turn.2.1 71 = .ok (.aload_n 0, 1) := by decide +kernel
theorem d_M_turn_72 : decode m_M_turn.2.1 72 = .ok (.aload_n 0, 1) := by decide +kernel
theorem d_M_turn_73 : decode m_M_turn.2.1 73 = .ok (.getfield 35, 3) := by decide +kernel
theorem d_M_turn_76 : decode m_M_turn.2.1 76 = .ok (.iload_n 3, 1) := by decide +kernel
theorem d_M_turn_77 : decode m_M_turn.2.1 77 = .ok (.iload 4, 2) := by decide +kernel
theorem d_M_turn_79 : decode m_M_turn.2.1 79 = .ok (.invokevirtual 300, 3) := by decide +kernel
theorem d_M_turn_82 : decode m_M_turn.2.1 82 = .ok (.iload 4, 2) := by decide +kernel
theorem d_M_turn_84 : decode m_M_turn.2.1 84 = .ok (.istore_n 3, 1) := by decide +kernel
theorem d_M_turn_85 : decode m_M_turn.2.1 85 = .ok (.goto (-44), 3) := by decide +kernel
theorem d_M_turn_88 : decode m_M_turn.2.1 88 = .ok (.aload_n 0, 1) := by decide +kernel
theorem d_M_turn_89 : decode m_M_turn.2.1 89 = .ok (.aload_n 0, 1) := by decide +kernel
theorem d_M_turn_90 : decode m_M_turn.2.1 90 = .ok (.getfield 35, 3) := by decide +kernel
theorem d_M_turn_93 : decode m_M_turn.2.1 93 = .ok (.iload_n 3, 1) := by decide +kernel
theorem d_M_turn_94 : decode m_M_turn.2.1 94 = .ok (.iaload, 1) := by decide +kernel
theorem d_M_turn_95 : decode m_M_turn.2.1 95 = .ok (.sipush 300, 3) := by decide +kernel
theorem d_M_turn_98 : decode m_M_turn.2.1 98 = .ok (.if_icmp .ge 15, 3) := by decide +kernel
theorem d_M_turn_101 : decode m_M_turn.2.1 101 = .ok (.aload_n 0, 1) := by decide +kernel
theorem d_M_turn_102 : decode m_M_turn.2.1 102 = .ok (.getfield 35, 3) := by decide +kernel
theorem d_M_turn_105 : decode m_M_turn.2.1 105 = .ok (.iload_n 3, 1) := by decide +kernel
theorem d_M_turn_106 : decode m_M_turn.2.1 106 = .ok (.iaload, 1) := by decide +kernel
theorem d_M_turn_107 : decode m_M_turn.2.1 107 = .ok (.bipush 100, 2) := by decide +kernel
theorem d_M_turn_109 : decode m_M_turn.2.1 109 = .ok (.iadd, 1) := by decide +kernel
theorem d_M_turn_110 : decode m_M_turn.2.1 110 = .ok (.goto 12, 3) := by decide +kernel
theorem d_M_turn_113 : decode m_M_turn.2.1 113 = .ok (.aload_n 0, 1) := by decide +kernel
theorem d_M_turn_114 : decode m_M_turn.2.1 114 = .ok (.getfield 35, 3) := by decide +kernel
theorem d_M_turn_117 : decode m_M_turn.2.1 117 = .ok (.iload_n 3, 1) := by decide +kernel
theorem d_M_turn_118 : decode m_M_turn.2.1 118 = .ok (.iaload, 1) := by decide +kernel
theorem d_M_turn_119 : decode m_M_turn.2.1 119 = .ok (.bipush 100, 2) := by decide +kernel
theorem d_M_turn_121 : decode m_M_turn.2.1 121 = .ok (.isub, 1) := by decide +kernel
theorem d_M_turn_122 : decode m_M_turn.2.1 122 = .ok (.invokevirtual 195, 3) := by decide +kernel
theorem d_M_turn_125 : decode m_M_turn.2.1 125 = .ok (.iinc 3 1, 3) := by decide +kernel
theorem d_M_turn_128 : decode m_M_turn.2.1 128 = .ok (.goto (-87), 3) := by decide +kernel
theorem d_M_turn_131 : decode m_M_turn.2.1 131 = .ok (.aload_n 0, 1) := by decide +kernel
theorem d_M_turn_132 : decode m_M_turn.2.1 132 = .ok (.iload_n 1, 1) := by decide +kernel
theorem d_M_turn_133 : decode m_M_turn.2.1 133 = .ok (.iload_n 2, 1) := by decide +kernel
theorem d_M_turn_134 : decode m_M_turn.2.1 134 = .ok (.invokevirtual 304, 3) := by decide +kernel
theorem d_M_turn_137 : decode m_M_turn.2.1 137 = .ok (.iconst 1, 1) := by decide +kernel
theorem d_M_turn_138 : decode m_M_turn.2.1 138 = .ok (.ireturn, 1) := by decide +kernel
theorem b_M_turn_0 {E : EV} {d : Nat} {Q : Option AV → St → Prop} {σ : St} (x1 x2 : Int) (hF : Fix σ) (h : (WMi E m_M_isSquare d [aP 42, aI x1, aI x2] σ (fun v1 σ1 => Fix σ1 ∧ (rI v1) ∧ ((¬ v1 = 0 → (WMv E m_M_takes d [aP 42, aI x1, aI x2] σ1 (fun σ3 => Fix σ3 ∧ (WMi E m_M_isSign d [aI (σ3.1 50 0)] σ3 (fun v4 σ4 => Fix σ4 ∧ (rI v4) ∧ ((v4 = 0 → (WMv E m_M_keeps d [aP 42] σ4 (fun σ6 => Fix σ6 ∧ (WMv E m_M_opens d [aP 42] σ6 (fun σ7 => WP E m_M_turn (d + 1) 41 [(0, aP 42), (1, aI x1), (2, aI x2), (3, aI 0)] [] σ7 Q))))) ∧ (¬ v4 = 0 → Q (some (aI 0)) σ4))))))) ∧ (v1 = 0 → Q (some (aI 0)) σ1))))) : WP E m_M_turn (d + 1) 0 [(0, aP 42), (1, aI x1), (2, aI x2)] [] σ Q := by
  refine s_aload_n 0 d_M_turn_0 rfl rfl ?_
  refine s_iload_n 1 d_M_turn_1 rfl rfl ?_
  refine s_iload_n 2 d_M_turn_2 rfl rfl ?_
  refine s_callV (as := [aI x1, aI x2]) (ci := 10) d_M_turn_3 ok_M_isSquare lk_M_206 io_M_isSquare so_M_isSquare (by decide) rfl rfl rfl (Nat.le_of_ble_eq_true rfl) rfl (sf_42 hF) (WM.mono h ?_)
  rintro _ σ1 ⟨v1, rfl, hp, h⟩
  obtain ⟨hF1, h⟩ := h
  show WP E m_M_turn (d + 1) 6 [(0, aP 42), (1, aI x1), (2, aI x2)] [aI v1] σ1 Q
  obtain ⟨g2, h⟩ := h
  refine s_if_ne d_M_turn_6 rfl g2 (fun c => ?_) (fun c => ?_)
  · have h := h.1 c
    refine s_aload_n 0 d_M_turn_11 rfl rfl ?_
    refine s_iload_n 1 d_M_turn_12 rfl rfl ?_
    refine s_iload_n 2 d_M_turn_13 rfl rfl ?_
    refine s_callV (as := [aI x1, aI x2]) (ci := 10) d_M_turn_14 ok_M_takes lk_M_210 io_M_takes so_M_takes (by decide) rfl rfl rfl (Nat.le_of_ble_eq_true rfl) rfl (sf_42 hF1) (WM.mono h ?_)
    rintro _ σ3 ⟨rfl, hp, h⟩
    obtain ⟨hF3, h⟩ := h
    show WP E m_M_turn (d + 1) 17 [(0, aP 42), (1, aI x1), (2, aI x2)] [] σ3 Q
    refine s_aload_n 0 d_M_turn_17 rfl rfl ?_
    refine s_getF (v := 50) d_M_turn_18 fl_M_35 rfl (sf_42 hF3) (ff_35 hF3) ?_
    refine s_iconst d_M_turn_21 ?_
    refine s_ialoadv (v := σ3.1 50 0) d_M_turn_22 ⟨_, sf_50 hF3, by decide, by decide, by decide⟩ rfl ?_
    refine s_callS (as := [aI (σ3.1 50 0)]) d_M_turn_23 ok_M_isSign lk_M_199 to_M_isSign rfl (Nat.le_of_ble_eq_true rfl) rfl (WM.mono h ?_)
    rintro _ σ4 ⟨v4, rfl, hp, h⟩
    obtain ⟨hF4, h⟩ := h
    show WP E m_M_turn (d + 1) 26 [(0, aP 42), (1, aI x1), (2, aI x2)] [aI v4] σ4 Q
    obtain ⟨g5, h⟩ := h
    refine s_if_eq d_M_turn_26 rfl g5 (fun c => ?_) (fun c => ?_)
    · have h := h.1 c
      refine s_aload_n 0 d_M_turn_31 rfl rfl ?_
      refine s_callV (as := []) (ci := 10) d_M_turn_32 ok_M_keeps lk_M_290 io_M_keeps so_M_keeps (by decide) rfl rfl rfl (Nat.le_of_ble_eq_true rfl) rfl (sf_42 hF4) (WM.mono h ?_)
      rintro _ σ6 ⟨rfl, hp, h⟩
      obtain ⟨hF6, h⟩ := h
      show WP E m_M_turn (d + 1) 35 [(0, aP 42), (1, aI x1), (2, aI x2)] [] σ6 Q
      refine s_aload_n 0 d_M_turn_35 rfl rfl ?_
      refine s_callV (as := []) (ci := 10) d_M_turn_36 ok_M_opens lk_M_293 io_M_opens so_M_opens (by decide) rfl rfl rfl (Nat.le_of_ble_eq_true rfl) rfl (sf_42 hF6) (WM.mono h ?_)
      rintro _ σ7 ⟨rfl, hp, h⟩
      show WP E m_M_turn (d + 1) 39 [(0, aP 42), (1, aI x1), (2, aI x2)] [] σ7 Q
      refine s_iconst d_M_turn_39 ?_
      refine s_istore_n d_M_turn_40 rfl (by decide) rfl ?_
      refine wp_drop [1, 2, 3, 0] rfl ?_
      exact h
    · have h := h.2 c
      refine s_iconst d_M_turn_29 ?_
      exact s_zreturn d_M_turn_30 rfl (by decide) h
  · have h := h.2 c
    refine s_iconst d_M_turn_9 ?_
    exact s_zreturn d_M_turn_10 rfl (by decide) h
theorem e_M_turn {E : EV} {d : Nat} {Q : Option AV → St → Prop} {σ : St} (x1 x2 : Int) (hF : Fix σ) (h : (WMi E m_M_isSquare d [aP 42, aI x1, aI x2] σ (fun v1 σ1 => Fix σ1 ∧ (rI v1) ∧ ((¬ v1 = 0 → (WMv E m_M_takes d [aP 42, aI x1, aI x2] σ1 (fun σ3 => Fix σ3 ∧ (WMi E m_M_isSign d [aI (σ3.1 50 0)] σ3 (fun v4 σ4 => Fix σ4 ∧ (rI v4) ∧ ((v4 = 0 → (WMv E m_M_keeps d [aP 42] σ4 (fun σ6 => Fix σ6 ∧ (WMv E m_M_opens d [aP 42] σ6 (fun σ7 => WP E m_M_turn (d + 1) 41 [(0, aP 42), (1, aI x1), (2, aI x2), (3, aI 0)] [] σ7 Q))))) ∧ (¬ v4 = 0 → Q (some (aI 0)) σ4))))))) ∧ (v1 = 0 → Q (some (aI 0)) σ1))))) : WM E m_M_turn (d + 1) [aP 42, aI x1, aI x2] σ Q := s_meth (by decide) (Nat.le_of_ble_eq_true rfl) rfl (b_M_turn_0 x1 x2 hF h)
theorem b_M_turn_41 {E : EV} {d : Nat} {Q : Option AV → St → Prop} {σ : St} (x1 x2 x3 : Int) (hF : Fix σ) (h : (rI x3) ∧ (rI (σ.1 42 10)) ∧ (((σ.1 42 10) ≤ x3 → (WMv E m_M_lays d [aP 42, aI x1, aI x2] σ (fun σ3 => Q (some (aI 1)) σ3))) ∧ (¬ (σ.1 42 10) ≤ x3 → (0 ≤ x3 ∧ x3 < 24) ∧ (WMi E m_M_isSign d [aI (σ.1 50 x3)] σ (fun v5 σ5 => Fix σ5 ∧ (rI v5) ∧ ((v5 = 0 → (0 ≤ x3 ∧ x3 < 24) ∧ (rI (σ5.1 50 x3)) ∧ ((300 ≤ (σ5.1 50 x3) → (0 ≤ x3 ∧ x3 < 24) ∧ WP E m_M_turn (d + 1) 122 [(0, aP 42), (1, aI x1), (2, aI x2), (3, aI x3)] [aI ((σ5.1 50 x3) - 100), aP 42] σ5 Q) ∧ (¬ 300 ≤ (σ5.1 50 x3) → (0 ≤ x3 ∧ x3 < 24) ∧ WP E m_M_turn (d + 1) 122 [(0, aP 42), (1, aI x1), (2, aI x2), (3, aI x3)] [aI ((σ5.1 50 x3) + 100), aP 42] σ5 Q))) ∧ (¬ v5 = 0 → (WMi E m_M_endOf d [aP 50, aI x3] σ5 (fun v11 σ11 => Fix σ11 ∧ (WMv E m_M_addsAll d [aP 42, aP 50, aI x3, aI v11] σ11 (fun σ12 => WP E m_M_turn (d + 1) 41 [(0, aP 42), (1, aI x1), (2, aI x2), (3, aI v11)] [] σ12 Q))))))))))) : WP E m_M_turn (d + 1) 41 [(0, aP 42), (1, aI x1), (2, aI x2), (3, aI x3)] [] σ Q := by
  refine s_iload_n 3 d_M_turn_41 rfl rfl ?_
  refine s_aload_n 0 d_M_turn_42 rfl rfl ?_
  refine s_getF (v := σ.1 42 10) d_M_turn_43 fl_M_189 rfl (sf_42 hF) rfl ?_
  obtain ⟨g1, h⟩ := h
  obtain ⟨g2, h⟩ := h
  refine s_icmp_ge d_M_turn_46 rfl g1 g2 (fun c => ?_) (fun c => ?_)
  · have h := h.1 c
    refine s_aload_n 0 d_M_turn_131 rfl rfl ?_
    refine s_iload_n 1 d_M_turn_132 rfl rfl ?_
    refine s_iload_n 2 d_M_turn_133 rfl rfl ?_
    refine s_callV (as := [aI x1, aI x2]) (ci := 10) d_M_turn_134 ok_M_lays lk_M_304 io_M_lays so_M_lays (by decide) rfl rfl rfl (Nat.le_of_ble_eq_true rfl) rfl (sf_42 hF) (WM.mono h ?_)
    rintro _ σ3 ⟨rfl, hp, h⟩
    show WP E m_M_turn (d + 1) 137 [(0, aP 42), (1, aI x1), (2, aI x2), (3, aI x3)] [] σ3 Q
    refine s_iconst d_M_turn_137 ?_
    exact s_zreturn d_M_turn_138 rfl (by decide) h
  · have h := h.2 c
    refine s_aload_n 0 d_M_turn_49 rfl rfl ?_
    refine s_getF (v := 50) d_M_turn_50 fl_M_35 rfl (sf_42 hF) (ff_35 hF) ?_
    refine s_iload_n 3 d_M_turn_53 rfl rfl ?_
    obtain ⟨g4, h⟩ := h
    refine s_ialoadv (v := σ.1 50 x3) d_M_turn_54 ⟨_, sf_50 hF, g4.1, g4.2, by have := g4.2; omega⟩ rfl ?_
    refine s_callS (as := [aI (σ.1 50 x3)]) d_M_turn_55 ok_M_isSign lk_M_199 to_M_isSign rfl (Nat.le_of_ble_eq_true rfl) rfl (WM.mono h ?_)
    rintro _ σ5 ⟨v5, rfl, hp, h⟩
    obtain ⟨hF5, h⟩ := h
    show WP E m_M_turn (d + 1) 58 [(0, aP 42), (1, aI x1), (2, aI x2), (3, aI x3)] [aI v5] σ5 Q
    obtain ⟨g6, h⟩ := h
    refine s_if_eq d_M_turn_58 rfl g6 (fun c => ?_) (fun c => ?_)
    · have h := h.1 c
      refine s_aload_n 0 d_M_turn_88 rfl rfl ?_
      refine s_aload_n 0 d_M_turn_89 rfl rfl ?_
      refine s_getF (v := 50) d_M_turn_90 fl_M_35 rfl (sf_42 hF5) (ff_35 hF5) ?_
      refine s_iload_n 3 d_M_turn_93 rfl rfl ?_
      obtain ⟨g7, h⟩ := h
      refine s_ialoadv (v := σ5.1 50 x3) d_M_turn_94 ⟨_, sf_50 hF5, g7.1, g7.2, by have := g7.2; omega⟩ rfl ?_
      refine s_sipush d_M_turn_95 (by decide) ?_
      obtain ⟨g8, h⟩ := h
      refine s_icmp_ge d_M_turn_98 rfl g8 (by decide) (fun c => ?_) (fun c => ?_)
      · have h := h.1 c
        refine s_aload_n 0 d_M_turn_113 rfl rfl ?_
        refine s_getF (v := 50) d_M_turn_114 fl_M_35 rfl (sf_42 hF5) (ff_35 hF5) ?_
        refine s_iload_n 3 d_M_turn_117 rfl rfl ?_
        obtain ⟨g9, h⟩ := h
        refine s_ialoadv (v := σ5.1 50 x3) d_M_turn_118 ⟨_, sf_50 hF5, g9.1, g9.2, by have := g9.2; omega⟩ rfl ?_
        refine s_bipush d_M_turn_119 (by decide) ?_
        refine s_isub d_M_turn_121 ?_
        exact h
      · have h := h.2 c
        refine s_aload_n 0 d_M_turn_101 rfl rfl ?_
        refine s_getF (v := 50) d_M_turn_102 fl_M_35 rfl (sf_42 hF5) (ff_35 hF5) ?_
        refine s_iload_n 3 d_M_turn_105 rfl rfl ?_
        obtain ⟨g10, h⟩ := h
        refine s_ialoadv (v := σ5.1 50 x3) d_M_turn_106 ⟨_, sf_50 hF5, g10.1, g10.2, by have := g10.2; omega⟩ rfl ?_
        refine s_bipush d_M_turn_107 (by decide) ?_
        refine s_iadd d_M_turn_109 ?_
        refine s_goto d_M_turn_110 rfl ?_
        exact h
    · have h := h.2 c
      refine s_aload_n 0 d_M_turn_61 rfl rfl ?_
      refine s_getF (v := 50) d_M_turn_62 fl_M_35 rfl (sf_42 hF5) (ff_35 hF5) ?_
      refine s_iload_n 3 d_M_turn_65 rfl rfl ?_
      refine s_callS (as := [aP 50, aI x3]) d_M_turn_66 ok_M_endOf lk_M_296 to_M_endOf rfl (Nat.le_of_ble_eq_true rfl) rfl (WM.mono h ?_)
      rintro _ σ11 ⟨v11, rfl, hp, h⟩
      obtain ⟨hF11, h⟩ := h
      show WP E m_M_turn (d + 1) 69 [(0, aP 42), (1, aI x1), (2, aI x2), (3, aI x3)] [aI v11] σ11 Q
      refine s_istore d_M_turn_69 (by decide) rfl ?_
      refine s_aload_n 1 d_M_turn_71 rfl rfl ?_
      refine s_aload_n 1 d_M_turn_72 rfl rfl ?_
      refine s_getF (v := 50) d_M_turn_73 fl_M_35 rfl (sf_42 hF11) (ff_35 hF11) ?_
      refine s_iload_n 4 d_M_turn_76 rfl rfl ?_
      refine s_iload 0 d_M_turn_77 rfl ?_
      refine s_callV (as := [aP 50, aI x3, aI v11]) (ci := 10) d_M_turn_79 ok_M_addsAll lk_M_300 io_M_addsAll so_M_addsAll (by decide) rfl rfl rfl (Nat.le_of_ble_eq_true rfl) rfl (sf_42 hF11) (WM.mono h ?_)
      rintro _ σ12 ⟨rfl, hp, h⟩
      show WP E m_M_turn (d + 1) 82 [(4, aI v11), (0, aP 42), (1, aI x1), (2, aI x2), (3, aI x3)] [] σ12 Q
      refine s_iload 0 d_M_turn_82 rfl ?_
      refine s_istore_n d_M_turn_84 rfl (by decide) rfl ?_
      refine s_goto d_M_turn_85 rfl ?_
      refine wp_drop [2, 3, 4, 0] rfl ?_
      exact h
theorem b_M_turn_122 {E : EV} {d : Nat} {Q : Option AV → St → Prop} {σ : St} (x1 x2 x3 s0 s1 : Int) (h : (sh σ s0 = some (10, 74)) ∧ (WMv E m_M_adds d [aP s0, aI s1] σ (fun σ1 => WP E m_M_turn (d + 1) 41 [(0, aP 42), (1, aI x1), (2, aI x2), (3, aI (x3 + 1))] [] σ1 Q))) : WP E m_M_turn (d + 1) 122 [(0, aP 42), (1, aI x1), (2, aI x2), (3, aI x3)] [aI s1, aP s0] σ Q := by
  obtain ⟨g2, h⟩ := h
  refine s_callV (as := [aI s1]) (ci := 10) d_M_turn_122 ok_M_adds lk_M_195 io_M_adds so_M_adds (by decide) rfl rfl rfl (Nat.le_of_ble_eq_true rfl) rfl g2 (WM.mono h ?_)
  rintro _ σ1 ⟨rfl, hp, h⟩
  show WP E m_M_turn (d + 1) 125 [(0, aP 42), (1, aI x1), (2, aI x2), (3, aI x3)] [] σ1 Q
  refine s_iinc 3 d_M_turn_125 rfl (by decide) rfl ?_
  refine s_goto d_M_turn_128 rfl ?_
  refine wp_drop [1, 2, 3, 0] rfl ?_
  exact h
theorem d_M_opens_0 : decode m_M_opens.2.1 0 = .ok (.aload_n 0, 1) := by decide +kernel
theorem d_M_opens_1 : decode m_M_opens.2.1 1 = .ok (.iconst 0, 1) := by decide +kernel
theorem d_M_opens_2 : decode m_M_opens.2.1 2 = .ok (.putfield 192, 3) := by decide +kernel
theorem d_M_opens_5 : decode m_M_opens.2.1 5 = .ok (.return_, 1) := by decide +kernel
theorem b_M_opens_0 {E : EV} {d : Nat} {Q : Option AV → St → Prop} {σ : St} (hF : Fix σ) (h : Q none (wr σ 42 12 0)) : WP E m_M_opens d 0 [(0, aP 42)] [] σ Q := by
  refine s_aload_n 0 d_M_opens_0 rfl rfl ?_
  refine s_iconst d_M_opens_1 ?_
  refine s_putf 12 rfl d_M_opens_2 fl_M_192 (fun C T h => by cases h; exact Or.inl rfl) rfl (Or.inl rfl) (fun h => nomatch h) (sf_42 hF) ?_
  exact s_return d_M_opens_5 rfl h
theorem e_M_opens {E : EV} {d : Nat} {Q : Option AV → St → Prop} {σ : St} (hF : Fix σ) (h : Q none (wr σ 42 12 0)) : WM E m_M_opens d [aP 42] σ Q := s_meth (by decide) (Nat.le_of_ble_eq_true rfl) rfl (b_M_opens_0 hF h)
theorem d_M_endOf_0 : decode m_M_endOf.2.1 0 = .ok (.iload_n 1, 1) := by decide +kernel
theorem d_M_endOf_1 : decode m_M_endOf.2.1 1 = .ok (.istore_n 2, 1) := by decide +kernel
theorem d_M_endOf_2 : decode m_M_endOf.2.1 2 = .ok (.iconst 1, 1) := by decide +kernel
theorem d_M_endOf_3 : decode m_M_endOf.2.1 3 = .ok (.istore_n 3, 1) := by decide +kernel
theorem d_M_endOf_4 : decode m_M_endOf.2.1 4 = .ok (.iload_n 3, 1) := by decide +kernel
theorem d_M_endOf_5 : decode m_M_endOf.2.1 5 = .ok (.ifCond .le 20, 3) := by decide +kernel
theorem d_M_endOf_8 : decode m_M_endOf.2.1 8 = .ok (.iload_n 3, 1) := by decide +kernel
theorem d_M_endOf_9 : decode m_M_endOf.2.1 9 = .ok (.aload_n 0, 1) := by decide +kernel
theorem d_M_endOf_10 : decode m_M_endOf.2.1 10 = .ok (.iload_n 2, 1) := by decide +kernel
theorem d_M_endOf_11 : decode m_M_endOf.2.1 11 = .ok (.iaload, 1) := by decide +kernel
theorem d_M_endOf_12 : decode m_M_endOf.2.1 12 = .ok (.invokestatic 182, 3) := by decide +kernel
theorem d_M_endOf_15 : decode m_M_endOf.2.1 15 = .ok (.iconst 1, 1) := by decide +kernel
theorem d_M_endOf_16 : decode m_M_endOf.2.1 16 = .ok (.isub, 1) := by decide +kernel
theorem d_M_endOf_17 : decode m_M_endOf.2.1 17 = .ok (.iadd, 1) := by decide +kernel
theorem d_M_endOf_18 : decode m_M_endOf.2.1 18 = .ok (.istore_n 3, 1) := by decide +kernel
theorem d_M_endOf_19 : decode m_M_endOf.2.1 19 = .ok (.iinc 2 1, 3) := by decide +kernel
theorem d_M_endOf_22 : decode m_M_endOf.2.1 22 = .ok (.goto (-18), 3) := by decide +kernel
theorem d_M_endOf_25 : decode m_M_endOf.2.1 25 = .ok (.iload_n 2, 1) := by decide +kernel
theorem d_M_endOf_26 : decode m_M_endOf.2.1 26 = .ok (.ireturn, 1) := by decide +kernel
theorem b_M_endOf_0 {E : EV} {d : Nat} {Q : Option AV → St → Prop} {σ : St} (x0 x1 : Int) (h : WP E m_M_endOf (d + 1) 4 [(0, aP x0), (2, aI x1), (3, aI 1)] [] σ Q) : WP E m_M_endOf (d + 1) 0 [(0, aP x0), (1, aI x1)] [] σ Q := by
  refine s_iload_n 1 d_M_endOf_0 rfl rfl ?_
  refine s_istore_n d_M_endOf_1 rfl (by decide) rfl ?_
  refine s_iconst d_M_endOf_2 ?_
  refine s_istore_n d_M_endOf_3 rfl (by decide) rfl ?_
  refine wp_drop [2, 1, 0] rfl ?_
  exact h
theorem e_M_endOf {E : EV} {d : Nat} {Q : Option AV → St → Prop} {σ : St} (x0 x1 : Int) (h : WP E m_M_endOf (d + 1) 4 [(0, aP x0), (2, aI x1), (3, aI 1)] [] σ Q) : WM E m_M_endOf (d + 1) [aP x0, aI x1] σ Q := s_meth (by decide) (Nat.le_of_ble_eq_true rfl) rfl (b_M_endOf_0 x0 x1 h)
theorem b_M_endOf_4 {E : EV} {d : Nat} {Q : Option AV → St → Prop} {σ : St} (x0 x2 x3 : Int) (h : (rI x3) ∧ ((x3 ≤ 0 → Q (some (aI x2)) σ) ∧ (¬ x3 ≤ 0 → (inb σ x0 20 x2) ∧ (WMi E m_M_partsOf d [aI (σ.1 x0 x2)] σ (fun v3 σ3 => WP E m_M_endOf (d + 1) 4 [(0, aP x0), (2, aI (x2 + 1)), (3, aI (x3 + (v3 - 1)))] [] σ3 Q))))) : WP E m_M_endOf (d + 1) 4 [(0, aP x0), (2, aI x2), (3, aI x3)] [] σ Q := by
  refine s_iload_n 2 d_M_endOf_4 rfl rfl ?_
  obtain ⟨g1, h⟩ := h
  refine s_if_le d_M_endOf_5 rfl g1 (fun c => ?_) (fun c => ?_)
  · have h := h.1 c
    refine s_iload_n 1 d_M_endOf_25 rfl rfl ?_
    exact s_ireturn d_M_endOf_26 rfl h
  · have h := h.2 c
    refine s_iload_n 2 d_M_endOf_8 rfl rfl ?_
    refine s_aload_n 0 d_M_endOf_9 rfl rfl ?_
    refine s_iload_n 1 d_M_endOf_10 rfl rfl ?_
    obtain ⟨g2, h⟩ := h
    refine s_ialoadv (v := σ.1 x0 x2) d_M_endOf_11 g2 rfl ?_
    refine s_callS (as := [aI (σ.1 x0 x2)]) d_M_endOf_12 ok_M_partsOf lk_M_182 to_M_partsOf rfl (Nat.le_of_ble_eq_true rfl) rfl (WM.mono h ?_)
    rintro _ σ3 ⟨v3, rfl, hp, h⟩
    show WP E m_M_endOf (d + 1) 15 [(0, aP x0), (2, aI x2), (3, aI x3)] [aI v3, aI x3] σ3 Q
    refine s_iconst d_M_endOf_15 ?_
    refine s_isub d_M_endOf_16 ?_
    refine s_iadd d_M_endOf_17 ?_
    refine s_istore_n d_M_endOf_18 rfl (by decide) rfl ?_
    refine s_iinc 2 d_M_endOf_19 rfl (by decide) rfl ?_
    refine s_goto d_M_endOf_22 rfl ?_
    refine wp_drop [2, 0, 1] rfl ?_
    exact h
theorem d_M_addsAll_0 : decode m_M_addsAll.2.1 0 = .ok (.iload_n 2, 1) := by decide +kernel
theorem d_M_addsAll_1 : decode m_M_addsAll.2.1 1 = .ok (.istore 4, 2) := by decide +kernel
theorem d_M_addsAll_3 : decode m_M_addsAll.2.1 3 = .ok (.iload 4, 2) := by decide +kernel
theorem d_M_addsAll_5 : decode m_M_addsAll.2.1 5 = .ok (.iload_n 3, 1) := by decide +kernel
theorem d_M_addsAll_6 : decode m_M_addsAll.2.1 6 = .ok (.if_icmp .ge 17, 3) := by decide +kernel
theorem d_M_addsAll_9 : decode m_M_addsAll.2.1 9 = .ok (.aload_n 0, 1) := by decide +kernel
theorem d_M_addsAll_10 : decode m_M_addsAll.2.1 10 = .ok (.aload_n 1, 1) := by decide +kernel
theorem d_M_addsAll_11 : decode m_M_addsAll.2.1 11 = .ok (.iload 4, 2) := by decide +kernel
theorem d_M_addsAll_13 : decode m_M_addsAll.2.1 13 = .ok (.iaload, 1) := by decide +kernel
theorem d_M_addsAll_14 : decode m_M_addsAll.2.1 14 = .ok (.invokevirtual 195, 3) := by decide +kernel
theorem d_M_addsAll_17 : decode m_M_addsAll.2.1 17 = .ok (.iinc 4 1, 3) := by decide +kernel
theorem d_M_addsAll_20 : decode m_M_addsAll.2.1 20 = .ok (.goto (-17), 3) := by decide +kernel
theorem d_M_addsAll_23 : decode m_M_addsAll.2.1 23 = .ok (.return_, 1) := by decide +kernel
theorem b_M_addsAll_0 {E : EV} {d : Nat} {Q : Option AV → St → Prop} {σ : St} (x1 x2 x3 : Int) (h : WP E m_M_addsAll (d + 1) 3 [(0, aP 42), (1, aP x1), (3, aI x3), (4, aI x2)] [] σ Q) : WP E m_M_addsAll (d + 1) 0 [(0, aP 42), (1, aP x1), (2, aI x2), (3, aI x3)] [] σ Q := by
  refine s_iload_n 2 d_M_addsAll_0 rfl rfl ?_
  refine s_istore d_M_addsAll_1 (by decide) rfl ?_
  refine wp_drop [1, 2, 4, 0] rfl ?_
  exact h
theorem e_M_addsAll {E : EV} {d : Nat} {Q : Option AV → St → Prop} {σ : St} (x1 x2 x3 : Int) (h : WP E m_M_addsAll (d + 1) 3 [(0, aP 42), (1, aP x1), (3, aI x3), (4, aI x2)] [] σ Q) : WM E m_M_addsAll (d + 1) [aP 42, aP x1, aI x2, aI x3] σ Q := s_meth (by decide) (Nat.le_of_ble_eq_true rfl) rfl (b_M_addsAll_0 x1 x2 x3 h)
theorem b_M_addsAll_3 {E : EV} {d : Nat} {Q : Option AV → St → Prop} {σ : St} (x1 x3 x4 : Int) (hF : Fix σ) (h : (rI x4) ∧ (rI x3) ∧ ((x3 ≤ x4 → Q none σ) ∧ (¬ x3 ≤ x4 → (inb σ x1 20 x4) ∧ (WMv E m_M_adds d [aP 42, aI (σ.1 x1 x4)] σ (fun σ4 => WP E m_M_addsAll (d + 1) 3 [(0, aP 42), (1, aP x1), (3, aI x3), (4, aI (x4 + 1))] [] σ4 Q))))) : WP E m_M_addsAll (d + 1) 3 [(0, aP 42), (1, aP x1), (3, aI x3), (4, aI x4)] [] σ Q := by
  refine s_iload 3 d_M_addsAll_3 rfl ?_
  refine s_iload_n 2 d_M_addsAll_5 rfl rfl ?_
  obtain ⟨g1, h⟩ := h
  obtain ⟨g2, h⟩ := h
  refine s_icmp_ge d_M_addsAll_6 rfl g1 g2 (fun c => ?_) (fun c => ?_)
  · have h := h.1 c
    exact s_return d_M_addsAll_23 rfl h
  · have h := h.2 c
    refine s_aload_n 0 d_M_addsAll_9 rfl rfl ?_
    refine s_aload_n 1 d_M_addsAll_10 rfl rfl ?_
    refine s_iload 3 d_M_addsAll_11 rfl ?_
    obtain ⟨g3, h⟩ := h
    refine s_ialoadv (v := σ.1 x1 x4) d_M_addsAll_13 g3 rfl ?_
    refine s_callV (as := [aI (σ.1 x1 x4)]) (ci := 10) d_M_addsAll_14 ok_M_adds lk_M_195 io_M_adds so_M_adds (by decide) rfl rfl rfl (Nat.le_of_ble_eq_true rfl) rfl (sf_42 hF) (WM.mono h ?_)
    rintro _ σ4 ⟨rfl, hp, h⟩
    show WP E m_M_addsAll (d + 1) 17 [(0, aP 42), (1, aP x1), (3, aI x3), (4, aI x4)] [] σ4 Q
    refine s_iinc 3 d_M_addsAll_17 rfl (by decide) rfl ?_
    refine s_goto d_M_addsAll_20 rfl ?_
    refine wp_drop [1, 2, 3, 0] rfl ?_
    exact h
theorem d_M_adds_0 : decode m_M_adds.2.1 0 = .ok (.aload_n 0, 1) := by decide +kernel
theorem d_M_adds_1 : decode m_M_adds.2.1 1 = .ok (.getfield 38, 3) := by decide +kernel
theorem d_M_adds_4 : decode m_M_adds.2.1 4 = .ok (.aload_n 0, 1) := by decide +kernel
theorem d_M_adds_5 : decode m_M_adds.2.1 5 = .ok (.getfield 192, 3) := by decide +kernel
theorem d_M_adds_8 : decode m_M_adds.2.1 8 = .ok (.iload_n 1, 1) := by decide +kernel
theorem d_M_adds_9 : decode m_M_adds.2.1 9 = .ok (.iastore, 1) := by decide +kernel
theorem d_M_adds_10 : decode m_M_adds.2.1 10 = .ok (.aload_n 0, 1) := by decide +kernel
theorem d_M_adds_11 : decode m_M_adds.2.1 11 = .ok (.dup, 1) := by decide +kernel
theorem d_M_adds_12 : decode m_M_adds.2.1 12 = .ok (.getfield 192, 3) := by decide +kernel
theorem d_M_adds_15 : decode m_M_adds.2.1 15 = .ok (.iconst 1, 1) := by decide +kernel
theorem d_M_adds_16 : decode m_M_adds.2.1 16 = .ok (.iadd, 1) := by decide +kernel
theorem d_M_adds_17 : decode m_M_adds.2.1 17 = .ok (.putfield 192, 3) := by decide +kernel
theorem d_M_adds_20 : decode m_M_adds.2.1 20 = .ok (.return_, 1) := by decide +kernel
theorem b_M_adds_0 {E : EV} {d : Nat} {Q : Option AV → St → Prop} {σ : St} (x1 : Int) (hF : Fix σ) (h : (0 ≤ (σ.1 42 12) ∧ (σ.1 42 12) < 48) ∧ Q none (wr (wr σ 51 (σ.1 42 12) x1) 42 12 ((σ.1 42 12) + 1))) : WP E m_M_adds d 0 [(0, aP 42), (1, aI x1)] [] σ Q := by
  refine s_aload_n 0 d_M_adds_0 rfl rfl ?_
  refine s_getF (v := 51) d_M_adds_1 fl_M_38 rfl (sf_42 hF) (ff_36 hF) ?_
  refine s_aload_n 0 d_M_adds_4 rfl rfl ?_
  refine s_getF (v := σ.1 42 12) d_M_adds_5 fl_M_192 rfl (sf_42 hF) rfl ?_
  refine s_iload_n 1 d_M_adds_8 rfl rfl ?_
  obtain ⟨g1, h⟩ := h
  refine s_iastore d_M_adds_9 ⟨_, sf_51 hF, g1.1, g1.2, by have := g1.2; omega⟩ ?_
  refine s_aload_n 0 d_M_adds_10 rfl rfl ?_
  refine s_dup d_M_adds_11 (Nat.ne_of_beq_eq_false rfl) ?_
  refine s_getF (v := σ.1 42 12) d_M_adds_12 fl_M_192 rfl (sf_42 (hF.wa (a := 51) (by decide))) rfl ?_
  refine s_iconst d_M_adds_15 ?_
  refine s_iadd d_M_adds_16 ?_
  refine s_putf 12 rfl d_M_adds_17 fl_M_192 (fun C T h => by cases h; exact Or.inl rfl) rfl (Or.inl rfl) (fun h => nomatch h) (sf_42 (hF.wa (a := 51) (by decide))) ?_
  exact s_return d_M_adds_20 rfl h
theorem e_M_adds {E : EV} {d : Nat} {Q : Option AV → St → Prop} {σ : St} (x1 : Int) (hF : Fix σ) (h : (0 ≤ (σ.1 42 12) ∧ (σ.1 42 12) < 48) ∧ Q none (wr (wr σ 51 (σ.1 42 12) x1) 42 12 ((σ.1 42 12) + 1))) : WM E m_M_adds d [aP 42, aI x1] σ Q := s_meth (by decide) (Nat.le_of_ble_eq_true rfl) rfl (b_M_adds_0 x1 hF h)
theorem d_M_lays_0 : decode m_M_lays.2.1 0 = .ok (.iload_n 1, 1) := by decide +kernel
theorem d_M_lays_1 : decode m_M_lays.2.1 1 = .ok (.iload_n 2, 1) := by decide +kernel
theorem d_M_lays_2 : decode m_M_lays.2.1 2 = .ok (.invokestatic 185, 3) := by decide +kernel
theorem d_M_lays_5 : decode m_M_lays.2.1 5 = .ok (.istore_n 3, 1) := by decide +kernel
theorem d_M_lays_6 : decode m_M_lays.2.1 6 = .ok (.aload_n 0, 1) := by decide +kernel
theorem d_M_lays_7 : decode m_M_lays.2.1 7 = .ok (.getfield 26, 3) := by decide +kernel
theorem d_M_lays_10 : decode m_M_lays.2.1 10 = .ok (.iload_n 3, 1) := by decide +kernel
theorem d_M_lays_11 : decode m_M_lays.2.1 11 = .ok (.aload_n 0, 1) := by decide +kernel
theorem d_M_lays_12 : decode m_M_lays.2.1 12 = .ok (.getfield 192, 3) := by decide +kernel
theorem d_M_lays_15 : decode m_M_lays.2.1 15 = .ok (.iastore, 1) := by decide +kernel
theorem d_M_lays_16 : decode m_M_lays.2.1 16 = .ok (.iconst 0, 1) := by decide +kernel
theorem d_M_lays_17 : decode m_M_lays.2.1 17 = .ok (.istore 4, 2) := by decide +kernel
theorem d_M_lays_19 : decode m_M_lays.2.1 19 = .ok (.iload 4, 2) := by decide +kernel
theorem d_M_lays_21 : decode m_M_lays.2.1 21 = .ok (.aload_n 0, 1) := by decide +kernel
theorem d_M_lays_22 : decode m_M_lays.2.1 22 = .ok (.getfield 192, 3) := by decide +kernel
theorem d_M_lays_25 : decode m_M_lays.2.1 25 = .ok (.if_icmp .ge 27, 3) := by decide +kernel
theorem d_M_lays_28 : decode m_M_lays.2.1 28 = .ok (.aload_n 0, 1) := by decide +kernel
theorem d_M_lays_29 : decode m_M_lays.2.1 29 = .ok (.getfield 26, 3) := by decide +kernel
theorem d_M_lays_32 : decode m_M_lays.2.1 32 = .ok (.iload_n 3, 1) := by decide +kernel
theorem d_M_lays_33 : decode m_M_lays.2.1 33 = .ok (.iconst 1, 1) := by decide +kernel
theorem d_M_lays_34 : decode m_M_lays.2.1 34 = .ok (.iadd, 1) := by decide +kernel
theorem d_M_lays_35 : decode m_M_lays.2.1 35 = .ok (.iload 4, 2) := by decide +kernel
theorem d_M_lays_37 : decode m_M_lays.2.1 37 = .ok (.iadd, 1) := by decide +kernel
theorem d_M_lays_38 : decode m_M_lays.2.1 38 = .ok (.aload_n 0, 1) := by decide +kernel
theorem d_M_lays_39 : decode m_M_lays.2.1 39 = .ok (.getfield 38, 3) := by decide +kernel
theorem d_M_lays_42 : decode m_M_lays.2.1 42 = .ok (.iload 4, 2) := by decide +kernel
theorem d_M_lays_44 : decode m_M_lays.2.1 44 = .ok (.iaload, 1) := by decide +kernel
theorem d_M_lays_45 : decode m_M_lays.2.1 45 = .ok (.iastore, 1) := by decide +kernel
theorem d_M_lays_46 : decode m_M_lays.2.1 46 = .ok (.iinc 4 1, 3) := by decide +kernel
theorem d_M_lays_49 : decode m_M_lays.2.1 49 = .ok (.goto (-30), 3) := by decide +kernel
theorem d_M_lays_52 : decode m_M_lays.2.1 52 = .ok (.return_, 1) := by decide +kernel
theorem b_M_lays_0 {E : EV} {d : Nat} {Q : Option AV → St → Prop} {σ : St} (x1 x2 : Int) (hF : Fix σ) (h : (WMi E m_M_placeOf d [aI x1, aI x2] σ (fun v1 σ1 => Fix σ1 ∧ (0 ≤ v1 ∧ v1 < 683) ∧ WP E m_M_lays (d + 1) 19 [(0, aP 42), (3, aI v1), (4, aI 0)] [] (wr σ1 47 v1 (σ1.1 42 12)) Q))) : WP E m_M_lays (d + 1) 0 [(0, aP 42), (1, aI x1), (2, aI x2)] [] σ Q := by
  refine s_iload_n 1 d_M_lays_0 rfl rfl ?_
  refine s_iload_n 2 d_M_lays_1 rfl rfl ?_
  refine s_callS (as := [aI x1, aI x2]) d_M_lays_2 ok_M_placeOf lk_M_185 to_M_placeOf rfl (Nat.le_of_ble_eq_true rfl) rfl (WM.mono h ?_)
  rintro _ σ1 ⟨v1, rfl, hp, h⟩
  obtain ⟨hF1, h⟩ := h
  show WP E m_M_lays (d + 1) 5 [(0, aP 42), (1, aI x1), (2, aI x2)] [aI v1] σ1 Q
  refine s_istore_n d_M_lays_5 rfl (by decide) rfl ?_
  refine s_aload_n 1 d_M_lays_6 rfl rfl ?_
  refine s_getF (v := 47) d_M_lays_7 fl_M_26 rfl (sf_42 hF1) (ff_32 hF1) ?_
  refine s_iload_n 0 d_M_lays_10 rfl rfl ?_
  refine s_aload_n 1 d_M_lays_11 rfl rfl ?_
  refine s_getF (v := σ1.1 42 12) d_M_lays_12 fl_M_192 rfl (sf_42 hF1) rfl ?_
  obtain ⟨g2, h⟩ := h
  refine s_iastore d_M_lays_15 ⟨_, sf_47 hF1, g2.1, g2.2, by have := g2.2; omega⟩ ?_
  refine s_iconst d_M_lays_16 ?_
  refine s_istore d_M_lays_17 (by decide) rfl ?_
  refine wp_drop [2, 1, 0] rfl ?_
  exact h
theorem e_M_lays {E : EV} {d : Nat} {Q : Option AV → St → Prop} {σ : St} (x1 x2 : Int) (hF : Fix σ) (h : (WMi E m_M_placeOf d [aI x1, aI x2] σ (fun v1 σ1 => Fix σ1 ∧ (0 ≤ v1 ∧ v1 < 683) ∧ WP E m_M_lays (d + 1) 19 [(0, aP 42), (3, aI v1), (4, aI 0)] [] (wr σ1 47 v1 (σ1.1 42 12)) Q))) : WM E m_M_lays (d + 1) [aP 42, aI x1, aI x2] σ Q := s_meth (by decide) (Nat.le_of_ble_eq_true rfl) rfl (b_M_lays_0 x1 x2 hF h)
theorem b_M_lays_19 {E : EV} {d : Nat} {Q : Option AV → St → Prop} {σ : St} (x3 x4 : Int) (hF : Fix σ) (h : (rI x4) ∧ (rI (σ.1 42 12)) ∧ (((σ.1 42 12) ≤ x4 → Q none σ) ∧ (¬ (σ.1 42 12) ≤ x4 → (0 ≤ x4 ∧ x4 < 48) ∧ (0 ≤ ((x3 + 1) + x4) ∧ ((x3 + 1) + x4) < 683) ∧ WP E m_M_lays (d + 1) 19 [(0, aP 42), (3, aI x3), (4, aI (x4 + 1))] [] (wr σ 47 ((x3 + 1) + x4) (σ.1 51 x4)) Q))) : WP E m_M_lays (d + 1) 19 [(0, aP 42), (3, aI x3), (4, aI x4)] [] σ Q := by
  refine s_iload 2 d_M_lays_19 rfl ?_
  refine s_aload_n 0 d_M_lays_21 rfl rfl ?_
  refine s_getF (v := σ.1 42 12) d_M_lays_22 fl_M_192 rfl (sf_42 hF) rfl ?_
  obtain ⟨g1, h⟩ := h
  obtain ⟨g2, h⟩ := h
  refine s_icmp_ge d_M_lays_25 rfl g1 g2 (fun c => ?_) (fun c => ?_)
  · have h := h.1 c
    exact s_return d_M_lays_52 rfl h
  · have h := h.2 c
    refine s_aload_n 0 d_M_lays_28 rfl rfl ?_
    refine s_getF (v := 47) d_M_lays_29 fl_M_26 rfl (sf_42 hF) (ff_32 hF) ?_
    refine s_iload_n 1 d_M_lays_32 rfl rfl ?_
    refine s_iconst d_M_lays_33 ?_
    refine s_iadd d_M_lays_34 ?_
    refine s_iload 2 d_M_lays_35 rfl ?_
    refine s_iadd d_M_lays_37 ?_
    refine s_aload_n 0 d_M_lays_38 rfl rfl ?_
    refine s_getF (v := 51) d_M_lays_39 fl_M_38 rfl (sf_42 hF) (ff_36 hF) ?_
    refine s_iload 2 d_M_lays_42 rfl ?_
    obtain ⟨g3, h⟩ := h
    refine s_ialoadv (v := σ.1 51 x4) d_M_lays_44 ⟨_, sf_51 hF, g3.1, g3.2, by have := g3.2; omega⟩ rfl ?_
    obtain ⟨g4, h⟩ := h
    refine s_iastore d_M_lays_45 ⟨_, sf_47 hF, g4.1, g4.2, by have := g4.2; omega⟩ ?_
    refine s_iinc 2 d_M_lays_46 rfl (by decide) rfl ?_
    refine s_goto d_M_lays_49 rfl ?_
    refine wp_drop [1, 2, 0] rfl ?_
    exact h
theorem d_M_join_0 : decode m_M_join.2.1 0 = .ok (.aload_n 0, 1) := by decide +kernel
theorem d_M_join_1 : decode m_M_join.2.1 1 = .ok (.iload_n 1, 1) := by decide +kernel
theorem d_M_join_2 : decode m_M_join.2.1 2 = .ok (.iload_n 2, 1) := by decide +kernel
theorem d_M_join_3 : decode m_M_join.2.1 3 = .ok (.invokevirtual 206, 3) := by decide +kernel
theorem d_M_join_6 : decode m_M_join.2.1 6 = .ok (.ifCond .eq 23, 3) := by decide +kernel
theorem d_M_join_9 : decode m_M_join.2.1 9 = .ok (.aload_n 0, 1) := by decide +kernel
theorem d_M_join_10 : decode m_M_join.2.1 10 = .ok (.iload_n 1, 1) := by decide +kernel
theorem d_M_join_11 : decode m_M_join.2.1 11 = .ok (.iload_n 2, 1) := by decide +kernel
theorem d_M_join_12 : decode m_M_join.2.1 12 = .ok (.iconst 1, 1) := by decide +kernel
theorem d_M_join_13 : decode m_M_join.2.1 13 = .ok (.iadd, 1) := by decide +kernel
theorem d_M_join_14 : decode m_M_join.2.1 14 = .ok (.invokevirtual 206, 3) := by decide +kernel
theorem d_M_join_17 : decode m_M_join.2.1 17 = .ok (.ifCond .eq 12, 3) := by decide +kernel
theorem d_M_join_20 : decode m_M_join.2.1 20 = .ok (.aload_n 0, 1) := by decide +kernel
theorem d_M_join_21 : decode m_M_join.2.1 21 = .ok (.iload_n 1, 1) := by decide +kernel
theorem d_M_join_22 : decode m_M_join.2.1 22 = .ok (.iload_n 2, 1) := by decide +kernel
theorem d_M_join_23 : decode m_M_join.2.1 23 = .ok (.invokevirtual 310, 3) := by decide +kernel
theorem d_M_join_26 : decode m_M_join.2.1 26 = .ok (.ifCond .ne 5, 3) := by decide +kernel
theorem d_M_join_29 : decode m_M_join.2.1 29 = .ok (.iconst 0, 1) := by decide +kernel
theorem d_M_join_30 : decode m_M_join.2.1 30 = .ok (.ireturn, 1) := by decide +kernel
theorem d_M_join_31 : decode m_M_join.2.1 31 = .ok (.aload_n 0, 1) := by decide +kernel
theorem d_M_join_32 : decode m_M_join.2.1 32 = .ok (.invokevirtual 290, 3) := by decide +kernel
theorem d_M_join_35 : decode m_M_join.2.1 35 = .ok (.aload_n 0, 1) := by decide +kernel
theorem d_M_join_36 : decode m_M_join.2.1 36 = .ok (.iload_n 1, 1) := by decide +kernel
theorem d_M_join_37 : decode m_M_join.2.1 37 = .ok (.iload_n 2, 1) := by decide +kernel
theorem d_M_join_38 : decode m_M_join.2.1 38 = .ok (.invokevirtual 304, 3) := by decide +kernel
theorem d_M_join_41 : decode m_M_join.2.1 41 = .ok (.aload_n 0, 1) := by decide +kernel
theorem d_M_join_42 : decode m_M_join.2.1 42 = .ok (.iload_n 1, 1) := by decide +kernel
theorem d_M_join_43 : decode m_M_join.2.1 43 = .ok (.iload_n 2, 1) := by decide +kernel
theorem d_M_join_44 : decode m_M_join.2.1 44 = .ok (.iconst 1, 1) := by decide +kernel
theorem d_M_join_45 : decode m_M_join.2.1 45 = .ok (.iadd, 1) := by decide +kernel
theorem d_M_join_46 : decode m_M_join.2.1 46 = .ok (.invokevirtual 313, 3) := by decide +kernel
theorem d_M_join_49 : decode m_M_join.2.1 49 = .ok (.iconst 1, 1) := by decide +kernel
theorem d_M_join_50 : decode m_M_join.2.1 50 = .ok (.ireturn, 1) := by decide +kernel
theorem b_M_join_0 {E : EV} {d : Nat} {Q : Option AV → St → Prop} {σ : St} (x1 x2 : Int) (hF : Fix σ) (h : (WMi E m_M_isSquare d [aP 42, aI x1, aI x2] σ (fun v1 σ1 => Fix σ1 ∧ (rI v1) ∧ ((v1 = 0 → Q (some (aI 0)) σ1) ∧ (¬ v1 = 0 → (WMi E m_M_isSquare d [aP 42, aI x1, aI (x2 + 1)] σ1 (fun v3 σ3 => Fix σ3 ∧ (rI v3) ∧ ((v3 = 0 → Q (some (aI 0)) σ3) ∧ (¬ v3 = 0 → (WMi E m_M_joins d [aP 42, aI x1, aI x2] σ3 (fun v5 σ5 => Fix σ5 ∧ (rI v5) ∧ ((¬ v5 = 0 → (WMv E m_M_keeps d [aP 42] σ5 (fun σ7 => Fix σ7 ∧ (WMv E m_M_lays d [aP 42, aI x1, aI x2] σ7 (fun σ8 => Fix σ8 ∧ (WMv E m_M_removes d [aP 42, aI x1, aI (x2 + 1)] σ8 (fun σ9 => Q (some (aI 1)) σ9))))))) ∧ (v5 = 0 → Q (some (aI 0)) σ5))))))))))))) : WP E m_M_join (d + 1) 0 [(0, aP 42), (1, aI x1), (2, aI x2)] [] σ Q := by
  refine s_aload_n 0 d_M_join_0 rfl rfl ?_
  refine s_iload_n 1 d_M_join_1 rfl rfl ?_
  refine s_iload_n 2 d_M_join_2 rfl rfl ?_
  refine s_callV (as := [aI x1, aI x2]) (ci := 10) d_M_join_3 ok_M_isSquare lk_M_206 io_M_isSquare so_M_isSquare (by decide) rfl rfl rfl (Nat.le_of_ble_eq_true rfl) rfl (sf_42 hF) (WM.mono h ?_)
  rintro _ σ1 ⟨v1, rfl, hp, h⟩
  obtain ⟨hF1, h⟩ := h
  show WP E m_M_join (d + 1) 6 [(0, aP 42), (1, aI x1), (2, aI x2)] [aI v1] σ1 Q
  obtain ⟨g2, h⟩ := h
  refine s_if_eq d_M_join_6 rfl g2 (fun c => ?_) (fun c => ?_)
  · have h := h.1 c
    refine s_iconst d_M_join_29 ?_
    exact s_zreturn d_M_join_30 rfl (by decide) h
  · have h := h.2 c
    refine s_aload_n 0 d_M_join_9 rfl rfl ?_
    refine s_iload_n 1 d_M_join_10 rfl rfl ?_
    refine s_iload_n 2 d_M_join_11 rfl rfl ?_
    refine s_iconst d_M_join_12 ?_
    refine s_iadd d_M_join_13 ?_
    refine s_callV (as := [aI x1, aI (x2 + 1)]) (ci := 10) d_M_join_14 ok_M_isSquare lk_M_206 io_M_isSquare so_M_isSquare (by decide) rfl rfl rfl (Nat.le_of_ble_eq_true rfl) rfl (sf_42 hF1) (WM.mono h ?_)
    rintro _ σ3 ⟨v3, rfl, hp, h⟩
    obtain ⟨hF3, h⟩ := h
    show WP E m_M_join (d + 1) 17 [(0, aP 42), (1, aI x1), (2, aI x2)] [aI v3] σ3 Q
    obtain ⟨g4, h⟩ := h
    refine s_if_eq d_M_join_17 rfl g4 (fun c => ?_) (fun c => ?_)
    · have h := h.1 c
      refine s_iconst d_M_join_29 ?_
      exact s_zreturn d_M_join_30 rfl (by decide) h
    · have h := h.2 c
      refine s_aload_n 0 d_M_join_20 rfl rfl ?_
      refine s_iload_n 1 d_M_join_21 rfl rfl ?_
      refine s_iload_n 2 d_M_join_22 rfl rfl ?_
      refine s_callV (as := [aI x1, aI x2]) (ci := 10) d_M_join_23 ok_M_joins lk_M_310 io_M_joins so_M_joins (by decide) rfl rfl rfl (Nat.le_of_ble_eq_true rfl) rfl (sf_42 hF3) (WM.mono h ?_)
      rintro _ σ5 ⟨v5, rfl, hp, h⟩
      obtain ⟨hF5, h⟩ := h
      show WP E m_M_join (d + 1) 26 [(0, aP 42), (1, aI x1), (2, aI x2)] [aI v5] σ5 Q
      obtain ⟨g6, h⟩ := h
      refine s_if_ne d_M_join_26 rfl g6 (fun c => ?_) (fun c => ?_)
      · have h := h.1 c
        refine s_aload_n 0 d_M_join_31 rfl rfl ?_
        refine s_callV (as := []) (ci := 10) d_M_join_32 ok_M_keeps lk_M_290 io_M_keeps so_M_keeps (by decide) rfl rfl rfl (Nat.le_of_ble_eq_true rfl) rfl (sf_42 hF5) (WM.mono h ?_)
        rintro _ σ7 ⟨rfl, hp, h⟩
        obtain ⟨hF7, h⟩ := h
        show WP E m_M_join (d + 1) 35 [(0, aP 42), (1, aI x1), (2, aI x2)] [] σ7 Q
        refine s_aload_n 0 d_M_join_35 rfl rfl ?_
        refine s_iload_n 1 d_M_join_36 rfl rfl ?_
        refine s_iload_n 2 d_M_join_37 rfl rfl ?_
        refine s_callV (as := [aI x1, aI x2]) (ci := 10) d_M_join_38 ok_M_lays lk_M_304 io_M_lays so_M_lays (by decide) rfl rfl rfl (Nat.le_of_ble_eq_true rfl) rfl (sf_42 hF7) (WM.mono h ?_)
        rintro _ σ8 ⟨rfl, hp, h⟩
        obtain ⟨hF8, h⟩ := h
        show WP E m_M_join (d + 1) 41 [(0, aP 42), (1, aI x1), (2, aI x2)] [] σ8 Q
        refine s_aload_n 0 d_M_join_41 rfl rfl ?_
        refine s_iload_n 1 d_M_join_42 rfl rfl ?_
        refine s_iload_n 2 d_M_join_43 rfl rfl ?_
        refine s_iconst d_M_join_44 ?_
        refine s_iadd d_M_join_45 ?_
        refine s_callV (as := [aI x1, aI (x2 + 1)]) (ci := 10) d_M_join_46 ok_M_removes lk_M_313 io_M_removes so_M_removes (by decide) rfl rfl rfl (Nat.le_of_ble_eq_true rfl) rfl (sf_42 hF8) (WM.mono h ?_)
        rintro _ σ9 ⟨rfl, hp, h⟩
        show WP E m_M_join (d + 1) 49 [(0, aP 42), (1, aI x1), (2, aI x2)] [] σ9 Q
        refine s_iconst d_M_join_49 ?_
        exact s_zreturn d_M_join_50 rfl (by decide) h
      · have h := h.2 c
        refine s_iconst d_M_join_29 ?_
        exact s_zreturn d_M_join_30 rfl (by decide) h
theorem e_M_join {E : EV} {d : Nat} {Q : Option AV → St → Prop} {σ : St} (x1 x2 : Int) (hF : Fix σ) (h : (WMi E m_M_isSquare d [aP 42, aI x1, aI x2] σ (fun v1 σ1 => Fix σ1 ∧ (rI v1) ∧ ((v1 = 0 → Q (some (aI 0)) σ1) ∧ (¬ v1 = 0 → (WMi E m_M_isSquare d [aP 42, aI x1, aI (x2 + 1)] σ1 (fun v3 σ3 => Fix σ3 ∧ (rI v3) ∧ ((v3 = 0 → Q (some (aI 0)) σ3) ∧ (¬ v3 = 0 → (WMi E m_M_joins d [aP 42, aI x1, aI x2] σ3 (fun v5 σ5 => Fix σ5 ∧ (rI v5) ∧ ((¬ v5 = 0 → (WMv E m_M_keeps d [aP 42] σ5 (fun σ7 => Fix σ7 ∧ (WMv E m_M_lays d [aP 42, aI x1, aI x2] σ7 (fun σ8 => Fix σ8 ∧ (WMv E m_M_removes d [aP 42, aI x1, aI (x2 + 1)] σ8 (fun σ9 => Q (some (aI 1)) σ9))))))) ∧ (v5 = 0 → Q (some (aI 0)) σ5))))))))))))) : WM E m_M_join (d + 1) [aP 42, aI x1, aI x2] σ Q := s_meth (by decide) (Nat.le_of_ble_eq_true rfl) rfl (b_M_join_0 x1 x2 hF h)
theorem d_M_joins_0 : decode m_M_joins.2.1 0 = .ok (.aload_n 0, 1) := by decide +kernel
theorem d_M_joins_1 : decode m_M_joins.2.1 1 = .ok (.iload_n 1, 1) := by decide +kernel
theorem d_M_joins_2 : decode m_M_joins.2.1 2 = .ok (.iload_n 2, 1) := by decide +kernel
theorem d_M_joins_3 : decode m_M_joins.2.1 3 = .ok (.invokevirtual 307, 3) := by decide +kernel
theorem d_M_joins_6 : decode m_M_joins.2.1 6 = .ok (.aload_n 0, 1) := by decide +kernel
theorem d_M_joins_7 : decode m_M_joins.2.1 7 = .ok (.iload_n 1, 1) := by decide +kernel
theorem d_M_joins_8 : decode m_M_joins.2.1 8 = .ok (.iload_n 2, 1) := by decide +kernel
theorem d_M_joins_9 : decode m_M_joins.2.1 9 = .ok (.iconst 1, 1) := by decide +kernel
theorem d_M_joins_10 : decode m_M_joins.2.1 10 = .ok (.iadd, 1) := by decide +kernel
theorem d_M_joins_11 : decode m_M_joins.2.1 11 = .ok (.invokevirtual 307, 3) := by decide +kernel
theorem d_M_joins_14 : decode m_M_joins.2.1 14 = .ok (.iadd, 1) := by decide +kernel
theorem d_M_joins_15 : decode m_M_joins.2.1 15 = .ok (.bipush 10, 2) := by decide +kernel
theorem d_M_joins_17 : decode m_M_joins.2.1 17 = .ok (.if_icmp .le 5, 3) := by decide +kernel
theorem d_M_joins_20 : decode m_M_joins.2.1 20 = .ok (.iconst 0, 1) := by decide +kernel
theorem d_M_joins_21 : decode m_M_joins.2.1 21 = .ok (.ireturn, 1) := by decide +kernel
theorem d_M_joins_22 : decode m_M_joins.2.1 22 = .ok (.aload_n 0, 1) := by decide +kernel
theorem d_M_joins_23 : decode m_M_joins.2.1 23 = .ok (.invokevirtual 293, 3) := by decide +kernel
theorem d_M_joins_26 : decode m_M_joins.2.1 26 = .ok (.aload_n 0, 1) := by decide +kernel
theorem d_M_joins_27 : decode m_M_joins.2.1 27 = .ok (.sipush 200, 3) := by decide +kernel
theorem d_M_joins_30 : decode m_M_joins.2.1 30 = .ok (.invokevirtual 195, 3) := by decide +kernel
theorem d_M_joins_33 : decode m_M_joins.2.1 33 = .ok (.iconst 0, 1) := by decide +kernel
theorem d_M_joins_34 : decode m_M_joins.2.1 34 = .ok (.istore_n 3, 1) := by decide +kernel
theorem d_M_joins_35 : decode m_M_joins.2.1 35 = .ok (.iload_n 2, 1) := by decide +kernel
theorem d_M_joins_36 : decode m_M_joins.2.1 36 = .ok (.istore 4, 2) := by decide +kernel
theorem d_M_joins_38 : decode m_M_joins.2.1 38 = .ok (.iload 4, 2) := by decide +kernel
theorem d_M_joins_40 : decode m_M_joins.2.1 40 = .ok (.iload_n 2, 1) := by decide +kernel
theorem d_M_joins_41 : decode m_M_joins.2.1 41 = .ok (.iconst 2, 1) := by decide +kernel
theorem d_M_joins_42 : decode m_M_joins.2.1 42 = .ok (.iadd, 1) := by decide +kernel
theorem d_M_joins_43 : decode m_M_joins.2.1 43 = .ok (.if_icmp .ge 76, 3) := by decide +kernel
theorem d_M_joins_46 : decode m_M_joins.2.1 46 = .ok (.aload_n 0, 1) := by decide +kernel
theorem d_M_joins_47 : decode m_M_joins.2.1 47 = .ok (.iload_n 1, 1) := by decide +kernel
theorem d_M_joins_48 : decode m_M_joins.2.1 48 = .ok (.iload 4, 2) := by decide +kernel
theorem d_M_joins_50 : decode m_M_joins.2.1 50 = .ok (.invokevirtual 210, 3) := by decide +kernel
theorem d_M_joins_53 : decode m_M_joins.2.1 53 = .ok (.aload_n 0, 1) := by decide +kernel
theorem d_M_joins_54 : decode m_M_joins.2.1 54 = .ok (.getfield 35, 3) := by decide +kernel
theorem d_M_joins_57 : decode m_M_joins.2.1 57 = .ok (.iconst 0, 1) := by decide +kernel
theorem d_M_joins_58 : decode m_M_joins.2.1 58 = .ok (.iaload, 1) := by decide +kernel
theorem d_M_joins_59 : decode m_M_joins.2.1 59 = .ok (.sipush 200, 3) := by decide +kernel
theorem d_M_joins_62 : decode m_M_joins.2.1 62 = .ok (.sipush 299, 3) := by decide +kernel
theorem d_M_joins_65 : decode m_M_joins.2.1 65 = .ok (.invokestatic 167, 3) := by decide +kernel
theorem d_M_joins_68 : decode m_M_joins.2.1 68 = .ok (.istore 5, 2) := by decide +kernel
theorem d_M_joins_70 : decode m_M_joins.2.1 70 = .ok (.iload_n 3, 1) := by decide +kernel
theorem d_M_joins_71 : decode m_M_joins.2.1 71 = .ok (.iload 5, 2) := by decide +kernel
theorem d_M_joins_73 : decode m_M_joins.2.1 73 = .ok (.ifCond .eq 15, 3) := by decide +kernel
theorem d_M_joins_76 : decode m_M_joins.2.1 76 = .ok (.aload_n 0, 1) := by decide +kernel
theorem d_M_joins_77 : decode m_M_joins.2.1 77 = .ok (.getfield 35, 3) := by decide +kernel
theorem d_M_joins_80 : decode m_M_joins.2.1 80 = .ok (.iconst 0, 1) := by decide +kernel
theorem d_M_joins_81 : decode m_M_joins.2.1 81 = .ok (.iaload, 1) := by decide +kernel
theorem d_M_joins_82 : decode m_M_joins.2.1 82 = .ok (.invokestatic 182, 3) := by decide +kernel
theorem d_M_joins_85 : decode m_M_joins.2.1 85 = .ok (.goto 4, 3) := by decide +kernel
theorem d_M_joins_88 : decode m_M_joins.2.1 88 = .ok (.iconst 1, 1) := by decide +kernel
theorem d_M_joins_89 : decode m_M_joins.2.1 89 = .ok (.iadd, 1) := by decide +kernel
theorem d_M_joins_90 : decode m_M_joins.2.1 90 = .ok (.istore_n 3, 1) := by decide +kernel
theorem d_M_joins_91 : decode m_M_joins.2.1 91 = .ok (.aload_n 0, 1) := by decide +kernel
theorem d_M_joins_92 : decode m_M_joins.2.1 92 = .ok (.aload_n 0, 1) := by decide +kernel
theorem d_M_joins_93 : decode m_M_joins.2.1 93 = .ok (.getfield 35, 3) := by decide +kernel
theorem d_M_joins_96 : decode m_M_joins.2.1 96 = .ok (.iload 5, 2) := by decide +kernel
theorem d_M_joins_98 : decode m_M_joins.2.1 98 = .ok (.ifCond .eq 7, 3) := by decide +kernel
theorem d_M_joins_101 : decode m_M_joins.2.1 101 = .ok (.iconst 1, 1) := by decide +kernel
theorem d_M_joins_102 : decode m_M_joins.2.1 102 = .ok (.goto 4, 3) := by decide +kernel
theorem d_M_joins_105 : decode m_M_joins.2.1 105 = .ok (.iconst 0, 1) := by decide +kernel
theorem d_M_joins_106 : decode m_M_joins.2.1 106 = .ok (.aload_n 0, 1) := by decide +kernel
theorem d_M_joins_107 : decode m_M_joins.2.1 107 = .ok (.getfield 189, 3) := by decide +kernel
theorem d_M_joins_110 : decode m_M_joins.2.1 110 = .ok (.invokevirtual 300, 3) := by decide +kernel
theorem d_M_joins_113 : decode m_M_joins.2.1 113 = .ok (.iinc 4 1, 3) := by decide +kernel
theorem d_M_joins_116 : decode m_M_joins.2.1 116 = .ok (.goto (-78), 3) := by decide +kernel
theorem d_M_joins_119 : decode m_M_joins.2.1 119 = .ok (.aload_n 0, 1) := by decide +kernel
theorem d_M_joins_120 : decode m_M_joins.2.1 120 = .ok (.getfield 38, 3) := by decide +kernel
theorem d_M_joins_123 : decode m_M_joins.2.1 123 = .ok (.iconst 0, 1) := by decide +kernel
theorem d_M_joins_124 : decode m_M_joins.2.1 124 = .ok (.sipush 200, 3) := by decide +kernel
theorem d_M_joins_127 : decode m_M_joins.2.1 127 = .ok (.iload_n 3, 1) := by decide +kernel
theorem d_M_joins_128 : decode m_M_joins.2.1 128 = .ok (.iadd, 1) := by decide +kernel
theorem d_M_joins_129 : decode m_M_joins.2.1 129 = .ok (.iastore, 1) := by decide +kernel
theorem d_M_joins_130 : decode m_M_joins.2.1 130 = .ok (.iconst 1, 1) := by decide +kernel
theorem d_M_joins_131 : decode m_M_joins.2.1 131 = .ok (.ireturn, 1) := by decide +kernel
theorem b_M_joins_0 {E : EV} {d : Nat} {Q : Option AV → St → Prop} {σ : St} (x1 x2 : Int) (hF : Fix σ) (h : (WMi E m_M_signsOf d [aP 42, aI x1, aI x2] σ (fun v1 σ1 => Fix σ1 ∧ (WMi E m_M_signsOf d [aP 42, aI x1, aI (x2 + 1)] σ1 (fun v2 σ2 => Fix σ2 ∧ (rI (v1 + v2)) ∧ (((v1 + v2) ≤ 10 → (WMv E m_M_opens d [aP 42] σ2 (fun σ4 => Fix σ4 ∧ (WMv E m_M_adds d [aP 42, aI 200] σ4 (fun σ5 => WP E m_M_joins (d + 1) 38 [(0, aP 42), (1, aI x1), (2, aI x2), (3, aI 0), (4, aI x2)] [] σ5 Q))))) ∧ (¬ (v1 + v2) ≤ 10 → Q (some (aI 0)) σ2))))))) : WP E m_M_joins (d + 1) 0 [(0, aP 42), (1, aI x1), (2, aI x2)] [] σ Q := by
  refine s_aload_n 0 d_M_joins_0 rfl rfl ?_
  refine s_iload_n 1 d_M_joins_1 rfl rfl ?_
  refine s_iload_n 2 d_M_joins_2 rfl rfl ?_
  refine s_callV (as := [aI x1, aI x2]) (ci := 10) d_M_joins_3 ok_M_signsOf lk_M_307 io_M_signsOf so_M_signsOf (by decide) rfl rfl rfl (Nat.le_of_ble_eq_true rfl) rfl (sf_42 hF) (WM.mono h ?_)
  rintro _ σ1 ⟨v1, rfl, hp, h⟩
  obtain ⟨hF1, h⟩ := h
  show WP E m_M_joins (d + 1) 6 [(0, aP 42), (1, aI x1), (2, aI x2)] [aI v1] σ1 Q
  refine s_aload_n 0 d_M_joins_6 rfl rfl ?_
  refine s_iload_n 1 d_M_joins_7 rfl rfl ?_
  refine s_iload_n 2 d_M_joins_8 rfl rfl ?_
  refine s_iconst d_M_joins_9 ?_
  refine s_iadd d_M_joins_10 ?_
  refine s_callV (as := [aI x1, aI (x2 + 1)]) (ci := 10) d_M_joins_11 ok_M_signsOf lk_M_307 io_M_signsOf so_M_signsOf (by decide) rfl rfl rfl (Nat.le_of_ble_eq_true rfl) rfl (sf_42 hF1) (WM.mono h ?_)
  rintro _ σ2 ⟨v2, rfl, hp, h⟩
  obtain ⟨hF2, h⟩ := h
  show WP E m_M_joins (d + 1) 14 [(0, aP 42), (1, aI x1), (2, aI x2)] [aI v2, aI v1] σ2 Q
  refine s_iadd d_M_joins_14 ?_
  refine s_bipush d_M_joins_15 (by decide) ?_
  obtain ⟨g3, h⟩ := h
  refine s_icmp_le d_M_joins_17 rfl g3 (by decide) (fun c => ?_) (fun c => ?_)
  · have h := h.1 c
    refine s_aload_n 0 d_M_joins_22 rfl rfl ?_
    refine s_callV (as := []) (ci := 10) d_M_joins_23 ok_M_opens lk_M_293 io_M_opens so_M_opens (by decide) rfl rfl rfl (Nat.le_of_ble_eq_true rfl) rfl (sf_42 hF2) (WM.mono h ?_)
    rintro _ σ4 ⟨rfl, hp, h⟩
    obtain ⟨hF4, h⟩ := h
    show WP E m_M_joins (d + 1) 26 [(0, aP 42), (1, aI x1), (2, aI x2)] [] σ4 Q
    refine s_aload_n 0 d_M_joins_26 rfl rfl ?_
    refine s_sipush d_M_joins_27 (by decide) ?_
    refine s_callV (as := [aI 200]) (ci := 10) d_M_joins_30 ok_M_adds lk_M_195 io_M_adds so_M_adds (by decide) rfl rfl rfl (Nat.le_of_ble_eq_true rfl) rfl (sf_42 hF4) (WM.mono h ?_)
    rintro _ σ5 ⟨rfl, hp, h⟩
    show WP E m_M_joins (d + 1) 33 [(0, aP 42), (1, aI x1), (2, aI x2)] [] σ5 Q
    refine s_iconst d_M_joins_33 ?_
    refine s_istore_n d_M_joins_34 rfl (by decide) rfl ?_
    refine s_iload_n 3 d_M_joins_35 rfl rfl ?_
    refine s_istore d_M_joins_36 (by decide) rfl ?_
    refine wp_drop [2, 3, 4, 1, 0] rfl ?_
    exact h
  · have h := h.2 c
    refine s_iconst d_M_joins_20 ?_
    exact s_zreturn d_M_joins_21 rfl (by decide) h
theorem e_M_joins {E : EV} {d : Nat} {Q : Option AV → St → Prop} {σ : St} (x1 x2 : Int) (hF : Fix σ) (h : (WMi E m_M_signsOf d [aP 42, aI x1, aI x2] σ (fun v1 σ1 => Fix σ1 ∧ (WMi E m_M_signsOf d [aP 42, aI x1, aI (x2 + 1)] σ1 (fun v2 σ2 => Fix σ2 ∧ (rI (v1 + v2)) ∧ (((v1 + v2) ≤ 10 → (WMv E m_M_opens d [aP 42] σ2 (fun σ4 => Fix σ4 ∧ (WMv E m_M_adds d [aP 42, aI 200] σ4 (fun σ5 => WP E m_M_joins (d + 1) 38 [(0, aP 42), (1, aI x1), (2, aI x2), (3, aI 0), (4, aI x2)] [] σ5 Q))))) ∧ (¬ (v1 + v2) ≤ 10 → Q (some (aI 0)) σ2))))))) : WM E m_M_joins (d + 1) [aP 42, aI x1, aI x2] σ Q := s_meth (by decide) (Nat.le_of_ble_eq_true rfl) rfl (b_M_joins_0 x1 x2 hF h)
theorem b_M_joins_38 {E : EV} {d : Nat} {Q : Option AV → St → Prop} {σ : St} (x1 x2 x3 x4 : Int) (hF : Fix σ) (h : (rI x4) ∧ (rI (x2 + 2)) ∧ (((x2 + 2) ≤ x4 → Q (some (aI 1)) (wr σ 51 0 (200 + x3))) ∧ (¬ (x2 + 2) ≤ x4 → (WMv E m_M_takes d [aP 42, aI x1, aI x4] σ (fun σ3 => Fix σ3 ∧ (WMi E m_M_in d [aI (σ3.1 50 0), aI 200, aI 299] σ3 (fun v4 σ4 => Fix σ4 ∧ (rI v4) ∧ ((v4 = 0 → WP E m_M_joins (d + 1) 89 [(0, aP 42), (1, aI x1), (2, aI x2), (4, aI x4), (5, aI v4)] [aI 1, aI x3] σ4 Q) ∧ (¬ v4 = 0 → (WMi E m_M_partsOf d [aI (σ4.1 50 0)] σ4 (fun v6 σ6 => WP E m_M_joins (d + 1) 89 [(0, aP 42), (1, aI x1), (2, aI x2), (4, aI x4), (5, aI v4)] [aI v6, aI x3] σ6 Q))))))))))) : WP E m_M_joins (d + 1) 38 [(0, aP 42), (1, aI x1), (2, aI x2), (3, aI x3), (4, aI x4)] [] σ Q := by
  refine s_iload 4 d_M_joins_38 rfl ?_
  refine s_iload_n 2 d_M_joins_40 rfl rfl ?_
  refine s_iconst d_M_joins_41 ?_
  refine s_iadd d_M_joins_42 ?_
  obtain ⟨g1, h⟩ := h
  obtain ⟨g2, h⟩ := h
  refine s_icmp_ge d_M_joins_43 rfl g1 g2 (fun c => ?_) (fun c => ?_)
  · have h := h.1 c
    refine s_aload_n 0 d_M_joins_119 rfl rfl ?_
    refine s_getF (v := 51) d_M_joins_120 fl_M_38 rfl (sf_42 hF) (ff_36 hF) ?_
    refine s_iconst d_M_joins_123 ?_
    refine s_sipush d_M_joins_124 (by decide) ?_
    refine s_iload_n 3 d_M_joins_127 rfl rfl ?_
    refine s_iadd d_M_joins_128 ?_
    refine s_iastore d_M_joins_129 ⟨_, sf_51 hF, by decide, by decide, by decide⟩ ?_
    refine s_iconst d_M_joins_130 ?_
    exact s_zreturn d_M_joins_131 rfl (by decide) h
  · have h := h.2 c
    refine s_aload_n 0 d_M_joins_46 rfl rfl ?_
    refine s_iload_n 1 d_M_joins_47 rfl rfl ?_
    refine s_iload 4 d_M_joins_48 rfl ?_
    refine s_callV (as := [aI x1, aI x4]) (ci := 10) d_M_joins_50 ok_M_takes lk_M_210 io_M_takes so_M_takes (by decide) rfl rfl rfl (Nat.le_of_ble_eq_true rfl) rfl (sf_42 hF) (WM.mono h ?_)
    rintro _ σ3 ⟨rfl, hp, h⟩
    obtain ⟨hF3, h⟩ := h
    show WP E m_M_joins (d + 1) 53 [(0, aP 42), (1, aI x1), (2, aI x2), (3, aI x3), (4, aI x4)] [] σ3 Q
    refine s_aload_n 0 d_M_joins_53 rfl rfl ?_
    refine s_getF (v := 50) d_M_joins_54 fl_M_35 rfl (sf_42 hF3) (ff_35 hF3) ?_
    refine s_iconst d_M_joins_57 ?_
    refine s_ialoadv (v := σ3.1 50 0) d_M_joins_58 ⟨_, sf_50 hF3, by decide, by decide, by decide⟩ rfl ?_
    refine s_sipush d_M_joins_59 (by decide) ?_
    refine s_sipush d_M_joins_62 (by decide) ?_
    refine s_callS (as := [aI (σ3.1 50 0), aI 200, aI 299]) d_M_joins_65 ok_M_in lk_M_167 to_M_in rfl (Nat.le_of_ble_eq_true rfl) rfl (WM.mono h ?_)
    rintro _ σ4 ⟨v4, rfl, hp, h⟩
    obtain ⟨hF4, h⟩ := h
    show WP E m_M_joins (d + 1) 68 [(0, aP 42), (1, aI x1), (2, aI x2), (3, aI x3), (4, aI x4)] [aI v4] σ4 Q
    refine s_istore d_M_joins_68 (by decide) rfl ?_
    refine s_iload_n 4 d_M_joins_70 rfl rfl ?_
    refine s_iload 0 d_M_joins_71 rfl ?_
    obtain ⟨g5, h⟩ := h
    refine s_if_eq d_M_joins_73 rfl g5 (fun c => ?_) (fun c => ?_)
    · have h := h.1 c
      refine s_iconst d_M_joins_88 ?_
      refine wp_drop [1, 2, 3, 5, 0] rfl ?_
      exact h
    · have h := h.2 c
      refine s_aload_n 1 d_M_joins_76 rfl rfl ?_
      refine s_getF (v := 50) d_M_joins_77 fl_M_35 rfl (sf_42 hF4) (ff_35 hF4) ?_
      refine s_iconst d_M_joins_80 ?_
      refine s_ialoadv (v := σ4.1 50 0) d_M_joins_81 ⟨_, sf_50 hF4, by decide, by decide, by decide⟩ rfl ?_
      refine s_callS (as := [aI (σ4.1 50 0)]) d_M_joins_82 ok_M_partsOf lk_M_182 to_M_partsOf rfl (Nat.le_of_ble_eq_true rfl) rfl (WM.mono h ?_)
      rintro _ σ6 ⟨v6, rfl, hp, h⟩
      show WP E m_M_joins (d + 1) 85 [(5, aI v4), (0, aP 42), (1, aI x1), (2, aI x2), (3, aI x3), (4, aI x4)] [aI v6, aI x3] σ6 Q
      refine s_goto d_M_joins_85 rfl ?_
      refine wp_drop [1, 2, 3, 5, 0] rfl ?_
      exact h
theorem b_M_joins_89 {E : EV} {d : Nat} {Q : Option AV → St → Prop} {σ : St} (x1 x2 x4 x5 s0 s1 : Int) (hF : Fix σ) (h : (rI x5) ∧ ((x5 = 0 → WP E m_M_joins (d + 1) 106 [(0, aP 42), (1, aI x1), (2, aI x2), (3, aI (s0 + s1)), (4, aI x4)] [aI 0, aP 50, aP 42] σ Q) ∧ (¬ x5 = 0 → WP E m_M_joins (d + 1) 106 [(0, aP 42), (1, aI x1), (2, aI x2), (3, aI (s0 + s1)), (4, aI x4)] [aI 1, aP 50, aP 42] σ Q))) : WP E m_M_joins (d + 1) 89 [(0, aP 42), (1, aI x1), (2, aI x2), (4, aI x4), (5, aI x5)] [aI s1, aI s0] σ Q := by
  refine s_iadd d_M_joins_89 ?_
  refine s_istore_n d_M_joins_90 rfl (by decide) rfl ?_
  refine s_aload_n 1 d_M_joins_91 rfl rfl ?_
  refine s_aload_n 1 d_M_joins_92 rfl rfl ?_
  refine s_getF (v := 50) d_M_joins_93 fl_M_35 rfl (sf_42 hF) (ff_35 hF) ?_
  refine s_iload 5 d_M_joins_96 rfl ?_
  obtain ⟨g1, h⟩ := h
  refine s_if_eq d_M_joins_98 rfl g1 (fun c => ?_) (fun c => ?_)
  · have h := h.1 c
    refine s_iconst d_M_joins_105 ?_
    refine wp_drop [1, 2, 3, 0, 4] rfl ?_
    exact h
  · have h := h.2 c
    refine s_iconst d_M_joins_101 ?_
    refine s_goto d_M_joins_102 rfl ?_
    refine wp_drop [1, 2, 3, 0, 4] rfl ?_
    exact h
theorem b_M_joins_106 {E : EV} {d : Nat} {Q : Option AV → St → Prop} {σ : St} (x1 x2 x3 x4 s0 s1 s2 : Int) (hF : Fix σ) (h : (sh σ s0 = some (10, 74)) ∧ (WMv E m_M_addsAll d [aP s0, aP s1, aI s2, aI (σ.1 42 10)] σ (fun σ1 => WP E m_M_joins (d + 1) 38 [(0, aP 42), (1, aI x1), (2, aI x2), (3, aI x3), (4, aI (x4 + 1))] [] σ1 Q))) : WP E m_M_joins (d + 1) 106 [(0, aP 42), (1, aI x1), (2, aI x2), (3, aI x3), (4, aI x4)] [aI s2, aP s1, aP s0] σ Q := by
  refine s_aload_n 0 d_M_joins_106 rfl rfl ?_
  refine s_getF (v := σ.1 42 10) d_M_joins_107 fl_M_189 rfl (sf_42 hF) rfl ?_
  obtain ⟨g2, h⟩ := h
  refine s_callV (as := [aP s1, aI s2, aI (σ.1 42 10)]) (ci := 10) d_M_joins_110 ok_M_addsAll lk_M_300 io_M_addsAll so_M_addsAll (by decide) rfl rfl rfl (Nat.le_of_ble_eq_true rfl) rfl g2 (WM.mono h ?_)
  rintro _ σ1 ⟨rfl, hp, h⟩
  show WP E m_M_joins (d + 1) 113 [(0, aP 42), (1, aI x1), (2, aI x2), (3, aI x3), (4, aI x4)] [] σ1 Q
  refine s_iinc 4 d_M_joins_113 rfl (by decide) rfl ?_
  refine s_goto d_M_joins_116 rfl ?_
  refine wp_drop [1, 2, 3, 4, 0] rfl ?_
  exact h
theorem d_M_signsOf_0 : decode m_M_signsOf.2.1 0 = .ok (.iload_n 1, 1) := by decide +kernel
theorem d_M_signsOf_1 : decode m_M_signsOf.2.1 1 = .ok (.iload_n 2, 1) := by decide +kernel
theorem d_M_signsOf_2 : decode m_M_signsOf.2.1 2 = .ok (.invokestatic 185, 3) := by decide +kernel
theorem d_M_signsOf_5 : decode m_M_signsOf.2.1 5 = .ok (.iconst 1, 1) := by decide +kernel
theorem d_M_signsOf_6 : decode m_M_signsOf.2.1 6 = .ok (.iadd, 1) := by decide +kernel
theorem d_M_signsOf_7 : decode m_M_signsOf.2.1 7 = .ok (.istore_n 3, 1) := by decide +kernel
theorem d_M_signsOf_8 : decode m_M_signsOf.2.1 8 = .ok (.aload_n 0, 1) := by decide +kernel
theorem d_M_signsOf_9 : decode m_M_signsOf.2.1 9 = .ok (.getfield 26, 3) := by decide +kernel
theorem d_M_signsOf_12 : decode m_M_signsOf.2.1 12 = .ok (.iload_n 3, 1) := by decide +kernel
theorem d_M_signsOf_13 : decode m_M_signsOf.2.1 13 = .ok (.iload_n 3, 1) := by decide +kernel
theorem d_M_signsOf_14 : decode m_M_signsOf.2.1 14 = .ok (.aload_n 0, 1) := by decide +kernel
theorem d_M_signsOf_15 : decode m_M_signsOf.2.1 15 = .ok (.getfield 26, 3) := by decide +kernel
theorem d_M_signsOf_18 : decode m_M_signsOf.2.1 18 = .ok (.iload_n 3, 1) := by decide +kernel
theorem d_M_signsOf_19 : decode m_M_signsOf.2.1 19 = .ok (.iconst 1, 1) := by decide +kernel
theorem d_M_signsOf_20 : decode m_M_signsOf.2.1 20 = .ok (.isub, 1) := by decide +kernel
theorem d_M_signsOf_21 : decode m_M_signsOf.2.1 21 = .ok (.iaload, 1) := by decide +kernel
theorem d_M_signsOf_22 : decode m_M_signsOf.2.1 22 = .ok (.iadd, 1) := by decide +kernel
theorem d_M_signsOf_23 : decode m_M_signsOf.2.1 23 = .ok (.invokestatic 202, 3) := by decide +kernel
theorem d_M_signsOf_26 : decode m_M_signsOf.2.1 26 = .ok (.ireturn, 1) := by decide +kernel
theorem b_M_signsOf_0 {E : EV} {d : Nat} {Q : Option AV → St → Prop} {σ : St} (x1 x2 : Int) (hF : Fix σ) (h : (WMi E m_M_placeOf d [aI x1, aI x2] σ (fun v1 σ1 => Fix σ1 ∧ (0 ≤ ((v1 + 1) - 1) ∧ ((v1 + 1) - 1) < 683) ∧ (WMi E m_M_signsIn d [aP 47, aI (v1 + 1), aI ((v1 + 1) + (σ1.1 47 ((v1 + 1) - 1)))] σ1 (fun v3 σ3 => Q (some (aI v3)) σ3))))) : WP E m_M_signsOf (d + 1) 0 [(0, aP 42), (1, aI x1), (2, aI x2)] [] σ Q := by
  refine s_iload_n 1 d_M_signsOf_0 rfl rfl ?_
  refine s_iload_n 2 d_M_signsOf_1 rfl rfl ?_
  refine s_callS (as := [aI x1, aI x2]) d_M_signsOf_2 ok_M_placeOf lk_M_185 to_M_placeOf rfl (Nat.le_of_ble_eq_true rfl) rfl (WM.mono h ?_)
  rintro _ σ1 ⟨v1, rfl, hp, h⟩
  obtain ⟨hF1, h⟩ := h
  show WP E m_M_signsOf (d + 1) 5 [(0, aP 42), (1, aI x1), (2, aI x2)] [aI v1] σ1 Q
  refine s_iconst d_M_signsOf_5 ?_
  refine s_iadd d_M_signsOf_6 ?_
  refine s_istore_n d_M_signsOf_7 rfl (by decide) rfl ?_
  refine s_aload_n 1 d_M_signsOf_8 rfl rfl ?_
  refine s_getF (v := 47) d_M_signsOf_9 fl_M_26 rfl (sf_42 hF1) (ff_32 hF1) ?_
  refine s_iload_n 0 d_M_signsOf_12 rfl rfl ?_
  refine s_iload_n 0 d_M_signsOf_13 rfl rfl ?_
  refine s_aload_n 1 d_M_signsOf_14 rfl rfl ?_
  refine s_getF (v := 47) d_M_signsOf_15 fl_M_26 rfl (sf_42 hF1) (ff_32 hF1) ?_
  refine s_iload_n 0 d_M_signsOf_18 rfl rfl ?_
  refine s_iconst d_M_signsOf_19 ?_
  refine s_isub d_M_signsOf_20 ?_
  obtain ⟨g2, h⟩ := h
  refine s_ialoadv (v := σ1.1 47 ((v1 + 1) - 1)) d_M_signsOf_21 ⟨_, sf_47 hF1, g2.1, g2.2, by have := g2.2; omega⟩ rfl ?_
  refine s_iadd d_M_signsOf_22 ?_
  refine s_callS (as := [aP 47, aI (v1 + 1), aI ((v1 + 1) + (σ1.1 47 ((v1 + 1) - 1)))]) d_M_signsOf_23 ok_M_signsIn lk_M_202 to_M_signsIn rfl (Nat.le_of_ble_eq_true rfl) rfl (WM.mono h ?_)
  rintro _ σ3 ⟨v3, rfl, hp, h⟩
  show WP E m_M_signsOf (d + 1) 26 [(3, aI (v1 + 1)), (0, aP 42), (1, aI x1), (2, aI x2)] [aI v3] σ3 Q
  exact s_ireturn d_M_signsOf_26 rfl h
theorem e_M_signsOf {E : EV} {d : Nat} {Q : Option AV → St → Prop} {σ : St} (x1 x2 : Int) (hF : Fix σ) (h : (WMi E m_M_placeOf d [aI x1, aI x2] σ (fun v1 σ1 => Fix σ1 ∧ (0 ≤ ((v1 + 1) - 1) ∧ ((v1 + 1) - 1) < 683) ∧ (WMi E m_M_signsIn d [aP 47, aI (v1 + 1), aI ((v1 + 1) + (σ1.1 47 ((v1 + 1) - 1)))] σ1 (fun v3 σ3 => Q (some (aI v3)) σ3))))) : WM E m_M_signsOf (d + 1) [aP 42, aI x1, aI x2] σ Q := s_meth (by decide) (Nat.le_of_ble_eq_true rfl) rfl (b_M_signsOf_0 x1 x2 hF h)
theorem d_M_signsIn_0 : decode m_M_signsIn.2.1 0 = .ok (.iconst 0, 1) := by decide +kernel
theorem d_M_signsIn_1 : decode m_M_signsIn.2.1 1 = .ok (.istore_n 3, 1) := by decide +kernel
theorem d_M_signsIn_2 : decode m_M_signsIn.2.1 2 = .ok (.iload_n 1, 1) := by decide +kernel
theorem d_M_signsIn_3 : decode m_M_signsIn.2.1 3 = .ok (.istore 4, 2) := by decide +kernel
theorem d_M_signsIn_5 : decode m_M_signsIn.2.1 5 = .ok (.iload 4, 2) := by decide +kernel
theorem d_M_signsIn_7 : decode m_M_signsIn.2.1 7 = .ok (.iload_n 2, 1) := by decide +kernel
theorem d_M_signsIn_8 : decode m_M_signsIn.2.1 8 = .ok (.if_icmp .ge 22, 3) := by decide +kernel
theorem d_M_signsIn_11 : decode m_M_signsIn.2.1 11 = .ok (.aload_n 0, 1) := by decide +kernel
theorem d_M_signsIn_12 : decode m_M_signsIn.2.1 12 = .ok (.iload 4, 2) := by decide +kernel
theorem d_M_signsIn_14 : decode m_M_signsIn.2.1 14 = .ok (.iaload, 1) := by decide +kernel
theorem d_M_signsIn_15 : decode m_M_signsIn.2.1 15 = .ok (.invokestatic 199, 3) := by decide +kernel
theorem d_M_signsIn_18 : decode m_M_signsIn.2.1 18 = .ok (.ifCond .eq 6, 3) := by decide +kernel
theorem d_M_signsIn_21 : decode m_M_signsIn.2.1 21 = .ok (.iinc 3 1, 3) := by decide +kernel
theorem d_M_signsIn_24 : decode m_M_signsIn.2.1 24 = .ok (.iinc 4 1, 3) := by decide +kernel
theorem d_M_signsIn_27 : decode m_M_signsIn.2.1 27 = .ok (.goto (-22), 3) := by decide +kernel
theorem d_M_signsIn_30 : decode m_M_signsIn.2.1 30 = .ok (.iload_n 3, 1) := by decide +kernel
theorem d_M_signsIn_31 : decode m_M_signsIn.2.1 31 = .ok (.ireturn, 1) := by decide +kernel
theorem b_M_signsIn_0 {E : EV} {d : Nat} {Q : Option AV → St → Prop} {σ : St} (x0 x1 x2 : Int) (h : WP E m_M_signsIn (d + 1) 5 [(0, aP x0), (2, aI x2), (3, aI 0), (4, aI x1)] [] σ Q) : WP E m_M_signsIn (d + 1) 0 [(0, aP x0), (1, aI x1), (2, aI x2)] [] σ Q := by
  refine s_iconst d_M_signsIn_0 ?_
  refine s_istore_n d_M_signsIn_1 rfl (by decide) rfl ?_
  refine s_iload_n 2 d_M_signsIn_2 rfl rfl ?_
  refine s_istore d_M_signsIn_3 (by decide) rfl ?_
  refine wp_drop [2, 4, 1, 0] rfl ?_
  exact h
theorem e_M_signsIn {E : EV} {d : Nat} {Q : Option AV → St → Prop} {σ : St} (x0 x1 x2 : Int) (h : WP E m_M_signsIn (d + 1) 5 [(0, aP x0), (2, aI x2), (3, aI 0), (4, aI x1)] [] σ Q) : WM E m_M_signsIn (d + 1) [aP x0, aI x1, aI x2] σ Q := s_meth (by decide) (Nat.le_of_ble_eq_true rfl) rfl (b_M_signsIn_0 x0 x1 x2 h)
theorem b_M_signsIn_5 {E : EV} {d : Nat} {Q : Option AV → St → Prop} {σ : St} (x0 x2 x3 x4 : Int) (h : (rI x4) ∧ (rI x2) ∧ ((x2 ≤ x4 → Q (some (aI x3)) σ) ∧ (¬ x2 ≤ x4 → (inb σ x0 20 x4) ∧ (WMi E m_M_isSign d [aI (σ.1 x0 x4)] σ (fun v4 σ4 => (rI v4) ∧ ((v4 = 0 → WP E m_M_signsIn (d + 1) 24 [(0, aP x0), (2, aI x2), (3, aI x3), (4, aI x4)] [] σ4 Q) ∧ (¬ v4 = 0 → WP E m_M_signsIn (d + 1) 24 [(0, aP x0), (2, aI x2), (3, aI (x3 + 1)), (4, aI x4)] [] σ4 Q))))))) : WP E m_M_signsIn (d + 1) 5 [(0, aP x0), (2, aI x2), (3, aI x3), (4, aI x4)] [] σ Q := by
  refine s_iload 3 d_M_signsIn_5 rfl ?_
  refine s_iload_n 1 d_M_signsIn_7 rfl rfl ?_
  obtain ⟨g1, h⟩ := h
  obtain ⟨g2, h⟩ := h
  refine s_icmp_ge d_M_signsIn_8 rfl g1 g2 (fun c => ?_) (fun c => ?_)
  · have h := h.1 c
    refine s_iload_n 2 d_M_signsIn_30 rfl rfl ?_
    exact s_ireturn d_M_signsIn_31 rfl h
  · have h := h.2 c
    refine s_aload_n 0 d_M_signsIn_11 rfl rfl ?_
    refine s_iload 3 d_M_signsIn_12 rfl ?_
    obtain ⟨g3, h⟩ := h
    refine s_ialoadv (v := σ.1 x0 x4) d_M_signsIn_14 g3 rfl ?_
    refine s_callS (as := [aI (σ.1 x0 x4)]) d_M_signsIn_15 ok_M_isSign lk_M_199 to_M_isSign rfl (Nat.le_of_ble_eq_true rfl) rfl (WM.mono h ?_)
    rintro _ σ4 ⟨v4, rfl, hp, h⟩
    show WP E m_M_signsIn (d + 1) 18 [(0, aP x0), (2, aI x2), (3, aI x3), (4, aI x4)] [aI v4] σ4 Q
    obtain ⟨g5, h⟩ := h
    refine s_if_eq d_M_signsIn_18 rfl g5 (fun c => ?_) (fun c => ?_)
    · have h := h.1 c
      exact h
    · have h := h.2 c
      refine s_iinc 2 d_M_signsIn_21 rfl (by decide) rfl ?_
      refine wp_drop [1, 2, 0, 3] rfl ?_
      exact h
theorem b_M_signsIn_24 {E : EV} {d : Nat} {Q : Option AV → St → Prop} {σ : St} (x0 x2 x3 x4 : Int) (h : WP E m_M_signsIn (d + 1) 5 [(0, aP x0), (2, aI x2), (3, aI x3), (4, aI (x4 + 1))] [] σ Q) : WP E m_M_signsIn (d + 1) 24 [(0, aP x0), (2, aI x2), (3, aI x3), (4, aI x4)] [] σ Q := by
  refine s_iinc 3 d_M_signsIn_24 rfl (by decide) rfl ?_
  refine s_goto d_M_signsIn_27 rfl ?_
  refine wp_drop [1, 2, 3, 0] rfl ?_
  exact h
theorem d_M_removes_0 : decode m_M_removes.2.1 0 = .ok (.iload_n 1, 1) := by decide +kernel
theorem d_M_removes_1 : decode m_M_removes.2.1 1 = .ok (.iload_n 2, 1) := by decide +kernel
theorem d_M_removes_2 : decode m_M_removes.2.1 2 = .ok (.iconst 1, 1) := by decide +kernel
theorem d_M_removes_3 : decode m_M_removes.2.1 3 = .ok (.iadd, 1) := by decide +kernel
theorem d_M_removes_4 : decode m_M_removes.2.1 4 = .ok (.invokestatic 185, 3) := by decide +kernel
theorem d_M_removes_7 : decode m_M_removes.2.1 7 = .ok (.istore_n 3, 1) := by decide +kernel
theorem d_M_removes_8 : decode m_M_removes.2.1 8 = .ok (.iload_n 3, 1) := by decide +kernel
theorem d_M_removes_9 : decode m_M_removes.2.1 9 = .ok (.iload_n 1, 1) := by decide +kernel
theorem d_M_removes_10 : decode m_M_removes.2.1 10 = .ok (.aload_n 0, 1) := by decide +kernel
theorem d_M_removes_11 : decode m_M_removes.2.1 11 = .ok (.iload_n 1, 1) := by decide +kernel
theorem d_M_removes_12 : decode m_M_removes.2.1 12 = .ok (.invokevirtual 178, 3) := by decide +kernel
theorem d_M_removes_15 : decode m_M_removes.2.1 15 = .ok (.invokestatic 185, 3) := by decide +kernel
theorem d_M_removes_18 : decode m_M_removes.2.1 18 = .ok (.if_icmp .ge 24, 3) := by decide +kernel
theorem d_M_removes_21 : decode m_M_removes.2.1 21 = .ok (.aload_n 0, 1) := by decide +kernel
theorem d_M_removes_22 : decode m_M_removes.2.1 22 = .ok (.getfield 26, 3) := by decide +kernel
theorem d_M_removes_25 : decode m_M_removes.2.1 25 = .ok (.iload_n 3, 1) := by decide +kernel
theorem d_M_removes_26 : decode m_M_removes.2.1 26 = .ok (.bipush 21, 2) := by decide +kernel
theorem d_M_removes_28 : decode m_M_removes.2.1 28 = .ok (.isub, 1) := by decide +kernel
theorem d_M_removes_29 : decode m_M_removes.2.1 29 = .ok (.aload_n 0, 1) := by decide +kernel
theorem d_M_removes_30 : decode m_M_removes.2.1 30 = .ok (.getfield 26, 3) := by decide +kernel
theorem d_M_removes_33 : decode m_M_removes.2.1 33 = .ok (.iload_n 3, 1) := by decide +kernel
theorem d_M_removes_34 : decode m_M_removes.2.1 34 = .ok (.iaload, 1) := by decide +kernel
theorem d_M_removes_35 : decode m_M_removes.2.1 35 = .ok (.iastore, 1) := by decide +kernel
theorem d_M_removes_36 : decode m_M_removes.2.1 36 = .ok (.iinc 3 1, 3) := by decide +kernel
theorem d_M_removes_39 : decode m_M_removes.2.1 39 = .ok (.goto (-31), 3) := by decide +kernel
theorem d_M_removes_42 : decode m_M_removes.2.1 42 = .ok (.aload_n 0, 1) := by decide +kernel
theorem d_M_removes_43 : decode m_M_removes.2.1 43 = .ok (.getfield 26, 3) := by decide +kernel
theorem d_M_removes_46 : decode m_M_removes.2.1 46 = .ok (.iconst 3, 1) := by decide +kernel
theorem d_M_removes_47 : decode m_M_removes.2.1 47 = .ok (.sipush 170, 3) := by decide +kernel
theorem d_M_removes_50 : decode m_M_removes.2.1 50 = .ok (.iload_n 1, 1) := by decide +kernel
theorem d_M_removes_51 : decode m_M_removes.2.1 51 = .ok (.imul, 1) := by decide +kernel
theorem d_M_removes_52 : decode m_M_removes.2.1 52 = .ok (.iadd, 1) := by decide +kernel
theorem d_M_removes_53 : decode m_M_removes.2.1 53 = .ok (.dup2, 1) := by decide +kernel
theorem d_M_removes_54 : decode m_M_removes.2.1 54 = .ok (.iaload, 1) := by decide +kernel
theorem d_M_removes_55 : decode m_M_removes.2.1 55 = .ok (.iconst 1, 1) := by decide +kernel
theorem d_M_removes_56 : decode m_M_removes.2.1 56 = .ok (.isub, 1) := by decide +kernel
theorem d_M_removes_57 : decode m_M_removes.2.1 57 = .ok (.iastore, 1) := by decide +kernel
theorem d_M_removes_58 : decode m_M_removes.2.1 58 = .ok (.return_, 1) := by decide +kernel
theorem b_M_removes_0 {E : EV} {d : Nat} {Q : Option AV → St → Prop} {σ : St} (x1 x2 : Int) (h : (WMi E m_M_placeOf d [aI x1, aI (x2 + 1)] σ (fun v1 σ1 => WP E m_M_removes (d + 1) 8 [(0, aP 42), (1, aI x1), (3, aI v1)] [] σ1 Q))) : WP E m_M_removes (d + 1) 0 [(0, aP 42), (1, aI x1), (2, aI x2)] [] σ Q := by
  refine s_iload_n 1 d_M_removes_0 rfl rfl ?_
  refine s_iload_n 2 d_M_removes_1 rfl rfl ?_
  refine s_iconst d_M_removes_2 ?_
  refine s_iadd d_M_removes_3 ?_
  refine s_callS (as := [aI x1, aI (x2 + 1)]) d_M_removes_4 ok_M_placeOf lk_M_185 to_M_placeOf rfl (Nat.le_of_ble_eq_true rfl) rfl (WM.mono h ?_)
  rintro _ σ1 ⟨v1, rfl, hp, h⟩
  show WP E m_M_removes (d + 1) 7 [(0, aP 42), (1, aI x1), (2, aI x2)] [aI v1] σ1 Q
  refine s_istore_n d_M_removes_7 rfl (by decide) rfl ?_
  refine wp_drop [1, 2, 0] rfl ?_
  exact h
theorem e_M_removes {E : EV} {d : Nat} {Q : Option AV → St → Prop} {σ : St} (x1 x2 : Int) (h : (WMi E m_M_placeOf d [aI x1, aI (x2 + 1)] σ (fun v1 σ1 => WP E m_M_removes (d + 1) 8 [(0, aP 42), (1, aI x1), (3, aI v1)] [] σ1 Q))) : WM E m_M_removes (d + 1) [aP 42, aI x1, aI x2] σ Q := s_meth (by decide) (Nat.le_of_ble_eq_true rfl) rfl (b_M_removes_0 x1 x2 h)
theorem b_M_removes_8 {E : EV} {d : Nat} {Q : Option AV → St → Prop} {σ : St} (x1 x3 : Int) (hF : Fix σ) (h : (WMi E m_M_squaresOf d [aP 42, aI x1] σ (fun v1 σ1 => Fix σ1 ∧ (WMi E m_M_placeOf d [aI x1, aI v1] σ1 (fun v2 σ2 => Fix σ2 ∧ (rI x3) ∧ (rI v2) ∧ ((v2 ≤ x3 → (0 ≤ (3 + (170 * x1)) ∧ (3 + (170 * x1)) < 683) ∧ (0 ≤ (3 + (170 * x1)) ∧ (3 + (170 * x1)) < 683) ∧ Q none (wr σ2 47 (3 + (170 * x1)) ((σ2.1 47 (3 + (170 * x1))) - 1))) ∧ (¬ v2 ≤ x3 → (0 ≤ x3 ∧ x3 < 683) ∧ (0 ≤ (x3 - 21) ∧ (x3 - 21) < 683) ∧ WP E m_M_removes (d + 1) 8 [(0, aP 42), (1, aI x1), (3, aI (x3 + 1))] [] (wr σ2 47 (x3 - 21) (σ2.1 47 x3)) Q))))))) : WP E m_M_removes (d + 1) 8 [(0, aP 42), (1, aI x1), (3, aI x3)] [] σ Q := by
  refine s_iload_n 2 d_M_removes_8 rfl rfl ?_
  refine s_iload_n 1 d_M_removes_9 rfl rfl ?_
  refine s_aload_n 0 d_M_removes_10 rfl rfl ?_
  refine s_iload_n 1 d_M_removes_11 rfl rfl ?_
  refine s_callV (as := [aI x1]) (ci := 10) d_M_removes_12 ok_M_squaresOf lk_M_178 io_M_squaresOf so_M_squaresOf (by decide) rfl rfl rfl (Nat.le_of_ble_eq_true rfl) rfl (sf_42 hF) (WM.mono h ?_)
  rintro _ σ1 ⟨v1, rfl, hp, h⟩
  obtain ⟨hF1, h⟩ := h
  show WP E m_M_removes (d + 1) 15 [(0, aP 42), (1, aI x1), (3, aI x3)] [aI v1, aI x1, aI x3] σ1 Q
  refine s_callS (as := [aI x1, aI v1]) d_M_removes_15 ok_M_placeOf lk_M_185 to_M_placeOf rfl (Nat.le_of_ble_eq_true rfl) rfl (WM.mono h ?_)
  rintro _ σ2 ⟨v2, rfl, hp, h⟩
  obtain ⟨hF2, h⟩ := h
  show WP E m_M_removes (d + 1) 18 [(0, aP 42), (1, aI x1), (3, aI x3)] [aI v2, aI x3] σ2 Q
  obtain ⟨g3, h⟩ := h
  obtain ⟨g4, h⟩ := h
  refine s_icmp_ge d_M_removes_18 rfl g3 g4 (fun c => ?_) (fun c => ?_)
  · have h := h.1 c
    refine s_aload_n 0 d_M_removes_42 rfl rfl ?_
    refine s_getF (v := 47) d_M_removes_43 fl_M_26 rfl (sf_42 hF2) (ff_32 hF2) ?_
    refine s_iconst d_M_removes_46 ?_
    refine s_sipush d_M_removes_47 (by decide) ?_
    refine s_iload_n 1 d_M_removes_50 rfl rfl ?_
    refine s_imul d_M_removes_51 ?_
    refine s_iadd d_M_removes_52 ?_
    refine s_dup2 d_M_removes_53 (Nat.ne_of_beq_eq_false rfl) (Nat.ne_of_beq_eq_false rfl) ?_
    obtain ⟨g5, h⟩ := h
    refine s_ialoadv (v := σ2.1 47 (3 + (170 * x1))) d_M_removes_54 ⟨_, sf_47 hF2, g5.1, g5.2, by have := g5.2; omega⟩ rfl ?_
    refine s_iconst d_M_removes_55 ?_
    refine s_isub d_M_removes_56 ?_
    obtain ⟨g6, h⟩ := h
    refine s_iastore d_M_removes_57 ⟨_, sf_47 hF2, g6.1, g6.2, by have := g6.2; omega⟩ ?_
    exact s_return d_M_removes_58 rfl h
  · have h := h.2 c
    refine s_aload_n 0 d_M_removes_21 rfl rfl ?_
    refine s_getF (v := 47) d_M_removes_22 fl_M_26 rfl (sf_42 hF2) (ff_32 hF2) ?_
    refine s_iload_n 2 d_M_removes_25 rfl rfl ?_
    refine s_bipush d_M_removes_26 (by decide) ?_
    refine s_isub d_M_removes_28 ?_
    refine s_aload_n 0 d_M_removes_29 rfl rfl ?_
    refine s_getF (v := 47) d_M_removes_30 fl_M_26 rfl (sf_42 hF2) (ff_32 hF2) ?_
    refine s_iload_n 2 d_M_removes_33 rfl rfl ?_
    obtain ⟨g7, h⟩ := h
    refine s_ialoadv (v := σ2.1 47 x3) d_M_removes_34 ⟨_, sf_47 hF2, g7.1, g7.2, by have := g7.2; omega⟩ rfl ?_
    obtain ⟨g8, h⟩ := h
    refine s_iastore d_M_removes_35 ⟨_, sf_47 hF2, g8.1, g8.2, by have := g8.2; omega⟩ ?_
    refine s_iinc 2 d_M_removes_36 rfl (by decide) rfl ?_
    refine s_goto d_M_removes_39 rfl ?_
    refine wp_drop [1, 2, 0] rfl ?_
    exact h
theorem d_M_part_0 : decode m_M_part.2.1 0 = .ok (.aload_n 0, 1) := by decide +kernel
theorem d_M_part_1 : decode m_M_part.2.1 1 = .ok (.iload_n 1, 1) := by decide +kernel
theorem d_M_part_2 : decode m_M_part.2.1 2 = .ok (.iload_n 2, 1) := by decide +kernel
theorem d_M_part_3 : decode m_M_part.2.1 3 = .ok (.invokevirtual 206, 3) := by decide +kernel
theorem d_M_part_6 : decode m_M_part.2.1 6 = .ok (.ifCond .eq 13, 3) := by decide +kernel
theorem d_M_part_9 : decode m_M_part.2.1 9 = .ok (.aload_n 0, 1) := by decide +kernel
theorem d_M_part_10 : decode m_M_part.2.1 10 = .ok (.iload_n 1, 1) := by decide +kernel
theorem d_M_part_11 : decode m_M_part.2.1 11 = .ok (.invokevirtual 178, 3) := by decide +kernel
theorem d_M_part_14 : decode m_M_part.2.1 14 = .ok (.bipush 8, 2) := by decide +kernel
theorem d_M_part_16 : decode m_M_part.2.1 16 = .ok (.if_icmp .ne 5, 3) := by decide +kernel
theorem d_M_part_19 : decode m_M_part.2.1 19 = .ok (.iconst 0, 1) := by decide +kernel
theorem d_M_part_20 : decode m_M_part.2.1 20 = .ok (.ireturn, 1) := by decide +kernel
theorem d_M_part_21 : decode m_M_part.2.1 21 = .ok (.aload_n 0, 1) := by decide +kernel
theorem d_M_part_22 : decode m_M_part.2.1 22 = .ok (.iload_n 1, 1) := by decide +kernel
theorem d_M_part_23 : decode m_M_part.2.1 23 = .ok (.iload_n 2, 1) := by decide +kernel
theorem d_M_part_24 : decode m_M_part.2.1 24 = .ok (.invokevirtual 210, 3) := by decide +kernel
theorem d_M_part_27 : decode m_M_part.2.1 27 = .ok (.aload_n 0, 1) := by decide +kernel
theorem d_M_part_28 : decode m_M_part.2.1 28 = .ok (.getfield 35, 3) := by decide +kernel
theorem d_M_part_31 : decode m_M_part.2.1 31 = .ok (.iconst 0, 1) := by decide +kernel
theorem d_M_part_32 : decode m_M_part.2.1 32 = .ok (.iaload, 1) := by decide +kernel
theorem d_M_part_33 : decode m_M_part.2.1 33 = .ok (.invokestatic 199, 3) := by decide +kernel
theorem d_M_part_36 : decode m_M_part.2.1 36 = .ok (.ifCond .eq 5, 3) := by decide +kernel
theorem d_M_part_39 : decode m_M_part.2.1 39 = .ok (.iconst 0, 1) := by decide +kernel
theorem d_M_part_40 : decode m_M_part.2.1 40 = .ok (.ireturn, 1) := by decide +kernel
theorem d_M_part_41 : decode m_M_part.2.1 41 = .ok (.aload_n 0, 1) := by decide +kernel
theorem d_M_part_42 : decode m_M_part.2.1 42 = .ok (.invokevirtual 290, 3) := by decide +kernel
theorem d_M_part_45 : decode m_M_part.2.1 45 = .ok (.aload_n 0, 1) := by decide +kernel
theorem d_M_part_46 : decode m_M_part.2.1 46 = .ok (.iload_n 1, 1) := by decide +kernel
theorem d_M_part_47 : decode m_M_part.2.1 47 = .ok (.iload_n 2, 1) := by decide +kernel
theorem d_M_part_48 : decode m_M_part.2.1 48 = .ok (.iconst 1, 1) := by decide +kernel
theorem d_M_part_49 : decode m_M_part.2.1 49 = .ok (.iadd, 1) := by decide +kernel
theorem d_M_part_50 : decode m_M_part.2.1 50 = .ok (.invokevirtual 316, 3) := by decide +kernel
theorem d_M_part_53 : decode m_M_part.2.1 53 = .ok (.aload_n 0, 1) := by decide +kernel
theorem d_M_part_54 : decode m_M_part.2.1 54 = .ok (.getfield 35, 3) := by decide +kernel
theorem d_M_part_57 : decode m_M_part.2.1 57 = .ok (.iconst 1, 1) := by decide +kernel
theorem d_M_part_58 : decode m_M_part.2.1 58 = .ok (.invokestatic 296, 3) := by decide +kernel
theorem d_M_part_61 : decode m_M_part.2.1 61 = .ok (.istore_n 3, 1) := by decide +kernel
theorem d_M_part_62 : decode m_M_part.2.1 62 = .ok (.aload_n 0, 1) := by decide +kernel
theorem d_M_part_63 : decode m_M_part.2.1 63 = .ok (.invokevirtual 293, 3) := by decide +kernel
theorem d_M_part_66 : decode m_M_part.2.1 66 = .ok (.aload_n 0, 1) := by decide +kernel
theorem d_M_part_67 : decode m_M_part.2.1 67 = .ok (.aload_n 0, 1) := by decide +kernel
theorem d_M_part_68 : decode m_M_part.2.1 68 = .ok (.getfield 35, 3) := by decide +kernel
theorem d_M_part_71 : decode m_M_part.2.1 71 = .ok (.iconst 1, 1) := by decide +kernel
theorem d_M_part_72 : decode m_M_part.2.1 72 = .ok (.iload_n 3, 1) := by decide +kernel
theorem d_M_part_73 : decode m_M_part.2.1 73 = .ok (.invokevirtual 300, 3) := by decide +kernel
theorem d_M_part_76 : decode m_M_part.2.1 76 = .ok (.aload_n 0, 1) := by decide +kernel
theorem d_M_part_77 : decode m_M_part.2.1 77 = .ok (.iload_n 1, 1) := by decide +kernel
theorem d_M_part_78 : decode m_M_part.2.1 78 = .ok (.iload_n 2, 1) := by decide +kernel
theorem d_M_part_79 : decode m_M_part.2.1 79 = .ok (.invokevirtual 304, 3) := by decide +kernel
theorem d_M_part_82 : decode m_M_part.2.1 82 = .ok (.aload_n 0, 1) := by decide +kernel
theorem d_M_part_83 : decode m_M_part.2.1 83 = .ok (.invokevirtual 293, 3) := by decide +kernel
theorem d_M_part_86 : decode m_M_part.2.1 86 = .ok (.aload_n 0, 1) := by decide +kernel
theorem d_M_part_87 : decode m_M_part.2.1 87 = .ok (.getfield 35, 3) := by decide +kernel
theorem d_M_part_90 : decode m_M_part.2.1 90 = .ok (.iconst 0, 1) := by decide +kernel
theorem d_M_part_91 : decode m_M_part.2.1 91 = .ok (.iaload, 1) := by decide +kernel
theorem d_M_part_92 : decode m_M_part.2.1 92 = .ok (.invokestatic 182, 3) := by decide +kernel
theorem d_M_part_95 : decode m_M_part.2.1 95 = .ok (.iconst 2, 1) := by decide +kernel
theorem d_M_part_96 : decode m_M_part.2.1 96 = .ok (.if_icmp .le 15, 3) := by decide +kernel
theorem d_M_part_99 : decode m_M_part.2.1 99 = .ok (.aload_n 0, 1) := by decide +kernel
theorem d_M_part_100 : decode m_M_part.2.1 100 = .ok (.aload_n 0, 1) := by decide +kernel
theorem d_M_part_101 : decode m_M_part.2.1 101 = .ok (.getfield 35, 3) := by decide +kernel
theorem d_M_part_104 : decode m_M_part.2.1 104 = .ok (.iconst 0, 1) := by decide +kernel
theorem d_M_part_105 : decode m_M_part.2.1 105 = .ok (.iaload, 1) := by decide +kernel
theorem d_M_part_106 : decode m_M_part.2.1 106 = .ok (.iconst 1, 1) := by decide +kernel
theorem d_M_part_107 : decode m_M_part.2.1 107 = .ok (.isub, 1) := by decide +kernel
theorem d_M_part_108 : decode m_M_part.2.1 108 = .ok (.invokevirtual 195, 3) := by decide +kernel
theorem d_M_part_111 : decode m_M_part.2.1 111 = .ok (.aload_n 0, 1) := by decide +kernel
theorem d_M_part_112 : decode m_M_part.2.1 112 = .ok (.aload_n 0, 1) := by decide +kernel
theorem d_M_part_113 : decode m_M_part.2.1 113 = .ok (.getfield 35, 3) := by decide +kernel
theorem d_M_part_116 : decode m_M_part.2.1 116 = .ok (.iload_n 3, 1) := by decide +kernel
theorem d_M_part_117 : decode m_M_part.2.1 117 = .ok (.aload_n 0, 1) := by decide +kernel
theorem d_M_part_118 : decode m_M_part.2.1 118 = .ok (.getfield 189, 3) := by decide +kernel
theorem d_M_part_121 : decode m_M_part.2.1 121 = .ok (.invokevirtual 300, 3) := by decide +kernel
theorem d_M_part_124 : decode m_M_part.2.1 124 = .ok (.aload_n 0, 1) := by decide +kernel
theorem d_M_part_125 : decode m_M_part.2.1 125 = .ok (.iload_n 1, 1) := by decide +kernel
theorem d_M_part_126 : decode m_M_part.2.1 126 = .ok (.iload_n 2, 1) := by decide +kernel
theorem d_M_part_127 : decode m_M_part.2.1 127 = .ok (.iconst 1, 1) := by decide +kernel
theorem d_M_part_128 : decode m_M_part.2.1 128 = .ok (.iadd, 1) := by decide +kernel
theorem d_M_part_129 : decode m_M_part.2.1 129 = .ok (.invokevirtual 304, 3) := by decide +kernel
theorem d_M_part_132 : decode m_M_part.2.1 132 = .ok (.iconst 1, 1) := by decide +kernel
theorem d_M_part_133 : decode m_M_part.2.1 133 = .ok (.ireturn, 1) := by decide +kernel
theorem b_M_part_0 {E : EV} {d : Nat} {Q : Option AV → St → Prop} {σ : St} (x1 x2 : Int) (hF : Fix σ) (h : (WMi E m_M_isSquare d [aP 42, aI x1, aI x2] σ (fun v1 σ1 => Fix σ1 ∧ (rI v1) ∧ ((v1 = 0 → Q (some (aI 0)) σ1) ∧ (¬ v1 = 0 → (WMi E m_M_squaresOf d [aP 42, aI x1] σ1 (fun v3 σ3 => Fix σ3 ∧ (rI v3) ∧ ((¬ v3 = 8 → (WMv E m_M_takes d [aP 42, aI x1, aI x2] σ3 (fun σ5 => Fix σ5 ∧ (WMi E m_M_isSign d [aI (σ5.1 50 0)] σ5 (fun v6 σ6 => Fix σ6 ∧ (rI v6) ∧ ((v6 = 0 → (WMv E m_M_keeps d [aP 42] σ6 (fun σ8 => Fix σ8 ∧ (WMv E m_M_makesRoom d [aP 42, aI x1, aI (x2 + 1)] σ8 (fun σ9 => Fix σ9 ∧ (WMi E m_M_endOf d [aP 50, aI 1] σ9 (fun v10 σ10 => Fix σ10 ∧ (WMv E m_M_opens d [aP 42] σ10 (fun σ11 => Fix σ11 ∧ (WMv E m_M_addsAll d [aP 42, aP 50, aI 1, aI v10] σ11 (fun σ12 => Fix σ12 ∧ (WMv E m_M_lays d [aP 42, aI x1, aI x2] σ12 (fun σ13 => Fix σ13 ∧ (WMv E m_M_opens d [aP 42] σ13 (fun σ14 => Fix σ14 ∧ (WMi E m_M_partsOf d [aI (σ14.1 50 0)] σ14 (fun v15 σ15 => Fix σ15 ∧ (rI v15) ∧ ((v15 ≤ 2 → WP E m_M_part (d + 1) 111 [(0, aP 42), (1, aI x1), (2, aI x2), (3, aI v10)] [] σ15 Q) ∧ (¬ v15 ≤ 2 → (WMv E m_M_adds d [aP 42, aI ((σ15.1 50 0) - 1)] σ15 (fun σ17 => WP E m_M_part (d + 1) 111 [(0, aP 42), (1, aI x1), (2, aI x2), (3, aI v10)] [] σ17 Q))))))))))))))))))))) ∧ (¬ v6 = 0 → Q (some (aI 0)) σ6))))))) ∧ (v3 = 8 → Q (some (aI 0)) σ3))))))))) : WP E m_M_part (d + 1) 0 [(0, aP 42), (1, aI x1), (2, aI x2)] [] σ Q := by
  refine s_aload_n 0 d_M_part_0 rfl rfl ?_
  refine s_iload_n 1 d_M_part_1 rfl rfl ?_
  refine s_iload_n 2 d_M_part_2 rfl rfl ?_
  refine s_callV (as := [aI x1, aI x2]) (ci := 10) d_M_part_3 ok_M_isSquare lk_M_206 io_M_isSquare so_M_isSquare (by decide) rfl rfl rfl (Nat.le_of_ble_eq_true rfl) rfl (sf_42 hF) (WM.mono h ?_)
  rintro _ σ1 ⟨v1, rfl, hp, h⟩
  obtain ⟨hF1, h⟩ := h
  show WP E m_M_part (d + 1) 6 [(0, aP 42), (1, aI x1), (2, aI x2)] [aI v1] σ1 Q
  obtain ⟨g2, h⟩ := h
  refine s_if_eq d_M_part_6 rfl g2 (fun c => ?_) (fun c => ?_)
  · have h := h.1 c
    refine s_iconst d_M_part_19 ?_
    exact s_zreturn d_M_part_20 rfl (by decide) h
  · have h := h.2 c
    refine s_aload_n 0 d_M_part_9 rfl rfl ?_
    refine s_iload_n 1 d_M_part_10 rfl rfl ?_
    refine s_callV (as := [aI x1]) (ci := 10) d_M_part_11 ok_M_squaresOf lk_M_178 io_M_squaresOf so_M_squaresOf (by decide) rfl rfl rfl (Nat.le_of_ble_eq_true rfl) rfl (sf_42 hF1) (WM.mono h ?_)
    rintro _ σ3 ⟨v3, rfl, hp, h⟩
    obtain ⟨hF3, h⟩ := h
    show WP E m_M_part (d + 1) 14 [(0, aP 42), (1, aI x1), (2, aI x2)] [aI v3] σ3 Q
    refine s_bipush d_M_part_14 (by decide) ?_
    obtain ⟨g4, h⟩ := h
    refine s_icmp_ne d_M_part_16 rfl g4 (by decide) (fun c => ?_) (fun c => ?_)
    · have h := h.1 c
      refine s_aload_n 0 d_M_part_21 rfl rfl ?_
      refine s_iload_n 1 d_M_part_22 rfl rfl ?_
      refine s_iload_n 2 d_M_part_23 rfl rfl ?_
      refine s_callV (as := [aI x1, aI x2]) (ci := 10) d_M_part_24 ok_M_takes lk_M_210 io_M_takes so_M_takes (by decide) rfl rfl rfl (Nat.le_of_ble_eq_true rfl) rfl (sf_42 hF3) (WM.mono h ?_)
      rintro _ σ5 ⟨rfl, hp, h⟩
      obtain ⟨hF5, h⟩ := h
      show WP E m_M_part (d + 1) 27 [(0, aP 42), (1, aI x1), (2, aI x2)] [] σ5 Q
      refine s_aload_n 0 d_M_part_27 rfl rfl ?_
      refine s_getF (v := 50) d_M_part_28 fl_M_35 rfl (sf_42 hF5) (ff_35 hF5) ?_
      refine s_iconst d_M_part_31 ?_
      refine s_ialoadv (v := σ5.1 50 0) d_M_part_32 ⟨_, sf_50 hF5, by decide, by decide, by decide⟩ rfl ?_
      refine s_callS (as := [aI (σ5.1 50 0)]) d_M_part_33 ok_M_isSign lk_M_199 to_M_isSign rfl (Nat.le_of_ble_eq_true rfl) rfl (WM.mono h ?_)
      rintro _ σ6 ⟨v6, rfl, hp, h⟩
      obtain ⟨hF6, h⟩ := h
      show WP E m_M_part (d + 1) 36 [(0, aP 42), (1, aI x1), (2, aI x2)] [aI v6] σ6 Q
      obtain ⟨g7, h⟩ := h
      refine s_if_eq d_M_part_36 rfl g7 (fun c => ?_) (fun c => ?_)
      · have h := h.1 c
        refine s_aload_n 0 d_M_part_41 rfl rfl ?_
        refine s_callV (as := []) (ci := 10) d_M_part_42 ok_M_keeps lk_M_290 io_M_keeps so_M_keeps (by decide) rfl rfl rfl (Nat.le_of_ble_eq_true rfl) rfl (sf_42 hF6) (WM.mono h ?_)
        rintro _ σ8 ⟨rfl, hp, h⟩
        obtain ⟨hF8, h⟩ := h
        show WP E m_M_part (d + 1) 45 [(0, aP 42), (1, aI x1), (2, aI x2)] [] σ8 Q
        refine s_aload_n 0 d_M_part_45 rfl rfl ?_
        refine s_iload_n 1 d_M_part_46 rfl rfl ?_
        refine s_iload_n 2 d_M_part_47 rfl rfl ?_
        refine s_iconst d_M_part_48 ?_
        refine s_iadd d_M_part_49 ?_
        refine s_callV (as := [aI x1, aI (x2 + 1)]) (ci := 10) d_M_part_50 ok_M_makesRoom lk_M_316 io_M_makesRoom so_M_makesRoom (by decide) rfl rfl rfl (Nat.le_of_ble_eq_true rfl) rfl (sf_42 hF8) (WM.mono h ?_)
        rintro _ σ9 ⟨rfl, hp, h⟩
        obtain ⟨hF9, h⟩ := h
        show WP E m_M_part (d + 1) 53 [(0, aP 42), (1, aI x1), (2, aI x2)] [] σ9 Q
        refine s_aload_n 0 d_M_part_53 rfl rfl ?_
        refine s_getF (v := 50) d_M_part_54 fl_M_35 rfl (sf_42 hF9) (ff_35 hF9) ?_
        refine s_iconst d_M_part_57 ?_
        refine s_callS (as := [aP 50, aI 1]) d_M_part_58 ok_M_endOf lk_M_296 to_M_endOf rfl (Nat.le_of_ble_eq_true rfl) rfl (WM.mono h ?_)
        rintro _ σ10 ⟨v10, rfl, hp, h⟩
        obtain ⟨hF10, h⟩ := h
        show WP E m_M_part (d + 1) 61 [(0, aP 42), (1, aI x1), (2, aI x2)] [aI v10] σ10 Q
        refine s_istore_n d_M_part_61 rfl (by decide) rfl ?_
        refine s_aload_n 1 d_M_part_62 rfl rfl ?_
        refine s_callV (as := []) (ci := 10) d_M_part_63 ok_M_opens lk_M_293 io_M_opens so_M_opens (by decide) rfl rfl rfl (Nat.le_of_ble_eq_true rfl) rfl (sf_42 hF10) (WM.mono h ?_)
        rintro _ σ11 ⟨rfl, hp, h⟩
        obtain ⟨hF11, h⟩ := h
        show WP E m_M_part (d + 1) 66 [(3, aI v10), (0, aP 42), (1, aI x1), (2, aI x2)] [] σ11 Q
        refine s_aload_n 1 d_M_part_66 rfl rfl ?_
        refine s_aload_n 1 d_M_part_67 rfl rfl ?_
        refine s_getF (v := 50) d_M_part_68 fl_M_35 rfl (sf_42 hF11) (ff_35 hF11) ?_
        refine s_iconst d_M_part_71 ?_
        refine s_iload_n 0 d_M_part_72 rfl rfl ?_
        refine s_callV (as := [aP 50, aI 1, aI v10]) (ci := 10) d_M_part_73 ok_M_addsAll lk_M_300 io_M_addsAll so_M_addsAll (by decide) rfl rfl rfl (Nat.le_of_ble_eq_true rfl) rfl (sf_42 hF11) (WM.mono h ?_)
        rintro _ σ12 ⟨rfl, hp, h⟩
        obtain ⟨hF12, h⟩ := h
        show WP E m_M_part (d + 1) 76 [(3, aI v10), (0, aP 42), (1, aI x1), (2, aI x2)] [] σ12 Q
        refine s_aload_n 1 d_M_part_76 rfl rfl ?_
        refine s_iload_n 2 d_M_part_77 rfl rfl ?_
        refine s_iload_n 3 d_M_part_78 rfl rfl ?_
        refine s_callV (as := [aI x1, aI x2]) (ci := 10) d_M_part_79 ok_M_lays lk_M_304 io_M_lays so_M_lays (by decide) rfl rfl rfl (Nat.le_of_ble_eq_true rfl) rfl (sf_42 hF12) (WM.mono h ?_)
        rintro _ σ13 ⟨rfl, hp, h⟩
        obtain ⟨hF13, h⟩ := h
        show WP E m_M_part (d + 1) 82 [(3, aI v10), (0, aP 42), (1, aI x1), (2, aI x2)] [] σ13 Q
        refine s_aload_n 1 d_M_part_82 rfl rfl ?_
        refine s_callV (as := []) (ci := 10) d_M_part_83 ok_M_opens lk_M_293 io_M_opens so_M_opens (by decide) rfl rfl rfl (Nat.le_of_ble_eq_true rfl) rfl (sf_42 hF13) (WM.mono h ?_)
        rintro _ σ14 ⟨rfl, hp, h⟩
        obtain ⟨hF14, h⟩ := h
        show WP E m_M_part (d + 1) 86 [(3, aI v10), (0, aP 42), (1, aI x1), (2, aI x2)] [] σ14 Q
        refine s_aload_n 1 d_M_part_86 rfl rfl ?_
        refine s_getF (v := 50) d_M_part_87 fl_M_35 rfl (sf_42 hF14) (ff_35 hF14) ?_
        refine s_iconst d_M_part_90 ?_
        refine s_ialoadv (v := σ14.1 50 0) d_M_part_91 ⟨_, sf_50 hF14, by decide, by decide, by decide⟩ rfl ?_
        refine s_callS (as := [aI (σ14.1 50 0)]) d_M_part_92 ok_M_partsOf lk_M_182 to_M_partsOf rfl (Nat.le_of_ble_eq_true rfl) rfl (WM.mono h ?_)
        rintro _ σ15 ⟨v15, rfl, hp, h⟩
        obtain ⟨hF15, h⟩ := h
        show WP E m_M_part (d + 1) 95 [(3, aI v10), (0, aP 42), (1, aI x1), (2, aI x2)] [aI v15] σ15 Q
        refine s_iconst d_M_part_95 ?_
        obtain ⟨g16, h⟩ := h
        refine s_icmp_le d_M_part_96 rfl g16 (by decide) (fun c => ?_) (fun c => ?_)
        · have h := h.1 c
          refine wp_drop [1, 2, 3, 0] rfl ?_
          exact h
        · have h := h.2 c
          refine s_aload_n 1 d_M_part_99 rfl rfl ?_
          refine s_aload_n 1 d_M_part_100 rfl rfl ?_
          refine s_getF (v := 50) d_M_part_101 fl_M_35 rfl (sf_42 hF15) (ff_35 hF15) ?_
          refine s_iconst d_M_part_104 ?_
          refine s_ialoadv (v := σ15.1 50 0) d_M_part_105 ⟨_, sf_50 hF15, by decide, by decide, by decide⟩ rfl ?_
          refine s_iconst d_M_part_106 ?_
          refine s_isub d_M_part_107 ?_
          refine s_callV (as := [aI ((σ15.1 50 0) - 1)]) (ci := 10) d_M_part_108 ok_M_adds lk_M_195 io_M_adds so_M_adds (by decide) rfl rfl rfl (Nat.le_of_ble_eq_true rfl) rfl (sf_42 hF15) (WM.mono h ?_)
          rintro _ σ17 ⟨rfl, hp, h⟩
          show WP E m_M_part (d + 1) 111 [(3, aI v10), (0, aP 42), (1, aI x1), (2, aI x2)] [] σ17 Q
          refine wp_drop [1, 2, 3, 0] rfl ?_
          exact h
      · have h := h.2 c
        refine s_iconst d_M_part_39 ?_
        exact s_zreturn d_M_part_40 rfl (by decide) h
    · have h := h.2 c
      refine s_iconst d_M_part_19 ?_
      exact s_zreturn d_M_part_20 rfl (by decide) h
theorem e_M_part {E : EV} {d : Nat} {Q : Option AV → St → Prop} {σ : St} (x1 x2 : Int) (hF : Fix σ) (h : (WMi E m_M_isSquare d [aP 42, aI x1, aI x2] σ (fun v1 σ1 => Fix σ1 ∧ (rI v1) ∧ ((v1 = 0 → Q (some (aI 0)) σ1) ∧ (¬ v1 = 0 → (WMi E m_M_squaresOf d [aP 42, aI x1] σ1 (fun v3 σ3 => Fix σ3 ∧ (rI v3) ∧ ((¬ v3 = 8 → (WMv E m_M_takes d [aP 42, aI x1, aI x2] σ3 (fun σ5 => Fix σ5 ∧ (WMi E m_M_isSign d [aI (σ5.1 50 0)] σ5 (fun v6 σ6 => Fix σ6 ∧ (rI v6) ∧ ((v6 = 0 → (WMv E m_M_keeps d [aP 42] σ6 (fun σ8 => Fix σ8 ∧ (WMv E m_M_makesRoom d [aP 42, aI x1, aI (x2 + 1)] σ8 (fun σ9 => Fix σ9 ∧ (WMi E m_M_endOf d [aP 50, aI 1] σ9 (fun v10 σ10 => Fix σ10 ∧ (WMv E m_M_opens d [aP 42] σ10 (fun σ11 => Fix σ11 ∧ (WMv E m_M_addsAll d [aP 42, aP 50, aI 1, aI v10] σ11 (fun σ12 => Fix σ12 ∧ (WMv E m_M_lays d [aP 42, aI x1, aI x2] σ12 (fun σ13 => Fix σ13 ∧ (WMv E m_M_opens d [aP 42] σ13 (fun σ14 => Fix σ14 ∧ (WMi E m_M_partsOf d [aI (σ14.1 50 0)] σ14 (fun v15 σ15 => Fix σ15 ∧ (rI v15) ∧ ((v15 ≤ 2 → WP E m_M_part (d + 1) 111 [(0, aP 42), (1, aI x1), (2, aI x2), (3, aI v10)] [] σ15 Q) ∧ (¬ v15 ≤ 2 → (WMv E m_M_adds d [aP 42, aI ((σ15.1 50 0) - 1)] σ15 (fun σ17 => WP E m_M_part (d + 1) 111 [(0, aP 42), (1, aI x1), (2, aI x2), (3, aI v10)] [] σ17 Q))))))))))))))))))))) ∧ (¬ v6 = 0 → Q (some (aI 0)) σ6))))))) ∧ (v3 = 8 → Q (some (aI 0)) σ3))))))))) : WM E m_M_part (d + 1) [aP 42, aI x1, aI x2] σ Q := s_meth (by decide) (Nat.le_of_ble_eq_true rfl) rfl (b_M_part_0 x1 x2 hF h)
theorem b_M_part_111 {E : EV} {d : Nat} {Q : Option AV → St → Prop} {σ : St} (x1 x2 x3 : Int) (hF : Fix σ) (h : (WMv E m_M_addsAll d [aP 42, aP 50, aI x3, aI (σ.1 42 10)] σ (fun σ1 => Fix σ1 ∧ (WMv E m_M_lays d [aP 42, aI x1, aI (x2 + 1)] σ1 (fun σ2 => Q (some (aI 1)) σ2))))) : WP E m_M_part (d + 1) 111 [(0, aP 42), (1, aI x1), (2, aI x2), (3, aI x3)] [] σ Q := by
  refine s_aload_n 0 d_M_part_111 rfl rfl ?_
  refine s_aload_n 0 d_M_part_112 rfl rfl ?_
  refine s_getF (v := 50) d_M_part_113 fl_M_35 rfl (sf_42 hF) (ff_35 hF) ?_
  refine s_iload_n 3 d_M_part_116 rfl rfl ?_
  refine s_aload_n 0 d_M_part_117 rfl rfl ?_
  refine s_getF (v := σ.1 42 10) d_M_part_118 fl_M_189 rfl (sf_42 hF) rfl ?_
  refine s_callV (as := [aP 50, aI x3, aI (σ.1 42 10)]) (ci := 10) d_M_part_121 ok_M_addsAll lk_M_300 io_M_addsAll so_M_addsAll (by decide) rfl rfl rfl (Nat.le_of_ble_eq_true rfl) rfl (sf_42 hF) (WM.mono h ?_)
  rintro _ σ1 ⟨rfl, hp, h⟩
  obtain ⟨hF1, h⟩ := h
  show WP E m_M_part (d + 1) 124 [(0, aP 42), (1, aI x1), (2, aI x2), (3, aI x3)] [] σ1 Q
  refine s_aload_n 0 d_M_part_124 rfl rfl ?_
  refine s_iload_n 1 d_M_part_125 rfl rfl ?_
  refine s_iload_n 2 d_M_part_126 rfl rfl ?_
  refine s_iconst d_M_part_127 ?_
  refine s_iadd d_M_part_128 ?_
  refine s_callV (as := [aI x1, aI (x2 + 1)]) (ci := 10) d_M_part_129 ok_M_lays lk_M_304 io_M_lays so_M_lays (by decide) rfl rfl rfl (Nat.le_of_ble_eq_true rfl) rfl (sf_42 hF1) (WM.mono h ?_)
  rintro _ σ2 ⟨rfl, hp, h⟩
  show WP E m_M_part (d + 1) 132 [(0, aP 42), (1, aI x1), (2, aI x2), (3, aI x3)] [] σ2 Q
  refine s_iconst d_M_part_132 ?_
  exact s_zreturn d_M_part_133 rfl (by decide) h
