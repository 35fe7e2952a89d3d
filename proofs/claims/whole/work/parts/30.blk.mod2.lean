theorem d_M_makesRoom_0 : decode m_M_makesRoom.2.1 0 = .ok (.iload_n 1, 1) := by decide +kernel
theorem d_M_makesRoom_1 : decode m_M_makesRoom.2.1 1 = .ok (.aload_n 0, 1) := by decide +kernel
theorem d_M_makesRoom_2 : decode m_M_makesRoom.2.1 2 = .ok (.iload_n 1, 1) := by decide +kernel
theorem d_M_makesRoom_3 : decode m_M_makesRoom.2.1 3 = .ok (.invokevirtual 178, 3) := by decide +kernel
theorem d_M_makesRoom_6 : decode m_M_makesRoom.2.1 6 = .ok (.invokestatic 185, 3) := by decide +kernel
theorem d_M_makesRoom_9 : decode m_M_makesRoom.2.1 9 = .ok (.iconst 1, 1) := by decide +kernel
theorem d_M_makesRoom_10 : decode m_M_makesRoom.2.1 10 = .ok (.isub, 1) := by decide +kernel
theorem d_M_makesRoom_11 : decode m_M_makesRoom.2.1 11 = .ok (.istore_n 3, 1) := by decide +kernel
theorem d_M_makesRoom_12 : decode m_M_makesRoom.2.1 12 = .ok (.iload_n 3, 1) := by decide +kernel
theorem d_M_makesRoom_13 : decode m_M_makesRoom.2.1 13 = .ok (.iload_n 1, 1) := by decide +kernel
theorem d_M_makesRoom_14 : decode m_M_makesRoom.2.1 14 = .ok (.iload_n 2, 1) := by decide +kernel
theorem d_M_makesRoom_15 : decode m_M_makesRoom.2.1 15 = .ok (.invokestatic 185, 3) := by decide +kernel
theorem d_M_makesRoom_18 : decode m_M_makesRoom.2.1 18 = .ok (.if_icmp .lt 24, 3) := by decide +kernel
theorem d_M_makesRoom_21 : decode m_M_makesRoom.2.1 21 = .ok (.aload_n 0, 1) := by decide +kernel
theorem d_M_makesRoom_22 : decode m_M_makesRoom.2.1 22 = .ok (.getfield 26, 3) := by decide +kernel
theorem d_M_makesRoom_25 : decode m_M_makesRoom.2.1 25 = .ok (.iload_n 3, 1) := by decide +kernel
theorem d_M_makesRoom_26 : decode m_M_makesRoom.2.1 26 = .ok (.bipush 21, 2) := by decide +kernel
theorem d_M_makesRoom_28 : decode m_M_makesRoom.2.1 28 = .ok (.iadd, 1) := by decide +kernel
theorem d_M_makesRoom_29 : decode m_M_makesRoom.2.1 29 = .ok (.aload_n 0, 1) := by decide +kernel
theorem d_M_makesRoom_30 : decode m_M_makesRoom.2.1 30 = .ok (.getfield 26, 3) := by decide +kernel
theorem d_M_makesRoom_33 : decode m_M_makesRoom.2.1 33 = .ok (.iload_n 3, 1) := by decide +kernel
theorem d_M_makesRoom_34 : decode m_M_makesRoom.2.1 34 = .ok (.iaload, 1) := by decide +kernel
theorem d_M_makesRoom_35 : decode m_M_makesRoom.2.1 35 = .ok (.iastore, 1) := by decide +kernel
theorem d_M_makesRoom_36 : decode m_M_makesRoom.2.1 36 = .ok (.iinc 3 (-1), 3) := by decide +kernel
theorem d_M_makesRoom_39 : decode m_M_makesRoom.2.1 39 = .ok (.goto (-27), 3) := by decide +kernel
theorem d_M_makesRoom_42 : decode m_M_makesRoom.2.1 42 = .ok (.aload_n 0, 1) := by decide +kernel
theorem d_M_makesRoom_43 : decode m_M_makesRoom.2.1 43 = .ok (.getfield 26, 3) := by decide +kernel
theorem d_M_makesRoom_46 : decode m_M_makesRoom.2.1 46 = .ok (.iconst 3, 1) := by decide +kernel
theorem d_M_makesRoom_47 : decode m_M_makesRoom.2.1 47 = .ok (.sipush 170, 3) := by decide +kernel
theorem d_M_makesRoom_50 : decode m_M_makesRoom.2.1 50 = .ok (.iload_n 1, 1) := by decide +kernel
theorem d_M_makesRoom_51 : decode m_M_makesRoom.2.1 51 = .ok (.imul, 1) := by decide +kernel
theorem d_M_makesRoom_52 : decode m_M_makesRoom.2.1 52 = .ok (.iadd, 1) := by decide +kernel
theorem d_M_makesRoom_53 : decode m_M_makesRoom.2.1 53 = .ok (.dup2, 1) := by decide +kernel
theorem d_M_makesRoom_54 : decode m_M_makesRoom.2.1 54 = .ok (.iaload, 1) := by decide +kernel
theorem d_M_makesRoom_55 : decode m_M_makesRoom.2.1 55 = .ok (.iconst 1, 1) := by decide +kernel
theorem d_M_makesRoom_56 : decode m_M_makesRoom.2.1 56 = .ok (.iadd, 1) := by decide +kernel
theorem d_M_makesRoom_57 : decode m_M_makesRoom.2.1 57 = .ok (.iastore, 1) := by decide +kernel
theorem d_M_makesRoom_58 : decode m_M_makesRoom.2.1 58 = .ok (.return_, 1) := by decide +kernel
theorem b_M_makesRoom_0 {E : EV} {d : Nat} {Q : Option AV → St → Prop} {σ : St} (x1 x2 : Int) (hF : Fix σ) (h : (WMi E m_M_squaresOf d [aP 42, aI x1] σ (fun v1 σ1 => (WMi E m_M_placeOf d [aI x1, aI v1] σ1 (fun v2 σ2 => WP E m_M_makesRoom (d + 1) 12 [(0, aP 42), (1, aI x1), (2, aI x2), (3, aI (v2 - 1))] [] σ2 Q))))) : WP E m_M_makesRoom (d + 1) 0 [(0, aP 42), (1, aI x1), (2, aI x2)] [] σ Q := by
  refine s_iload_n 1 d_M_makesRoom_0 rfl rfl ?_
  refine s_aload_n 0 d_M_makesRoom_1 rfl rfl ?_
  refine s_iload_n 1 d_M_makesRoom_2 rfl rfl ?_
  refine s_callV (as := [aI x1]) (ci := 10) d_M_makesRoom_3 ok_M_squaresOf lk_M_178 io_M_squaresOf so_M_squaresOf (by decide) rfl rfl rfl (Nat.le_of_ble_eq_true rfl) rfl (sf_42 hF) (WM.mono h ?_)
  rintro _ σ1 ⟨v1, rfl, hp, h⟩
  show WP E m_M_makesRoom (d + 1) 6 [(0, aP 42), (1, aI x1), (2, aI x2)] [aI v1, aI x1] σ1 Q
  refine s_callS (as := [aI x1, aI v1]) d_M_makesRoom_6 ok_M_placeOf lk_M_185 to_M_placeOf rfl (Nat.le_of_ble_eq_true rfl) rfl (WM.mono h ?_)
  rintro _ σ2 ⟨v2, rfl, hp, h⟩
  show WP E m_M_makesRoom (d + 1) 9 [(0, aP 42), (1, aI x1), (2, aI x2)] [aI v2] σ2 Q
  refine s_iconst d_M_makesRoom_9 ?_
  refine s_isub d_M_makesRoom_10 ?_
  refine s_istore_n d_M_makesRoom_11 rfl (by decide) rfl ?_
  refine wp_drop [1, 2, 3, 0] rfl ?_
  exact h
theorem e_M_makesRoom {E : EV} {d : Nat} {Q : Option AV → St → Prop} {σ : St} (x1 x2 : Int) (hF : Fix σ) (h : (WMi E m_M_squaresOf d [aP 42, aI x1] σ (fun v1 σ1 => (WMi E m_M_placeOf d [aI x1, aI v1] σ1 (fun v2 σ2 => WP E m_M_makesRoom (d + 1) 12 [(0, aP 42), (1, aI x1), (2, aI x2), (3, aI (v2 - 1))] [] σ2 Q))))) : WM E m_M_makesRoom (d + 1) [aP 42, aI x1, aI x2] σ Q := s_meth (by decide) (Nat.le_of_ble_eq_true rfl) rfl (b_M_makesRoom_0 x1 x2 hF h)
theorem b_M_makesRoom_12 {E : EV} {d : Nat} {Q : Option AV → St → Prop} {σ : St} (x1 x2 x3 : Int) (hF : Fix σ) (h : (WMi E m_M_placeOf d [aI x1, aI x2] σ (fun v1 σ1 => Fix σ1 ∧ (rI x3) ∧ (rI v1) ∧ ((x3 < v1 → (0 ≤ (3 + (170 * x1)) ∧ (3 + (170 * x1)) < 683) ∧ (0 ≤ (3 + (170 * x1)) ∧ (3 + (170 * x1)) < 683) ∧ Q none (wr σ1 47 (3 + (170 * x1)) ((σ1.1 47 (3 + (170 * x1))) + 1))) ∧ (¬ x3 < v1 → (0 ≤ x3 ∧ x3 < 683) ∧ (0 ≤ (x3 + 21) ∧ (x3 + 21) < 683) ∧ WP E m_M_makesRoom (d + 1) 12 [(0, aP 42), (1, aI x1), (2, aI x2), (3, aI (x3 + (-1)))] [] (wr σ1 47 (x3 + 21) (σ1.1 47 x3)) Q))))) : WP E m_M_makesRoom (d + 1) 12 [(0, aP 42), (1, aI x1), (2, aI x2), (3, aI x3)] [] σ Q := by
  refine s_iload_n 3 d_M_makesRoom_12 rfl rfl ?_
  refine s_iload_n 1 d_M_makesRoom_13 rfl rfl ?_
  refine s_iload_n 2 d_M_makesRoom_14 rfl rfl ?_
  refine s_callS (as := [aI x1, aI x2]) d_M_makesRoom_15 ok_M_placeOf lk_M_185 to_M_placeOf rfl (Nat.le_of_ble_eq_true rfl) rfl (WM.mono h ?_)
  rintro _ σ1 ⟨v1, rfl, hp, h⟩
  obtain ⟨hF1, h⟩ := h
  show WP E m_M_makesRoom (d + 1) 18 [(0, aP 42), (1, aI x1), (2, aI x2), (3, aI x3)] [aI v1, aI x3] σ1 Q
  obtain ⟨g2, h⟩ := h
  obtain ⟨g3, h⟩ := h
  refine s_icmp_lt d_M_makesRoom_18 rfl g2 g3 (fun c => ?_) (fun c => ?_)
  · have h := h.1 c
    refine s_aload_n 0 d_M_makesRoom_42 rfl rfl ?_
    refine s_getF (v := 47) d_M_makesRoom_43 fl_M_26 rfl (sf_42 hF1) (ff_32 hF1) ?_
    refine s_iconst d_M_makesRoom_46 ?_
    refine s_sipush d_M_makesRoom_47 (by decide) ?_
    refine s_iload_n 1 d_M_makesRoom_50 rfl rfl ?_
    refine s_imul d_M_makesRoom_51 ?_
    refine s_iadd d_M_makesRoom_52 ?_
    refine s_dup2 d_M_makesRoom_53 (Nat.ne_of_beq_eq_false rfl) (Nat.ne_of_beq_eq_false rfl) ?_
    obtain ⟨g4, h⟩ := h
    refine s_ialoadv (v := σ1.1 47 (3 + (170 * x1))) d_M_makesRoom_54 ⟨_, sf_47 hF1, g4.1, g4.2, by have := g4.2; omega⟩ rfl ?_
    refine s_iconst d_M_makesRoom_55 ?_
    refine s_iadd d_M_makesRoom_56 ?_
    obtain ⟨g5, h⟩ := h
    refine s_iastore d_M_makesRoom_57 ⟨_, sf_47 hF1, g5.1, g5.2, by have := g5.2; omega⟩ ?_
    exact s_return d_M_makesRoom_58 rfl h
  · have h := h.2 c
    refine s_aload_n 0 d_M_makesRoom_21 rfl rfl ?_
    refine s_getF (v := 47) d_M_makesRoom_22 fl_M_26 rfl (sf_42 hF1) (ff_32 hF1) ?_
    refine s_iload_n 3 d_M_makesRoom_25 rfl rfl ?_
    refine s_bipush d_M_makesRoom_26 (by decide) ?_
    refine s_iadd d_M_makesRoom_28 ?_
    refine s_aload_n 0 d_M_makesRoom_29 rfl rfl ?_
    refine s_getF (v := 47) d_M_makesRoom_30 fl_M_26 rfl (sf_42 hF1) (ff_32 hF1) ?_
    refine s_iload_n 3 d_M_makesRoom_33 rfl rfl ?_
    obtain ⟨g6, h⟩ := h
    refine s_ialoadv (v := σ1.1 47 x3) d_M_makesRoom_34 ⟨_, sf_47 hF1, g6.1, g6.2, by have := g6.2; omega⟩ rfl ?_
    obtain ⟨g7, h⟩ := h
    refine s_iastore d_M_makesRoom_35 ⟨_, sf_47 hF1, g7.1, g7.2, by have := g7.2; omega⟩ ?_
    refine s_iinc 3 d_M_makesRoom_36 rfl (by decide) rfl ?_
    refine s_goto d_M_makesRoom_39 rfl ?_
    refine wp_drop [1, 2, 3, 0] rfl ?_
    exact h
theorem d_M_swap_0 : decode m_M_swap.2.1 0 = .ok (.aload_n 0, 1) := by decide +kernel
theorem d_M_swap_1 : decode m_M_swap.2.1 1 = .ok (.iload_n 1, 1) := by decide +kernel
theorem d_M_swap_2 : decode m_M_swap.2.1 2 = .ok (.iload_n 2, 1) := by decide +kernel
theorem d_M_swap_3 : decode m_M_swap.2.1 3 = .ok (.invokevirtual 206, 3) := by decide +kernel
theorem d_M_swap_6 : decode m_M_swap.2.1 6 = .ok (.ifCond .eq 9, 3) := by decide +kernel
theorem d_M_swap_9 : decode m_M_swap.2.1 9 = .ok (.iload_n 3, 1) := by decide +kernel
theorem d_M_swap_10 : decode m_M_swap.2.1 10 = .ok (.iload 4, 2) := by decide +kernel
theorem d_M_swap_12 : decode m_M_swap.2.1 12 = .ok (.if_icmp .ne 5, 3) := by decide +kernel
theorem d_M_swap_15 : decode m_M_swap.2.1 15 = .ok (.iconst 0, 1) := by decide +kernel
theorem d_M_swap_16 : decode m_M_swap.2.1 16 = .ok (.ireturn, 1) := by decide +kernel
theorem d_M_swap_17 : decode m_M_swap.2.1 17 = .ok (.aload_n 0, 1) := by decide +kernel
theorem d_M_swap_18 : decode m_M_swap.2.1 18 = .ok (.iload_n 1, 1) := by decide +kernel
theorem d_M_swap_19 : decode m_M_swap.2.1 19 = .ok (.iload_n 2, 1) := by decide +kernel
theorem d_M_swap_20 : decode m_M_swap.2.1 20 = .ok (.invokevirtual 210, 3) := by decide +kernel
theorem d_M_swap_23 : decode m_M_swap.2.1 23 = .ok (.aload_n 0, 1) := by decide +kernel
theorem d_M_swap_24 : decode m_M_swap.2.1 24 = .ok (.getfield 35, 3) := by decide +kernel
theorem d_M_swap_27 : decode m_M_swap.2.1 27 = .ok (.iconst 0, 1) := by decide +kernel
theorem d_M_swap_28 : decode m_M_swap.2.1 28 = .ok (.iaload, 1) := by decide +kernel
theorem d_M_swap_29 : decode m_M_swap.2.1 29 = .ok (.invokestatic 199, 3) := by decide +kernel
theorem d_M_swap_32 : decode m_M_swap.2.1 32 = .ok (.ifCond .ne 42, 3) := by decide +kernel
theorem d_M_swap_35 : decode m_M_swap.2.1 35 = .ok (.iload_n 3, 1) := by decide +kernel
theorem d_M_swap_36 : decode m_M_swap.2.1 36 = .ok (.iconst 0, 1) := by decide +kernel
theorem d_M_swap_37 : decode m_M_swap.2.1 37 = .ok (.aload_n 0, 1) := by decide +kernel
theorem d_M_swap_38 : decode m_M_swap.2.1 38 = .ok (.getfield 35, 3) := by decide +kernel
theorem d_M_swap_41 : decode m_M_swap.2.1 41 = .ok (.iconst 0, 1) := by decide +kernel
theorem d_M_swap_42 : decode m_M_swap.2.1 42 = .ok (.iaload, 1) := by decide +kernel
theorem d_M_swap_43 : decode m_M_swap.2.1 43 = .ok (.invokestatic 182, 3) := by decide +kernel
theorem d_M_swap_46 : decode m_M_swap.2.1 46 = .ok (.iconst 1, 1) := by decide +kernel
theorem d_M_swap_47 : decode m_M_swap.2.1 47 = .ok (.isub, 1) := by decide +kernel
theorem d_M_swap_48 : decode m_M_swap.2.1 48 = .ok (.invokestatic 167, 3) := by decide +kernel
theorem d_M_swap_51 : decode m_M_swap.2.1 51 = .ok (.ifCond .eq 23, 3) := by decide +kernel
theorem d_M_swap_54 : decode m_M_swap.2.1 54 = .ok (.iload 4, 2) := by decide +kernel
theorem d_M_swap_56 : decode m_M_swap.2.1 56 = .ok (.iconst 0, 1) := by decide +kernel
theorem d_M_swap_57 : decode m_M_swap.2.1 57 = .ok (.aload_n 0, 1) := by decide +kernel
theorem d_M_swap_58 : decode m_M_swap.2.1 58 = .ok (.getfield 35, 3) := by decide +kernel
theorem d_M_swap_61 : decode m_M_swap.2.1 61 = .ok (.iconst 0, 1) := by decide +kernel
theorem d_M_swap_62 : decode m_M_swap.2.1 62 = .ok (.iaload, 1) := by decide +kernel
theorem d_M_swap_63 : decode m_M_swap.2.1 63 = .ok (.invokestatic 182, 3) := by decide +kernel
theorem d_M_swap_66 : decode m_M_swap.2.1 66 = .ok (.iconst 1, 1) := by decide +kernel
theorem d_M_swap_67 : decode m_M_swap.2.1 67 = .ok (.isub, 1) := by decide +kernel
theorem d_M_swap_68 : decode m_M_swap.2.1 68 = .ok (.invokestatic 167, 3) := by decide +kernel
theorem d_M_swap_71 : decode m_M_swap.2.1 71 = .ok (.ifCond .ne 5, 3) := by decide +kernel
theorem d_M_swap_74 : decode m_M_swap.2.1 74 = .ok (.iconst 0, 1) := by decide +kernel
theorem d_M_swap_75 : decode m_M_swap.2.1 75 = .ok (.ireturn, 1) := by decide +kernel
theorem d_M_swap_76 : decode m_M_swap.2.1 76 = .ok (.aload_n 0, 1) := by decide +kernel
theorem d_M_swap_77 : decode m_M_swap.2.1 77 = .ok (.invokevirtual 290, 3) := by decide +kernel
theorem d_M_swap_80 : decode m_M_swap.2.1 80 = .ok (.aload_n 0, 1) := by decide +kernel
theorem d_M_swap_81 : decode m_M_swap.2.1 81 = .ok (.invokevirtual 220, 3) := by decide +kernel
theorem d_M_swap_84 : decode m_M_swap.2.1 84 = .ok (.aload_n 0, 1) := by decide +kernel
theorem d_M_swap_85 : decode m_M_swap.2.1 85 = .ok (.invokevirtual 293, 3) := by decide +kernel
theorem d_M_swap_88 : decode m_M_swap.2.1 88 = .ok (.aload_n 0, 1) := by decide +kernel
theorem d_M_swap_89 : decode m_M_swap.2.1 89 = .ok (.aload_n 0, 1) := by decide +kernel
theorem d_M_swap_90 : decode m_M_swap.2.1 90 = .ok (.getfield 35, 3) := by decide +kernel
theorem d_M_swap_93 : decode m_M_swap.2.1 93 = .ok (.iconst 0, 1) := by decide +kernel
theorem d_M_swap_94 : decode m_M_swap.2.1 94 = .ok (.iaload, 1) := by decide +kernel
theorem d_M_swap_95 : decode m_M_swap.2.1 95 = .ok (.invokevirtual 195, 3) := by decide +kernel
theorem d_M_swap_98 : decode m_M_swap.2.1 98 = .ok (.iconst 0, 1) := by decide +kernel
theorem d_M_swap_99 : decode m_M_swap.2.1 99 = .ok (.istore 5, 2) := by decide +kernel
theorem d_M_swap_101 : decode m_M_swap.2.1 101 = .ok (.iload 5, 2) := by decide +kernel
theorem d_M_swap_103 : decode m_M_swap.2.1 103 = .ok (.aload_n 0, 1) := by decide +kernel
theorem d_M_swap_104 : decode m_M_swap.2.1 104 = .ok (.getfield 35, 3) := by decide +kernel
theorem d_M_swap_107 : decode m_M_swap.2.1 107 = .ok (.iconst 0, 1) := by decide +kernel
theorem d_M_swap_108 : decode m_M_swap.2.1 108 = .ok (.iaload, 1) := by decide +kernel
theorem d_M_swap_109 : decode m_M_swap.2.1 109 = .ok (.invokestatic 182, 3) := by decide +kernel
theorem d_M_swap_112 : decode m_M_swap.2.1 112 = .ok (.if_icmp .ge 56, 3) := by decide +kernel
theorem d_M_swap_115 : decode m_M_swap.2.1 115 = .ok (.aload_n 0, 1) := by decide +kernel
theorem d_M_swap_116 : decode m_M_swap.2.1 116 = .ok (.iload 5, 2) := by decide +kernel
theorem d_M_swap_118 : decode m_M_swap.2.1 118 = .ok (.iload_n 3, 1) := by decide +kernel
theorem d_M_swap_119 : decode m_M_swap.2.1 119 = .ok (.if_icmp .ne 8, 3) := by decide +kernel
theorem d_M_swap_122 : decode m_M_swap.2.1 122 = .ok (.iload 4, 2) := by decide +kernel
theorem d_M_swap_124 : decode m_M_swap.2.1 124 = .ok (.goto 16, 3) := by decide +kernel
theorem d_M_swap_127 : decode m_M_swap.2.1 127 = .ok (.iload 5, 2) := by decide +kernel
theorem d_M_swap_129 : decode m_M_swap.2.1 129 = .ok (.iload 4, 2) := by decide +kernel
theorem d_M_swap_131 : decode m_M_swap.2.1 131 = .ok (.if_icmp .ne 7, 3) := by decide +kernel
theorem d_M_swap_134 : decode m_M_swap.2.1 134 = .ok (.iload_n 3, 1) := by decide +kernel
theorem d_M_swap_135 : decode m_M_swap.2.1 135 = .ok (.goto 5, 3) := by decide +kernel
theorem d_M_swap_138 : decode m_M_swap.2.1 138 = .ok (.iload 5, 2) := by decide +kernel
theorem d_M_swap_140 : decode m_M_swap.2.1 140 = .ok (.invokevirtual 319, 3) := by decide +kernel
theorem d_M_swap_143 : decode m_M_swap.2.1 143 = .ok (.istore 6, 2) := by decide +kernel
theorem d_M_swap_145 : decode m_M_swap.2.1 145 = .ok (.aload_n 0, 1) := by decide +kernel
theorem d_M_swap_146 : decode m_M_swap.2.1 146 = .ok (.aload_n 0, 1) := by decide +kernel
theorem d_M_swap_147 : decode m_M_swap.2.1 147 = .ok (.getfield 35, 3) := by decide +kernel
theorem d_M_swap_150 : decode m_M_swap.2.1 150 = .ok (.iload 6, 2) := by decide +kernel
theorem d_M_swap_152 : decode m_M_swap.2.1 152 = .ok (.aload_n 0, 1) := by decide +kernel
theorem d_M_swap_153 : decode m_M_swap.2.1 153 = .ok (.getfield 47, 3) := by decide +kernel
theorem d_M_swap_156 : decode m_M_swap.2.1 156 = .ok (.iload 6, 2) := by decide +kernel
theorem d_M_swap_158 : decode m_M_swap.2.1 158 = .ok (.iaload, 1) := by decide +kernel
theorem d_M_swap_159 : decode m_M_swap.2.1 159 = .ok (.invokevirtual 300, 3) := by decide +kernel
theorem d_M_swap_162 : decode m_M_swap.2.1 162 = .ok (.iinc 5 1, 3) := by decide +kernel
theorem d_M_swap_165 : decode m_M_swap.2.1 165 = .ok (.goto (-64), 3) := by decide +kernel
theorem d_M_swap_168 : decode m_M_swap.2.1 168 = .ok (.aload_n 0, 1) := by decide +kernel
theorem d_M_swap_169 : decode m_M_swap.2.1 169 = .ok (.iload_n 1, 1) := by decide +kernel
theorem d_M_swap_170 : decode m_M_swap.2.1 170 = .ok (.iload_n 2, 1) := by decide +kernel
theorem d_M_swap_171 : decode m_M_swap.2.1 171 = .ok (.invokevirtual 304, 3) := by decide +kernel
theorem d_M_swap_174 : decode m_M_swap.2.1 174 = .ok (.iconst 1, 1) := by decide +kernel
theorem d_M_swap_175 : decode m_M_swap.2.1 175 = .ok (.ireturn, 1) := by decide +kernel
theorem b_M_swap_0 {E : EV} {d : Nat} {Q : Option AV → St → Prop} {σ : St} (x1 x2 x3 x4 : Int) (hF : Fix σ) (h : (WMi E m_M_isSquare d [aP 42, aI x1, aI x2] σ (fun v1 σ1 => Fix σ1 ∧ (rI v1) ∧ ((v1 = 0 → Q (some (aI 0)) σ1) ∧ (¬ v1 = 0 → (rI x3) ∧ (rI x4) ∧ ((¬ x3 = x4 → (WMv E m_M_takes d [aP 42, aI x1, aI x2] σ1 (fun σ5 => Fix σ5 ∧ (WMi E m_M_isSign d [aI (σ5.1 50 0)] σ5 (fun v6 σ6 => Fix σ6 ∧ (rI v6) ∧ ((¬ v6 = 0 → Q (some (aI 0)) σ6) ∧ (v6 = 0 → (WMi E m_M_partsOf d [aI (σ6.1 50 0)] σ6 (fun v8 σ8 => Fix σ8 ∧ (WMi E m_M_in d [aI x3, aI 0, aI (v8 - 1)] σ8 (fun v9 σ9 => Fix σ9 ∧ (rI v9) ∧ ((v9 = 0 → Q (some (aI 0)) σ9) ∧ (¬ v9 = 0 → (WMi E m_M_partsOf d [aI (σ9.1 50 0)] σ9 (fun v11 σ11 => Fix σ11 ∧ (WMi E m_M_in d [aI x4, aI 0, aI (v11 - 1)] σ11 (fun v12 σ12 => Fix σ12 ∧ (rI v12) ∧ ((¬ v12 = 0 → (WMv E m_M_keeps d [aP 42] σ12 (fun σ14 => Fix σ14 ∧ (WMv E m_M_measures d [aP 42] σ14 (fun σ15 => Fix σ15 ∧ (WMv E m_M_opens d [aP 42] σ15 (fun σ16 => Fix σ16 ∧ (WMv E m_M_adds d [aP 42, aI (σ16.1 50 0)] σ16 (fun σ17 => WP E m_M_swap (d + 1) 101 [(0, aP 42), (1, aI x1), (2, aI x2), (3, aI x3), (4, aI x4), (5, aI 0)] [] σ17 Q))))))))) ∧ (v12 = 0 → Q (some (aI 0)) σ12))))))))))))))))))) ∧ (x3 = x4 → Q (some (aI 0)) σ1))))))) : WP E m_M_swap (d + 1) 0 [(0, aP 42), (1, aI x1), (2, aI x2), (3, aI x3), (4, aI x4)] [] σ Q := by
  refine s_aload_n 0 d_M_swap_0 rfl rfl ?_
  refine s_iload_n 1 d_M_swap_1 rfl rfl ?_
  refine s_iload_n 2 d_M_swap_2 rfl rfl ?_
  refine s_callV (as := [aI x1, aI x2]) (ci := 10) d_M_swap_3 ok_M_isSquare lk_M_206 io_M_isSquare so_M_isSquare (by decide) rfl rfl rfl (Nat.le_of_ble_eq_true rfl) rfl (sf_42 hF) (WM.mono h ?_)
  rintro _ σ1 ⟨v1, rfl, hp, h⟩
  obtain ⟨hF1, h⟩ := h
  show WP E m_M_swap (d + 1) 6 [(0, aP 42), (1, aI x1), (2, aI x2), (3, aI x3), (4, aI x4)] [aI v1] σ1 Q
  obtain ⟨g2, h⟩ := h
  refine s_if_eq d_M_swap_6 rfl g2 (fun c => ?_) (fun c => ?_)
  · have h := h.1 c
    refine s_iconst d_M_swap_15 ?_
    exact s_zreturn d_M_swap_16 rfl (by decide) h
  · have h := h.2 c
    refine s_iload_n 3 d_M_swap_9 rfl rfl ?_
    refine s_iload 4 d_M_swap_10 rfl ?_
    obtain ⟨g3, h⟩ := h
    obtain ⟨g4, h⟩ := h
    refine s_icmp_ne d_M_swap_12 rfl g3 g4 (fun c => ?_) (fun c => ?_)
    · have h := h.1 c
      refine s_aload_n 0 d_M_swap_17 rfl rfl ?_
      refine s_iload_n 1 d_M_swap_18 rfl rfl ?_
      refine s_iload_n 2 d_M_swap_19 rfl rfl ?_
      refine s_callV (as := [aI x1, aI x2]) (ci := 10) d_M_swap_20 ok_M_takes lk_M_210 io_M_takes so_M_takes (by decide) rfl rfl rfl (Nat.le_of_ble_eq_true rfl) rfl (sf_42 hF1) (WM.mono h ?_)
      rintro _ σ5 ⟨rfl, hp, h⟩
      obtain ⟨hF5, h⟩ := h
      show WP E m_M_swap (d + 1) 23 [(0, aP 42), (1, aI x1), (2, aI x2), (3, aI x3), (4, aI x4)] [] σ5 Q
      refine s_aload_n 0 d_M_swap_23 rfl rfl ?_
      refine s_getF (v := 50) d_M_swap_24 fl_M_35 rfl (sf_42 hF5) (ff_35 hF5) ?_
      refine s_iconst d_M_swap_27 ?_
      refine s_ialoadv (v := σ5.1 50 0) d_M_swap_28 ⟨_, sf_50 hF5, by decide, by decide, by decide⟩ rfl ?_
      refine s_callS (as := [aI (σ5.1 50 0)]) d_M_swap_29 ok_M_isSign lk_M_199 to_M_isSign rfl (Nat.le_of_ble_eq_true rfl) rfl (WM.mono h ?_)
      rintro _ σ6 ⟨v6, rfl, hp, h⟩
      obtain ⟨hF6, h⟩ := h
      show WP E m_M_swap (d + 1) 32 [(0, aP 42), (1, aI x1), (2, aI x2), (3, aI x3), (4, aI x4)] [aI v6] σ6 Q
      obtain ⟨g7, h⟩ := h
      refine s_if_ne d_M_swap_32 rfl g7 (fun c => ?_) (fun c => ?_)
      · have h := h.1 c
        refine s_iconst d_M_swap_74 ?_
        exact s_zreturn d_M_swap_75 rfl (by decide) h
      · have h := h.2 c
        refine s_iload_n 3 d_M_swap_35 rfl rfl ?_
        refine s_iconst d_M_swap_36 ?_
        refine s_aload_n 0 d_M_swap_37 rfl rfl ?_
        refine s_getF (v := 50) d_M_swap_38 fl_M_35 rfl (sf_42 hF6) (ff_35 hF6) ?_
        refine s_iconst d_M_swap_41 ?_
        refine s_ialoadv (v := σ6.1 50 0) d_M_swap_42 ⟨_, sf_50 hF6, by decide, by decide, by decide⟩ rfl ?_
        refine s_callS (as := [aI (σ6.1 50 0)]) d_M_swap_43 ok_M_partsOf lk_M_182 to_M_partsOf rfl (Nat.le_of_ble_eq_true rfl) rfl (WM.mono h ?_)
        rintro _ σ8 ⟨v8, rfl, hp, h⟩
        obtain ⟨hF8, h⟩ := h
        show WP E m_M_swap (d + 1) 46 [(0, aP 42), (1, aI x1), (2, aI x2), (3, aI x3), (4, aI x4)] [aI v8, aI 0, aI x3] σ8 Q
        refine s_iconst d_M_swap_46 ?_
        refine s_isub d_M_swap_47 ?_
        refine s_callS (as := [aI x3, aI 0, aI (v8 - 1)]) d_M_swap_48 ok_M_in lk_M_167 to_M_in rfl (Nat.le_of_ble_eq_true rfl) rfl (WM.mono h ?_)
        rintro _ σ9 ⟨v9, rfl, hp, h⟩
        obtain ⟨hF9, h⟩ := h
        show WP E m_M_swap (d + 1) 51 [(0, aP 42), (1, aI x1), (2, aI x2), (3, aI x3), (4, aI x4)] [aI v9] σ9 Q
        obtain ⟨g10, h⟩ := h
        refine s_if_eq d_M_swap_51 rfl g10 (fun c => ?_) (fun c => ?_)
        · have h := h.1 c
          refine s_iconst d_M_swap_74 ?_
          exact s_zreturn d_M_swap_75 rfl (by decide) h
        · have h := h.2 c
          refine s_iload 4 d_M_swap_54 rfl ?_
          refine s_iconst d_M_swap_56 ?_
          refine s_aload_n 0 d_M_swap_57 rfl rfl ?_
          refine s_getF (v := 50) d_M_swap_58 fl_M_35 rfl (sf_42 hF9) (ff_35 hF9) ?_
          refine s_iconst d_M_swap_61 ?_
          refine s_ialoadv (v := σ9.1 50 0) d_M_swap_62 ⟨_, sf_50 hF9, by decide, by decide, by decide⟩ rfl ?_
          refine s_callS (as := [aI (σ9.1 50 0)]) d_M_swap_63 ok_M_partsOf lk_M_182 to_M_partsOf rfl (Nat.le_of_ble_eq_true rfl) rfl (WM.mono h ?_)
          rintro _ σ11 ⟨v11, rfl, hp, h⟩
          obtain ⟨hF11, h⟩ := h
          show WP E m_M_swap (d + 1) 66 [(0, aP 42), (1, aI x1), (2, aI x2), (3, aI x3), (4, aI x4)] [aI v11, aI 0, aI x4] σ11 Q
          refine s_iconst d_M_swap_66 ?_
          refine s_isub d_M_swap_67 ?_
          refine s_callS (as := [aI x4, aI 0, aI (v11 - 1)]) d_M_swap_68 ok_M_in lk_M_167 to_M_in rfl (Nat.le_of_ble_eq_true rfl) rfl (WM.mono h ?_)
          rintro _ σ12 ⟨v12, rfl, hp, h⟩
          obtain ⟨hF12, h⟩ := h
          show WP E m_M_swap (d + 1) 71 [(0, aP 42), (1, aI x1), (2, aI x2), (3, aI x3), (4, aI x4)] [aI v12] σ12 Q
          obtain ⟨g13, h⟩ := h
          refine s_if_ne d_M_swap_71 rfl g13 (fun c => ?_) (fun c => ?_)
          · have h := h.1 c
            refine s_aload_n 0 d_M_swap_76 rfl rfl ?_
            refine s_callV (as := []) (ci := 10) d_M_swap_77 ok_M_keeps lk_M_290 io_M_keeps so_M_keeps (by decide) rfl rfl rfl (Nat.le_of_ble_eq_true rfl) rfl (sf_42 hF12) (WM.mono h ?_)
            rintro _ σ14 ⟨rfl, hp, h⟩
            obtain ⟨hF14, h⟩ := h
            show WP E m_M_swap (d + 1) 80 [(0, aP 42), (1, aI x1), (2, aI x2), (3, aI x3), (4, aI x4)] [] σ14 Q
            refine s_aload_n 0 d_M_swap_80 rfl rfl ?_
            refine s_callV (as := []) (ci := 10) d_M_swap_81 ok_M_measures lk_M_220 io_M_measures so_M_measures (by decide) rfl rfl rfl (Nat.le_of_ble_eq_true rfl) rfl (sf_42 hF14) (WM.mono h ?_)
            rintro _ σ15 ⟨rfl, hp, h⟩
            obtain ⟨hF15, h⟩ := h
            show WP E m_M_swap (d + 1) 84 [(0, aP 42), (1, aI x1), (2, aI x2), (3, aI x3), (4, aI x4)] [] σ15 Q
            refine s_aload_n 0 d_M_swap_84 rfl rfl ?_
            refine s_callV (as := []) (ci := 10) d_M_swap_85 ok_M_opens lk_M_293 io_M_opens so_M_opens (by decide) rfl rfl rfl (Nat.le_of_ble_eq_true rfl) rfl (sf_42 hF15) (WM.mono h ?_)
            rintro _ σ16 ⟨rfl, hp, h⟩
            obtain ⟨hF16, h⟩ := h
            show WP E m_M_swap (d + 1) 88 [(0, aP 42), (1, aI x1), (2, aI x2), (3, aI x3), (4, aI x4)] [] σ16 Q
            refine s_aload_n 0 d_M_swap_88 rfl rfl ?_
            refine s_aload_n 0 d_M_swap_89 rfl rfl ?_
            refine s_getF (v := 50) d_M_swap_90 fl_M_35 rfl (sf_42 hF16) (ff_35 hF16) ?_
            refine s_iconst d_M_swap_93 ?_
            refine s_ialoadv (v := σ16.1 50 0) d_M_swap_94 ⟨_, sf_50 hF16, by decide, by decide, by decide⟩ rfl ?_
            refine s_callV (as := [aI (σ16.1 50 0)]) (ci := 10) d_M_swap_95 ok_M_adds lk_M_195 io_M_adds so_M_adds (by decide) rfl rfl rfl (Nat.le_of_ble_eq_true rfl) rfl (sf_42 hF16) (WM.mono h ?_)
            rintro _ σ17 ⟨rfl, hp, h⟩
            show WP E m_M_swap (d + 1) 98 [(0, aP 42), (1, aI x1), (2, aI x2), (3, aI x3), (4, aI x4)] [] σ17 Q
            refine s_iconst d_M_swap_98 ?_
            refine s_istore d_M_swap_99 (by decide) rfl ?_
            refine wp_drop [1, 2, 3, 4, 5, 0] rfl ?_
            exact h
          · have h := h.2 c
            refine s_iconst d_M_swap_74 ?_
            exact s_zreturn d_M_swap_75 rfl (by decide) h
    · have h := h.2 c
      refine s_iconst d_M_swap_15 ?_
      exact s_zreturn d_M_swap_16 rfl (by decide) h
theorem e_M_swap {E : EV} {d : Nat} {Q : Option AV → St → Prop} {σ : St} (x1 x2 x3 x4 : Int) (hF : Fix σ) (h : (WMi E m_M_isSquare d [aP 42, aI x1, aI x2] σ (fun v1 σ1 => Fix σ1 ∧ (rI v1) ∧ ((v1 = 0 → Q (some (aI 0)) σ1) ∧ (¬ v1 = 0 → (rI x3) ∧ (rI x4) ∧ ((¬ x3 = x4 → (WMv E m_M_takes d [aP 42, aI x1, aI x2] σ1 (fun σ5 => Fix σ5 ∧ (WMi E m_M_isSign d [aI (σ5.1 50 0)] σ5 (fun v6 σ6 => Fix σ6 ∧ (rI v6) ∧ ((¬ v6 = 0 → Q (some (aI 0)) σ6) ∧ (v6 = 0 → (WMi E m_M_partsOf d [aI (σ6.1 50 0)] σ6 (fun v8 σ8 => Fix σ8 ∧ (WMi E m_M_in d [aI x3, aI 0, aI (v8 - 1)] σ8 (fun v9 σ9 => Fix σ9 ∧ (rI v9) ∧ ((v9 = 0 → Q (some (aI 0)) σ9) ∧ (¬ v9 = 0 → (WMi E m_M_partsOf d [aI (σ9.1 50 0)] σ9 (fun v11 σ11 => Fix σ11 ∧ (WMi E m_M_in d [aI x4, aI 0, aI (v11 - 1)] σ11 (fun v12 σ12 => Fix σ12 ∧ (rI v12) ∧ ((¬ v12 = 0 → (WMv E m_M_keeps d [aP 42] σ12 (fun σ14 => Fix σ14 ∧ (WMv E m_M_measures d [aP 42] σ14 (fun σ15 => Fix σ15 ∧ (WMv E m_M_opens d [aP 42] σ15 (fun σ16 => Fix σ16 ∧ (WMv E m_M_adds d [aP 42, aI (σ16.1 50 0)] σ16 (fun σ17 => WP E m_M_swap (d + 1) 101 [(0, aP 42), (1, aI x1), (2, aI x2), (3, aI x3), (4, aI x4), (5, aI 0)] [] σ17 Q))))))))) ∧ (v12 = 0 → Q (some (aI 0)) σ12))))))))))))))))))) ∧ (x3 = x4 → Q (some (aI 0)) σ1))))))) : WM E m_M_swap (d + 1) [aP 42, aI x1, aI x2, aI x3, aI x4] σ Q := s_meth (by decide) (Nat.le_of_ble_eq_true rfl) rfl (b_M_swap_0 x1 x2 x3 x4 hF h)
theorem b_M_swap_101 {E : EV} {d : Nat} {Q : Option AV → St → Prop} {σ : St} (x1 x2 x3 x4 x5 : Int) (hF : Fix σ) (h : (WMi E m_M_partsOf d [aI (σ.1 50 0)] σ (fun v1 σ1 => Fix σ1 ∧ (rI x5) ∧ (rI v1) ∧ ((v1 ≤ x5 → (WMv E m_M_lays d [aP 42, aI x1, aI x2] σ1 (fun σ4 => Q (some (aI 1)) σ4))) ∧ (¬ v1 ≤ x5 → (rI x5) ∧ (rI x3) ∧ ((¬ x5 = x3 → (rI x5) ∧ (rI x4) ∧ ((¬ x5 = x4 → WP E m_M_swap (d + 1) 140 [(0, aP 42), (1, aI x1), (2, aI x2), (3, aI x3), (4, aI x4), (5, aI x5)] [aI x5, aP 42] σ1 Q) ∧ (x5 = x4 → WP E m_M_swap (d + 1) 140 [(0, aP 42), (1, aI x1), (2, aI x2), (3, aI x3), (4, aI x4), (5, aI x5)] [aI x3, aP 42] σ1 Q))) ∧ (x5 = x3 → WP E m_M_swap (d + 1) 140 [(0, aP 42), (1, aI x1), (2, aI x2), (3, aI x3), (4, aI x4), (5, aI x5)] [aI x4, aP 42] σ1 Q))))))) : WP E m_M_swap (d + 1) 101 [(0, aP 42), (1, aI x1), (2, aI x2), (3, aI x3), (4, aI x4), (5, aI x5)] [] σ Q := by
  refine s_iload 5 d_M_swap_101 rfl ?_
  refine s_aload_n 0 d_M_swap_103 rfl rfl ?_
  refine s_getF (v := 50) d_M_swap_104 fl_M_35 rfl (sf_42 hF) (ff_35 hF) ?_
  refine s_iconst d_M_swap_107 ?_
  refine s_ialoadv (v := σ.1 50 0) d_M_swap_108 ⟨_, sf_50 hF, by decide, by decide, by decide⟩ rfl ?_
  refine s_callS (as := [aI (σ.1 50 0)]) d_M_swap_109 ok_M_partsOf lk_M_182 to_M_partsOf rfl (Nat.le_of_ble_eq_true rfl) rfl (WM.mono h ?_)
  rintro _ σ1 ⟨v1, rfl, hp, h⟩
  obtain ⟨hF1, h⟩ := h
  show WP E m_M_swap (d + 1) 112 [(0, aP 42), (1, aI x1), (2, aI x2), (3, aI x3), (4, aI x4), (5, aI x5)] [aI v1, aI x5] σ1 Q
  obtain ⟨g2, h⟩ := h
  obtain ⟨g3, h⟩ := h
  refine s_icmp_ge d_M_swap_112 rfl g2 g3 (fun c => ?_) (fun c => ?_)
  · have h := h.1 c
    refine s_aload_n 0 d_M_swap_168 rfl rfl ?_
    refine s_iload_n 1 d_M_swap_169 rfl rfl ?_
    refine s_iload_n 2 d_M_swap_170 rfl rfl ?_
    refine s_callV (as := [aI x1, aI x2]) (ci := 10) d_M_swap_171 ok_M_lays lk_M_304 io_M_lays so_M_lays (by decide) rfl rfl rfl (Nat.le_of_ble_eq_true rfl) rfl (sf_42 hF1) (WM.mono h ?_)
    rintro _ σ4 ⟨rfl, hp, h⟩
    show WP E m_M_swap (d + 1) 174 [(0, aP 42), (1, aI x1), (2, aI x2), (3, aI x3), (4, aI x4), (5, aI x5)] [] σ4 Q
    refine s_iconst d_M_swap_174 ?_
    exact s_zreturn d_M_swap_175 rfl (by decide) h
  · have h := h.2 c
    refine s_aload_n 0 d_M_swap_115 rfl rfl ?_
    refine s_iload 5 d_M_swap_116 rfl ?_
    refine s_iload_n 3 d_M_swap_118 rfl rfl ?_
    obtain ⟨g5, h⟩ := h
    obtain ⟨g6, h⟩ := h
    refine s_icmp_ne d_M_swap_119 rfl g5 g6 (fun c => ?_) (fun c => ?_)
    · have h := h.1 c
      refine s_iload 5 d_M_swap_127 rfl ?_
      refine s_iload 4 d_M_swap_129 rfl ?_
      obtain ⟨g7, h⟩ := h
      obtain ⟨g8, h⟩ := h
      refine s_icmp_ne d_M_swap_131 rfl g7 g8 (fun c => ?_) (fun c => ?_)
      · have h := h.1 c
        refine s_iload 5 d_M_swap_138 rfl ?_
        exact h
      · have h := h.2 c
        refine s_iload_n 3 d_M_swap_134 rfl rfl ?_
        refine s_goto d_M_swap_135 rfl ?_
        exact h
    · have h := h.2 c
      refine s_iload 4 d_M_swap_122 rfl ?_
      refine s_goto d_M_swap_124 rfl ?_
      exact h
theorem b_M_swap_140 {E : EV} {d : Nat} {Q : Option AV → St → Prop} {σ : St} (x1 x2 x3 x4 x5 s0 s1 : Int) (hF : Fix σ) (h : (sh σ s0 = some (10, 74)) ∧ (WMi E m_M_partAt d [aP s0, aI s1] σ (fun v1 σ1 => Fix σ1 ∧ (0 ≤ v1 ∧ v1 < 24) ∧ (WMv E m_M_addsAll d [aP 42, aP 50, aI v1, aI (σ1.1 54 v1)] σ1 (fun σ4 => WP E m_M_swap (d + 1) 101 [(0, aP 42), (1, aI x1), (2, aI x2), (3, aI x3), (4, aI x4), (5, aI (x5 + 1))] [] σ4 Q))))) : WP E m_M_swap (d + 1) 140 [(0, aP 42), (1, aI x1), (2, aI x2), (3, aI x3), (4, aI x4), (5, aI x5)] [aI s1, aP s0] σ Q := by
  obtain ⟨g2, h⟩ := h
  refine s_callV (as := [aI s1]) (ci := 10) d_M_swap_140 ok_M_partAt lk_M_319 io_M_partAt so_M_partAt (by decide) rfl rfl rfl (Nat.le_of_ble_eq_true rfl) rfl g2 (WM.mono h ?_)
  rintro _ σ1 ⟨v1, rfl, hp, h⟩
  obtain ⟨hF2, h⟩ := h
  show WP E m_M_swap (d + 1) 143 [(0, aP 42), (1, aI x1), (2, aI x2), (3, aI x3), (4, aI x4), (5, aI x5)] [aI v1] σ1 Q
  refine s_istore d_M_swap_143 (by decide) rfl ?_
  refine s_aload_n 1 d_M_swap_145 rfl rfl ?_
  refine s_aload_n 1 d_M_swap_146 rfl rfl ?_
  refine s_getF (v := 50) d_M_swap_147 fl_M_35 rfl (sf_42 hF2) (ff_35 hF2) ?_
  refine s_iload 0 d_M_swap_150 rfl ?_
  refine s_aload_n 1 d_M_swap_152 rfl rfl ?_
  refine s_getF (v := 54) d_M_swap_153 fl_M_47 rfl (sf_42 hF2) (ff_39 hF2) ?_
  refine s_iload 0 d_M_swap_156 rfl ?_
  obtain ⟨g3, h⟩ := h
  refine s_ialoadv (v := σ1.1 54 v1) d_M_swap_158 ⟨_, sf_54 hF2, g3.1, g3.2, by have := g3.2; omega⟩ rfl ?_
  refine s_callV (as := [aP 50, aI v1, aI (σ1.1 54 v1)]) (ci := 10) d_M_swap_159 ok_M_addsAll lk_M_300 io_M_addsAll so_M_addsAll (by decide) rfl rfl rfl (Nat.le_of_ble_eq_true rfl) rfl (sf_42 hF2) (WM.mono h ?_)
  rintro _ σ4 ⟨rfl, hp, h⟩
  show WP E m_M_swap (d + 1) 162 [(6, aI v1), (0, aP 42), (1, aI x1), (2, aI x2), (3, aI x3), (4, aI x4), (5, aI x5)] [] σ4 Q
  refine s_iinc 6 d_M_swap_162 rfl (by decide) rfl ?_
  refine s_goto d_M_swap_165 rfl ?_
  refine wp_drop [2, 3, 4, 5, 6, 0] rfl ?_
  exact h
theorem d_M_partAt_0 : decode m_M_partAt.2.1 0 = .ok (.iconst 1, 1) := by decide +kernel
theorem d_M_partAt_1 : decode m_M_partAt.2.1 1 = .ok (.istore_n 2, 1) := by decide +kernel
theorem d_M_partAt_2 : decode m_M_partAt.2.1 2 = .ok (.iconst 0, 1) := by decide +kernel
theorem d_M_partAt_3 : decode m_M_partAt.2.1 3 = .ok (.istore_n 3, 1) := by decide +kernel
theorem d_M_partAt_4 : decode m_M_partAt.2.1 4 = .ok (.iload_n 3, 1) := by decide +kernel
theorem d_M_partAt_5 : decode m_M_partAt.2.1 5 = .ok (.iload_n 1, 1) := by decide +kernel
theorem d_M_partAt_6 : decode m_M_partAt.2.1 6 = .ok (.if_icmp .ge 16, 3) := by decide +kernel
theorem d_M_partAt_9 : decode m_M_partAt.2.1 9 = .ok (.aload_n 0, 1) := by decide +kernel
theorem d_M_partAt_10 : decode m_M_partAt.2.1 10 = .ok (.getfield 47, 3) := by decide +kernel
theorem d_M_partAt_13 : decode m_M_partAt.2.1 13 = .ok (.iload_n 2, 1) := by decide +kernel
theorem d_M_partAt_14 : decode m_M_partAt.2.1 14 = .ok (.iaload, 1) := by decide +kernel
theorem d_M_partAt_15 : decode m_M_partAt.2.1 15 = .ok (.istore_n 2, 1) := by decide +kernel
theorem d_M_partAt_16 : decode m_M_partAt.2.1 16 = .ok (.iinc 3 1, 3) := by decide +kernel
theorem d_M_partAt_19 : decode m_M_partAt.2.1 19 = .ok (.goto (-15), 3) := by decide +kernel
theorem d_M_partAt_22 : decode m_M_partAt.2.1 22 = .ok (.iload_n 2, 1) := by decide +kernel
theorem d_M_partAt_23 : decode m_M_partAt.2.1 23 = .ok (.ireturn, 1) := by decide +kernel
theorem b_M_partAt_0 {E : EV} {d : Nat} {Q : Option AV → St → Prop} {σ : St} (x1 : Int) (h : WP E m_M_partAt d 4 [(0, aP 42), (1, aI x1), (2, aI 1), (3, aI 0)] [] σ Q) : WP E m_M_partAt d 0 [(0, aP 42), (1, aI x1)] [] σ Q := by
  refine s_iconst d_M_partAt_0 ?_
  refine s_istore_n d_M_partAt_1 rfl (by decide) rfl ?_
  refine s_iconst d_M_partAt_2 ?_
  refine s_istore_n d_M_partAt_3 rfl (by decide) rfl ?_
  refine wp_drop [2, 3, 1, 0] rfl ?_
  exact h
theorem e_M_partAt {E : EV} {d : Nat} {Q : Option AV → St → Prop} {σ : St} (x1 : Int) (h : WP E m_M_partAt d 4 [(0, aP 42), (1, aI x1), (2, aI 1), (3, aI 0)] [] σ Q) : WM E m_M_partAt d [aP 42, aI x1] σ Q := s_meth (by decide) (Nat.le_of_ble_eq_true rfl) rfl (b_M_partAt_0 x1 h)
theorem b_M_partAt_4 {E : EV} {d : Nat} {Q : Option AV → St → Prop} {σ : St} (x1 x2 x3 : Int) (hF : Fix σ) (h : (rI x3) ∧ (rI x1) ∧ ((x1 ≤ x3 → Q (some (aI x2)) σ) ∧ (¬ x1 ≤ x3 → (0 ≤ x2 ∧ x2 < 24) ∧ WP E m_M_partAt d 4 [(0, aP 42), (1, aI x1), (2, aI (σ.1 54 x2)), (3, aI (x3 + 1))] [] σ Q))) : WP E m_M_partAt d 4 [(0, aP 42), (1, aI x1), (2, aI x2), (3, aI x3)] [] σ Q := by
  refine s_iload_n 3 d_M_partAt_4 rfl rfl ?_
  refine s_iload_n 1 d_M_partAt_5 rfl rfl ?_
  obtain ⟨g1, h⟩ := h
  obtain ⟨g2, h⟩ := h
  refine s_icmp_ge d_M_partAt_6 rfl g1 g2 (fun c => ?_) (fun c => ?_)
  · have h := h.1 c
    refine s_iload_n 2 d_M_partAt_22 rfl rfl ?_
    exact s_ireturn d_M_partAt_23 rfl h
  · have h := h.2 c
    refine s_aload_n 0 d_M_partAt_9 rfl rfl ?_
    refine s_getF (v := 54) d_M_partAt_10 fl_M_47 rfl (sf_42 hF) (ff_39 hF) ?_
    refine s_iload_n 2 d_M_partAt_13 rfl rfl ?_
    obtain ⟨g3, h⟩ := h
    refine s_ialoadv (v := σ.1 54 x2) d_M_partAt_14 ⟨_, sf_54 hF, g3.1, g3.2, by have := g3.2; omega⟩ rfl ?_
    refine s_istore_n d_M_partAt_15 rfl (by decide) rfl ?_
    refine s_iinc 3 d_M_partAt_16 rfl (by decide) rfl ?_
    refine s_goto d_M_partAt_19 rfl ?_
    refine wp_drop [2, 3, 1, 0] rfl ?_
    exact h
theorem d_M_insert_0 : decode m_M_insert.2.1 0 = .ok (.aload_n 0, 1) := by decide +kernel
theorem d_M_insert_1 : decode m_M_insert.2.1 1 = .ok (.iload_n 1, 1) := by decide +kernel
theorem d_M_insert_2 : decode m_M_insert.2.1 2 = .ok (.iload_n 2, 1) := by decide +kernel
theorem d_M_insert_3 : decode m_M_insert.2.1 3 = .ok (.iload_n 3, 1) := by decide +kernel
theorem d_M_insert_4 : decode m_M_insert.2.1 4 = .ok (.invokevirtual 257, 3) := by decide +kernel
theorem d_M_insert_7 : decode m_M_insert.2.1 7 = .ok (.istore 4, 2) := by decide +kernel
theorem d_M_insert_9 : decode m_M_insert.2.1 9 = .ok (.iload 4, 2) := by decide +kernel
theorem d_M_insert_11 : decode m_M_insert.2.1 11 = .ok (.iconst (-1), 1) := by decide +kernel
theorem d_M_insert_12 : decode m_M_insert.2.1 12 = .ok (.if_icmp .eq 44, 3) := by decide +kernel
theorem d_M_insert_15 : decode m_M_insert.2.1 15 = .ok (.aload_n 0, 1) := by decide +kernel
theorem d_M_insert_16 : decode m_M_insert.2.1 16 = .ok (.iload_n 1, 1) := by decide +kernel
theorem d_M_insert_17 : decode m_M_insert.2.1 17 = .ok (.iload_n 2, 1) := by decide +kernel
theorem d_M_insert_18 : decode m_M_insert.2.1 18 = .ok (.iconst 1, 1) := by decide +kernel
theorem d_M_insert_19 : decode m_M_insert.2.1 19 = .ok (.iadd, 1) := by decide +kernel
theorem d_M_insert_20 : decode m_M_insert.2.1 20 = .ok (.invokevirtual 206, 3) := by decide +kernel
theorem d_M_insert_23 : decode m_M_insert.2.1 23 = .ok (.ifCond .eq 33, 3) := by decide +kernel
theorem d_M_insert_26 : decode m_M_insert.2.1 26 = .ok (.aload_n 0, 1) := by decide +kernel
theorem d_M_insert_27 : decode m_M_insert.2.1 27 = .ok (.getfield 35, 3) := by decide +kernel
theorem d_M_insert_30 : decode m_M_insert.2.1 30 = .ok (.iload 4, 2) := by decide +kernel
theorem d_M_insert_32 : decode m_M_insert.2.1 32 = .ok (.iaload, 1) := by decide +kernel
theorem d_M_insert_33 : decode m_M_insert.2.1 33 = .ok (.bipush 100, 2) := by decide +kernel
theorem d_M_insert_35 : decode m_M_insert.2.1 35 = .ok (.if_icmp .ge 21, 3) := by decide +kernel
theorem d_M_insert_38 : decode m_M_insert.2.1 38 = .ok (.aload_n 0, 1) := by decide +kernel
theorem d_M_insert_39 : decode m_M_insert.2.1 39 = .ok (.getfield 20, 3) := by decide +kernel
theorem d_M_insert_42 : decode m_M_insert.2.1 42 = .ok (.aload_n 0, 1) := by decide +kernel
theorem d_M_insert_43 : decode m_M_insert.2.1 43 = .ok (.getfield 35, 3) := by decide +kernel
theorem d_M_insert_46 : decode m_M_insert.2.1 46 = .ok (.iload 4, 2) := by decide +kernel
theorem d_M_insert_48 : decode m_M_insert.2.1 48 = .ok (.iaload, 1) := by decide +kernel
theorem d_M_insert_49 : decode m_M_insert.2.1 49 = .ok (.invokestatic 217, 3) := by decide +kernel
theorem d_M_insert_52 : decode m_M_insert.2.1 52 = .ok (.iaload, 1) := by decide +kernel
theorem d_M_insert_53 : decode m_M_insert.2.1 53 = .ok (.ifCond .ne 5, 3) := by decide +kernel
theorem d_M_insert_56 : decode m_M_insert.2.1 56 = .ok (.iconst 0, 1) := by decide +kernel
theorem d_M_insert_57 : decode m_M_insert.2.1 57 = .ok (.ireturn, 1) := by decide +kernel
theorem d_M_insert_58 : decode m_M_insert.2.1 58 = .ok (.aload_n 0, 1) := by decide +kernel
theorem d_M_insert_59 : decode m_M_insert.2.1 59 = .ok (.iload_n 1, 1) := by decide +kernel
theorem d_M_insert_60 : decode m_M_insert.2.1 60 = .ok (.iload_n 2, 1) := by decide +kernel
theorem d_M_insert_61 : decode m_M_insert.2.1 61 = .ok (.invokevirtual 307, 3) := by decide +kernel
theorem d_M_insert_64 : decode m_M_insert.2.1 64 = .ok (.aload_n 0, 1) := by decide +kernel
theorem d_M_insert_65 : decode m_M_insert.2.1 65 = .ok (.iload_n 1, 1) := by decide +kernel
theorem d_M_insert_66 : decode m_M_insert.2.1 66 = .ok (.iload_n 2, 1) := by decide +kernel
theorem d_M_insert_67 : decode m_M_insert.2.1 67 = .ok (.iconst 1, 1) := by decide +kernel
theorem d_M_insert_68 : decode m_M_insert.2.1 68 = .ok (.iadd, 1) := by decide +kernel
theorem d_M_insert_69 : decode m_M_insert.2.1 69 = .ok (.invokevirtual 307, 3) := by decide +kernel
theorem d_M_insert_72 : decode m_M_insert.2.1 72 = .ok (.iadd, 1) := by decide +kernel
theorem d_M_insert_73 : decode m_M_insert.2.1 73 = .ok (.bipush 10, 2) := by decide +kernel
theorem d_M_insert_75 : decode m_M_insert.2.1 75 = .ok (.if_icmp .le 5, 3) := by decide +kernel
theorem d_M_insert_78 : decode m_M_insert.2.1 78 = .ok (.iconst 0, 1) := by decide +kernel
theorem d_M_insert_79 : decode m_M_insert.2.1 79 = .ok (.ireturn, 1) := by decide +kernel
theorem d_M_insert_80 : decode m_M_insert.2.1 80 = .ok (.iload_n 1, 1) := by decide +kernel
theorem d_M_insert_81 : decode m_M_insert.2.1 81 = .ok (.iload_n 2, 1) := by decide +kernel
theorem d_M_insert_82 : decode m_M_insert.2.1 82 = .ok (.iconst 1, 1) := by decide +kernel
theorem d_M_insert_83 : decode m_M_insert.2.1 83 = .ok (.iadd, 1) := by decide +kernel
theorem d_M_insert_84 : decode m_M_insert.2.1 84 = .ok (.invokestatic 185, 3) := by decide +kernel
theorem d_M_insert_87 : decode m_M_insert.2.1 87 = .ok (.iconst 1, 1) := by decide +kernel
theorem d_M_insert_88 : decode m_M_insert.2.1 88 = .ok (.iadd, 1) := by decide +kernel
theorem d_M_insert_89 : decode m_M_insert.2.1 89 = .ok (.istore 5, 2) := by decide +kernel
theorem d_M_insert_91 : decode m_M_insert.2.1 91 = .ok (.iload 5, 2) := by decide +kernel
theorem d_M_insert_93 : decode m_M_insert.2.1 93 = .ok (.aload_n 0, 1) := by decide +kernel
theorem d_M_insert_94 : decode m_M_insert.2.1 94 = .ok (.getfield 26, 3) := by decide +kernel
theorem d_M_insert_97 : decode m_M_insert.2.1 97 = .ok (.iload 5, 2) := by decide +kernel
theorem d_M_insert_99 : decode m_M_insert.2.1 99 = .ok (.iconst 1, 1) := by decide +kernel
theorem d_M_insert_100 : decode m_M_insert.2.1 100 = .ok (.isub, 1) := by decide +kernel
theorem d_M_insert_101 : decode m_M_insert.2.1 101 = .ok (.iaload, 1) := by decide +kernel
theorem d_M_insert_102 : decode m_M_insert.2.1 102 = .ok (.iadd, 1) := by decide +kernel
theorem d_M_insert_103 : decode m_M_insert.2.1 103 = .ok (.istore 6, 2) := by decide +kernel
theorem d_M_insert_105 : decode m_M_insert.2.1 105 = .ok (.aload_n 0, 1) := by decide +kernel
theorem d_M_insert_106 : decode m_M_insert.2.1 106 = .ok (.getfield 35, 3) := by decide +kernel
theorem d_M_insert_109 : decode m_M_insert.2.1 109 = .ok (.iconst 0, 1) := by decide +kernel
theorem d_M_insert_110 : decode m_M_insert.2.1 110 = .ok (.iload 4, 2) := by decide +kernel
theorem d_M_insert_112 : decode m_M_insert.2.1 112 = .ok (.invokestatic 322, 3) := by decide +kernel
theorem d_M_insert_115 : decode m_M_insert.2.1 115 = .ok (.iconst 1, 1) := by decide +kernel
theorem d_M_insert_116 : decode m_M_insert.2.1 116 = .ok (.iadd, 1) := by decide +kernel
theorem d_M_insert_117 : decode m_M_insert.2.1 117 = .ok (.aload_n 0, 1) := by decide +kernel
theorem d_M_insert_118 : decode m_M_insert.2.1 118 = .ok (.getfield 26, 3) := by decide +kernel
theorem d_M_insert_121 : decode m_M_insert.2.1 121 = .ok (.iload 5, 2) := by decide +kernel
theorem d_M_insert_123 : decode m_M_insert.2.1 123 = .ok (.iload 6, 2) := by decide +kernel
theorem d_M_insert_125 : decode m_M_insert.2.1 125 = .ok (.invokestatic 325, 3) := by decide +kernel
theorem d_M_insert_128 : decode m_M_insert.2.1 128 = .ok (.iadd, 1) := by decide +kernel
theorem d_M_insert_129 : decode m_M_insert.2.1 129 = .ok (.iconst 3, 1) := by decide +kernel
theorem d_M_insert_130 : decode m_M_insert.2.1 130 = .ok (.if_icmp .le 5, 3) := by decide +kernel
theorem d_M_insert_133 : decode m_M_insert.2.1 133 = .ok (.iconst 0, 1) := by decide +kernel
theorem d_M_insert_134 : decode m_M_insert.2.1 134 = .ok (.ireturn, 1) := by decide +kernel
theorem d_M_insert_135 : decode m_M_insert.2.1 135 = .ok (.aload_n 0, 1) := by decide +kernel
theorem d_M_insert_136 : decode m_M_insert.2.1 136 = .ok (.invokevirtual 290, 3) := by decide +kernel
theorem d_M_insert_139 : decode m_M_insert.2.1 139 = .ok (.aload_n 0, 1) := by decide +kernel
theorem d_M_insert_140 : decode m_M_insert.2.1 140 = .ok (.invokevirtual 293, 3) := by decide +kernel
theorem d_M_insert_143 : decode m_M_insert.2.1 143 = .ok (.aload_n 0, 1) := by decide +kernel
theorem d_M_insert_144 : decode m_M_insert.2.1 144 = .ok (.aload_n 0, 1) := by decide +kernel
theorem d_M_insert_145 : decode m_M_insert.2.1 145 = .ok (.getfield 35, 3) := by decide +kernel
theorem d_M_insert_148 : decode m_M_insert.2.1 148 = .ok (.iconst 0, 1) := by decide +kernel
theorem d_M_insert_149 : decode m_M_insert.2.1 149 = .ok (.iload 4, 2) := by decide +kernel
theorem d_M_insert_151 : decode m_M_insert.2.1 151 = .ok (.invokevirtual 300, 3) := by decide +kernel
theorem d_M_insert_154 : decode m_M_insert.2.1 154 = .ok (.aload_n 0, 1) := by decide +kernel
theorem d_M_insert_155 : decode m_M_insert.2.1 155 = .ok (.aload_n 0, 1) := by decide +kernel
theorem d_M_insert_156 : decode m_M_insert.2.1 156 = .ok (.getfield 35, 3) := by decide +kernel
theorem d_M_insert_159 : decode m_M_insert.2.1 159 = .ok (.iload 4, 2) := by decide +kernel
theorem d_M_insert_161 : decode m_M_insert.2.1 161 = .ok (.iaload, 1) := by decide +kernel
theorem d_M_insert_162 : decode m_M_insert.2.1 162 = .ok (.bipush 100, 2) := by decide +kernel
theorem d_M_insert_164 : decode m_M_insert.2.1 164 = .ok (.iadd, 1) := by decide +kernel
theorem d_M_insert_165 : decode m_M_insert.2.1 165 = .ok (.invokevirtual 195, 3) := by decide +kernel
theorem d_M_insert_168 : decode m_M_insert.2.1 168 = .ok (.aload_n 0, 1) := by decide +kernel
theorem d_M_insert_169 : decode m_M_insert.2.1 169 = .ok (.aload_n 0, 1) := by decide +kernel
theorem d_M_insert_170 : decode m_M_insert.2.1 170 = .ok (.getfield 26, 3) := by decide +kernel
theorem d_M_insert_173 : decode m_M_insert.2.1 173 = .ok (.iload 5, 2) := by decide +kernel
theorem d_M_insert_175 : decode m_M_insert.2.1 175 = .ok (.iload 6, 2) := by decide +kernel
theorem d_M_insert_177 : decode m_M_insert.2.1 177 = .ok (.invokevirtual 300, 3) := by decide +kernel
theorem d_M_insert_180 : decode m_M_insert.2.1 180 = .ok (.aload_n 0, 1) := by decide +kernel
theorem d_M_insert_181 : decode m_M_insert.2.1 181 = .ok (.aload_n 0, 1) := by decide +kernel
theorem d_M_insert_182 : decode m_M_insert.2.1 182 = .ok (.getfield 35, 3) := by decide +kernel
theorem d_M_insert_185 : decode m_M_insert.2.1 185 = .ok (.iload 4, 2) := by decide +kernel
theorem d_M_insert_187 : decode m_M_insert.2.1 187 = .ok (.iconst 1, 1) := by decide +kernel
theorem d_M_insert_188 : decode m_M_insert.2.1 188 = .ok (.iadd, 1) := by decide +kernel
theorem d_M_insert_189 : decode m_M_insert.2.1 189 = .ok (.aload_n 0, 1) := by decide +kernel
theorem d_M_insert_190 : decode m_M_insert.2.1 190 = .ok (.getfield 189, 3) := by decide +kernel
theorem d_M_insert_193 : decode m_M_insert.2.1 193 = .ok (.invokevirtual 300, 3) := by decide +kernel
theorem d_M_insert_196 : decode m_M_insert.2.1 196 = .ok (.aload_n 0, 1) := by decide +kernel
theorem d_M_insert_197 : decode m_M_insert.2.1 197 = .ok (.iload_n 1, 1) := by decide +kernel
theorem d_M_insert_198 : decode m_M_insert.2.1 198 = .ok (.iload_n 2, 1) := by decide +kernel
theorem d_M_insert_199 : decode m_M_insert.2.1 199 = .ok (.invokevirtual 304, 3) := by decide +kernel
theorem d_M_insert_202 : decode m_M_insert.2.1 202 = .ok (.aload_n 0, 1) := by decide +kernel
theorem d_M_insert_203 : decode m_M_insert.2.1 203 = .ok (.iload_n 1, 1) := by decide +kernel
theorem d_M_insert_204 : decode m_M_insert.2.1 204 = .ok (.iload_n 2, 1) := by decide +kernel
theorem d_M_insert_205 : decode m_M_insert.2.1 205 = .ok (.iconst 1, 1) := by decide +kernel
theorem d_M_insert_206 : decode m_M_insert.2.1 206 = .ok (.iadd, 1) := by decide +kernel
theorem d_M_insert_207 : decode m_M_insert.2.1 207 = .ok (.invokevirtual 313, 3) := by decide +kernel
theorem d_M_insert_210 : decode m_M_insert.2.1 210 = .ok (.iconst 1, 1) := by decide +kernel
theorem d_M_insert_211 : decode m_M_insert.2.1 211 = .ok (.ireturn, 1) := by decide +kernel
theorem b_M_insert_0 {E : EV} {d : Nat} {Q : Option AV → St → Prop} {σ : St} (x1 x2 x3 : Int) (hF : Fix σ) (h : (WMi E m_M_takesSign d [aP 42, aI x1, aI x2, aI x3] σ (fun v1 σ1 => Fix σ1 ∧ (rI v1) ∧ ((v1 = (-1) → Q (some (aI 0)) σ1) ∧ (¬ v1 = (-1) → (WMi E m_M_isSquare d [aP 42, aI x1, aI (x2 + 1)] σ1 (fun v3 σ3 => Fix σ3 ∧ (rI v3) ∧ ((v3 = 0 → Q (some (aI 0)) σ3) ∧ (¬ v3 = 0 → (0 ≤ v1 ∧ v1 < 24) ∧ (rI (σ3.1 50 v1)) ∧ ((100 ≤ (σ3.1 50 v1) → Q (some (aI 0)) σ3) ∧ (¬ 100 ≤ (σ3.1 50 v1) → (0 ≤ v1 ∧ v1 < 24) ∧ (WMi E m_M_letterOf d [aI (σ3.1 50 v1)] σ3 (fun v8 σ8 => Fix σ8 ∧ (0 ≤ v8 ∧ v8 < 26) ∧ (rI (σ8.1 45 v8)) ∧ ((¬ (σ8.1 45 v8) = 0 → (WMi E m_M_signsOf d [aP 42, aI x1, aI x2] σ8 (fun v11 σ11 => Fix σ11 ∧ (WMi E m_M_signsOf d [aP 42, aI x1, aI (x2 + 1)] σ11 (fun v12 σ12 => Fix σ12 ∧ (rI (v11 + v12)) ∧ (((v11 + v12) ≤ 10 → (WMi E m_M_placeOf d [aI x1, aI (x2 + 1)] σ12 (fun v14 σ14 => Fix σ14 ∧ (0 ≤ ((v14 + 1) - 1) ∧ ((v14 + 1) - 1) < 683) ∧ (WMi E m_M_around d [aP 50, aI 0, aI v1] σ14 (fun v16 σ16 => Fix σ16 ∧ (WMi E m_M_deepIn d [aP 47, aI (v14 + 1), aI ((v14 + 1) + (σ14.1 47 ((v14 + 1) - 1)))] σ16 (fun v17 σ17 => Fix σ17 ∧ (rI ((v16 + 1) + v17)) ∧ ((((v16 + 1) + v17) ≤ 3 → (WMv E m_M_keeps d [aP 42] σ17 (fun σ19 => Fix σ19 ∧ (WMv E m_M_opens d [aP 42] σ19 (fun σ20 => Fix σ20 ∧ (WMv E m_M_addsAll d [aP 42, aP 50, aI 0, aI v1] σ20 (fun σ21 => Fix σ21 ∧ (0 ≤ v1 ∧ v1 < 24) ∧ (WMv E m_M_adds d [aP 42, aI ((σ21.1 50 v1) + 100)] σ21 (fun σ23 => Fix σ23 ∧ (WMv E m_M_addsAll d [aP 42, aP 47, aI (v14 + 1), aI ((v14 + 1) + (σ14.1 47 ((v14 + 1) - 1)))] σ23 (fun σ24 => Fix σ24 ∧ (WMv E m_M_addsAll d [aP 42, aP 50, aI (v1 + 1), aI (σ24.1 42 10)] σ24 (fun σ25 => Fix σ25 ∧ (WMv E m_M_lays d [aP 42, aI x1, aI x2] σ25 (fun σ26 => Fix σ26 ∧ (WMv E m_M_removes d [aP 42, aI x1, aI (x2 + 1)] σ26 (fun σ27 => Q (some (aI 1)) σ27))))))))))))))))) ∧ (¬ ((v16 + 1) + v17) ≤ 3 → Q (some (aI 0)) σ17))))))))) ∧ (¬ (v11 + v12) ≤ 10 → Q (some (aI 0)) σ12))))))) ∧ ((σ8.1 45 v8) = 0 → Q (some (aI 0)) σ8))))))))))))))) : WP E m_M_insert (d + 1) 0 [(0, aP 42), (1, aI x1), (2, aI x2), (3, aI x3)] [] σ Q := by
  refine s_aload_n 0 d_M_insert_0 rfl rfl ?_
  refine s_iload_n 1 d_M_insert_1 rfl rfl ?_
  refine s_iload_n 2 d_M_insert_2 rfl rfl ?_
  refine s_iload_n 3 d_M_insert_3 rfl rfl ?_
  refine s_callV (as := [aI x1, aI x2, aI x3]) (ci := 10) d_M_insert_4 ok_M_takesSign lk_M_257 io_M_takesSign so_M_takesSign (by decide) rfl rfl rfl (Nat.le_of_ble_eq_true rfl) rfl (sf_42 hF) (WM.mono h ?_)
  rintro _ σ1 ⟨v1, rfl, hp, h⟩
  obtain ⟨hF1, h⟩ := h
  show WP E m_M_insert (d + 1) 7 [(0, aP 42), (1, aI x1), (2, aI x2), (3, aI x3)] [aI v1] σ1 Q
  refine s_istore d_M_insert_7 (by decide) rfl ?_
  refine s_iload 0 d_M_insert_9 rfl ?_
  refine s_iconst d_M_insert_11 ?_
  obtain ⟨g2, h⟩ := h
  refine s_icmp_eq d_M_insert_12 rfl g2 (by decide) (fun c => ?_) (fun c => ?_)
  · have h := h.1 c
    refine s_iconst d_M_insert_56 ?_
    exact s_zreturn d_M_insert_57 rfl (by decide) h
  · have h := h.2 c
    refine s_aload_n 1 d_M_insert_15 rfl rfl ?_
    refine s_iload_n 2 d_M_insert_16 rfl rfl ?_
    refine s_iload_n 3 d_M_insert_17 rfl rfl ?_
    refine s_iconst d_M_insert_18 ?_
    refine s_iadd d_M_insert_19 ?_
    refine s_callV (as := [aI x1, aI (x2 + 1)]) (ci := 10) d_M_insert_20 ok_M_isSquare lk_M_206 io_M_isSquare so_M_isSquare (by decide) rfl rfl rfl (Nat.le_of_ble_eq_true rfl) rfl (sf_42 hF1) (WM.mono h ?_)
    rintro _ σ3 ⟨v3, rfl, hp, h⟩
    obtain ⟨hF3, h⟩ := h
    show WP E m_M_insert (d + 1) 23 [(4, aI v1), (0, aP 42), (1, aI x1), (2, aI x2), (3, aI x3)] [aI v3] σ3 Q
    obtain ⟨g4, h⟩ := h
    refine s_if_eq d_M_insert_23 rfl g4 (fun c => ?_) (fun c => ?_)
    · have h := h.1 c
      refine s_iconst d_M_insert_56 ?_
      exact s_zreturn d_M_insert_57 rfl (by decide) h
    · have h := h.2 c
      refine s_aload_n 1 d_M_insert_26 rfl rfl ?_
      refine s_getF (v := 50) d_M_insert_27 fl_M_35 rfl (sf_42 hF3) (ff_35 hF3) ?_
      refine s_iload 0 d_M_insert_30 rfl ?_
      obtain ⟨g5, h⟩ := h
      refine s_ialoadv (v := σ3.1 50 v1) d_M_insert_32 ⟨_, sf_50 hF3, g5.1, g5.2, by have := g5.2; omega⟩ rfl ?_
      refine s_bipush d_M_insert_33 (by decide) ?_
      obtain ⟨g6, h⟩ := h
      refine s_icmp_ge d_M_insert_35 rfl g6 (by decide) (fun c => ?_) (fun c => ?_)
      · have h := h.1 c
        refine s_iconst d_M_insert_56 ?_
        exact s_zreturn d_M_insert_57 rfl (by decide) h
      · have h := h.2 c
        refine s_aload_n 1 d_M_insert_38 rfl rfl ?_
        refine s_getF (v := 45) d_M_insert_39 fl_M_20 rfl (sf_42 hF3) (ff_30 hF3) ?_
        refine s_aload_n 1 d_M_insert_42 rfl rfl ?_
        refine s_getF (v := 50) d_M_insert_43 fl_M_35 rfl (sf_42 hF3) (ff_35 hF3) ?_
        refine s_iload 0 d_M_insert_46 rfl ?_
        obtain ⟨g7, h⟩ := h
        refine s_ialoadv (v := σ3.1 50 v1) d_M_insert_48 ⟨_, sf_50 hF3, g7.1, g7.2, by have := g7.2; omega⟩ rfl ?_
        refine s_callS (as := [aI (σ3.1 50 v1)]) d_M_insert_49 ok_M_letterOf lk_M_217 to_M_letterOf rfl (Nat.le_of_ble_eq_true rfl) rfl (WM.mono h ?_)
        rintro _ σ8 ⟨v8, rfl, hp, h⟩
        obtain ⟨hF8, h⟩ := h
        show WP E m_M_insert (d + 1) 52 [(4, aI v1), (0, aP 42), (1, aI x1), (2, aI x2), (3, aI x3)] [aI v8, aP 45] σ8 Q
        obtain ⟨g9, h⟩ := h
        refine s_ialoadv (v := σ8.1 45 v8) d_M_insert_52 ⟨_, sf_45 hF8, g9.1, g9.2, by have := g9.2; omega⟩ rfl ?_
        obtain ⟨g10, h⟩ := h
        refine s_if_ne d_M_insert_53 rfl g10 (fun c => ?_) (fun c => ?_)
        · have h := h.1 c
          refine s_aload_n 1 d_M_insert_58 rfl rfl ?_
          refine s_iload_n 2 d_M_insert_59 rfl rfl ?_
          refine s_iload_n 3 d_M_insert_60 rfl rfl ?_
          refine s_callV (as := [aI x1, aI x2]) (ci := 10) d_M_insert_61 ok_M_signsOf lk_M_307 io_M_signsOf so_M_signsOf (by decide) rfl rfl rfl (Nat.le_of_ble_eq_true rfl) rfl (sf_42 hF8) (WM.mono h ?_)
          rintro _ σ11 ⟨v11, rfl, hp, h⟩
          obtain ⟨hF11, h⟩ := h
          show WP E m_M_insert (d + 1) 64 [(4, aI v1), (0, aP 42), (1, aI x1), (2, aI x2), (3, aI x3)] [aI v11] σ11 Q
          refine s_aload_n 1 d_M_insert_64 rfl rfl ?_
          refine s_iload_n 2 d_M_insert_65 rfl rfl ?_
          refine s_iload_n 3 d_M_insert_66 rfl rfl ?_
          refine s_iconst d_M_insert_67 ?_
          refine s_iadd d_M_insert_68 ?_
          refine s_callV (as := [aI x1, aI (x2 + 1)]) (ci := 10) d_M_insert_69 ok_M_signsOf lk_M_307 io_M_signsOf so_M_signsOf (by decide) rfl rfl rfl (Nat.le_of_ble_eq_true rfl) rfl (sf_42 hF11) (WM.mono h ?_)
          rintro _ σ12 ⟨v12, rfl, hp, h⟩
          obtain ⟨hF12, h⟩ := h
          show WP E m_M_insert (d + 1) 72 [(4, aI v1), (0, aP 42), (1, aI x1), (2, aI x2), (3, aI x3)] [aI v12, aI v11] σ12 Q
          refine s_iadd d_M_insert_72 ?_
          refine s_bipush d_M_insert_73 (by decide) ?_
          obtain ⟨g13, h⟩ := h
          refine s_icmp_le d_M_insert_75 rfl g13 (by decide) (fun c => ?_) (fun c => ?_)
          · have h := h.1 c
            refine s_iload_n 2 d_M_insert_80 rfl rfl ?_
            refine s_iload_n 3 d_M_insert_81 rfl rfl ?_
            refine s_iconst d_M_insert_82 ?_
            refine s_iadd d_M_insert_83 ?_
            refine s_callS (as := [aI x1, aI (x2 + 1)]) d_M_insert_84 ok_M_placeOf lk_M_185 to_M_placeOf rfl (Nat.le_of_ble_eq_true rfl) rfl (WM.mono h ?_)
            rintro _ σ14 ⟨v14, rfl, hp, h⟩
            obtain ⟨hF14, h⟩ := h
            show WP E m_M_insert (d + 1) 87 [(4, aI v1), (0, aP 42), (1, aI x1), (2, aI x2), (3, aI x3)] [aI v14] σ14 Q
            refine s_iconst d_M_insert_87 ?_
            refine s_iadd d_M_insert_88 ?_
            refine s_istore d_M_insert_89 (by decide) rfl ?_
            refine s_iload 0 d_M_insert_91 rfl ?_
            refine s_aload_n 2 d_M_insert_93 rfl rfl ?_
            refine s_getF (v := 47) d_M_insert_94 fl_M_26 rfl (sf_42 hF14) (ff_32 hF14) ?_
            refine s_iload 0 d_M_insert_97 rfl ?_
            refine s_iconst d_M_insert_99 ?_
            refine s_isub d_M_insert_100 ?_
            obtain ⟨g15, h⟩ := h
            refine s_ialoadv (v := σ14.1 47 ((v14 + 1) - 1)) d_M_insert_101 ⟨_, sf_47 hF14, g15.1, g15.2, by have := g15.2; omega⟩ rfl ?_
            refine s_iadd d_M_insert_102 ?_
            refine s_istore d_M_insert_103 (by decide) rfl ?_
            refine s_aload_n 3 d_M_insert_105 rfl rfl ?_
            refine s_getF (v := 50) d_M_insert_106 fl_M_35 rfl (sf_42 hF14) (ff_35 hF14) ?_
            refine s_iconst d_M_insert_109 ?_
            refine s_iload 2 d_M_insert_110 rfl ?_
            refine s_callS (as := [aP 50, aI 0, aI v1]) d_M_insert_112 ok_M_around lk_M_322 to_M_around rfl (Nat.le_of_ble_eq_true rfl) rfl (WM.mono h ?_)
            rintro _ σ16 ⟨v16, rfl, hp, h⟩
            obtain ⟨hF16, h⟩ := h
            show WP E m_M_insert (d + 1) 115 [(6, aI ((v14 + 1) + (σ14.1 47 ((v14 + 1) - 1)))), (5, aI (v14 + 1)), (4, aI v1), (0, aP 42), (1, aI x1), (2, aI x2), (3, aI x3)] [aI v16] σ16 Q
            refine s_iconst d_M_insert_115 ?_
            refine s_iadd d_M_insert_116 ?_
            refine s_aload_n 3 d_M_insert_117 rfl rfl ?_
            refine s_getF (v := 47) d_M_insert_118 fl_M_26 rfl (sf_42 hF16) (ff_32 hF16) ?_
            refine s_iload 1 d_M_insert_121 rfl ?_
            refine s_iload 0 d_M_insert_123 rfl ?_
            refine s_callS (as := [aP 47, aI (v14 + 1), aI ((v14 + 1) + (σ14.1 47 ((v14 + 1) - 1)))]) d_M_insert_125 ok_M_deepIn lk_M_325 to_M_deepIn rfl (Nat.le_of_ble_eq_true rfl) rfl (WM.mono h ?_)
            rintro _ σ17 ⟨v17, rfl, hp, h⟩
            obtain ⟨hF17, h⟩ := h
            show WP E m_M_insert (d + 1) 128 [(6, aI ((v14 + 1) + (σ14.1 47 ((v14 + 1) - 1)))), (5, aI (v14 + 1)), (4, aI v1), (0, aP 42), (1, aI x1), (2, aI x2), (3, aI x3)] [aI v17, aI (v16 + 1)] σ17 Q
            refine s_iadd d_M_insert_128 ?_
            refine s_iconst d_M_insert_129 ?_
            obtain ⟨g18, h⟩ := h
            refine s_icmp_le d_M_insert_130 rfl g18 (by decide) (fun c => ?_) (fun c => ?_)
            · have h := h.1 c
              refine s_aload_n 3 d_M_insert_135 rfl rfl ?_
              refine s_callV (as := []) (ci := 10) d_M_insert_136 ok_M_keeps lk_M_290 io_M_keeps so_M_keeps (by decide) rfl rfl rfl (Nat.le_of_ble_eq_true rfl) rfl (sf_42 hF17) (WM.mono h ?_)
              rintro _ σ19 ⟨rfl, hp, h⟩
              obtain ⟨hF19, h⟩ := h
              show WP E m_M_insert (d + 1) 139 [(6, aI ((v14 + 1) + (σ14.1 47 ((v14 + 1) - 1)))), (5, aI (v14 + 1)), (4, aI v1), (0, aP 42), (1, aI x1), (2, aI x2), (3, aI x3)] [] σ19 Q
              refine s_aload_n 3 d_M_insert_139 rfl rfl ?_
              refine s_callV (as := []) (ci := 10) d_M_insert_140 ok_M_opens lk_M_293 io_M_opens so_M_opens (by decide) rfl rfl rfl (Nat.le_of_ble_eq_true rfl) rfl (sf_42 hF19) (WM.mono h ?_)
              rintro _ σ20 ⟨rfl, hp, h⟩
              obtain ⟨hF20, h⟩ := h
              show WP E m_M_insert (d + 1) 143 [(6, aI ((v14 + 1) + (σ14.1 47 ((v14 + 1) - 1)))), (5, aI (v14 + 1)), (4, aI v1), (0, aP 42), (1, aI x1), (2, aI x2), (3, aI x3)] [] σ20 Q
              refine s_aload_n 3 d_M_insert_143 rfl rfl ?_
              refine s_aload_n 3 d_M_insert_144 rfl rfl ?_
              refine s_getF (v := 50) d_M_insert_145 fl_M_35 rfl (sf_42 hF20) (ff_35 hF20) ?_
              refine s_iconst d_M_insert_148 ?_
              refine s_iload 2 d_M_insert_149 rfl ?_
              refine s_callV (as := [aP 50, aI 0, aI v1]) (ci := 10) d_M_insert_151 ok_M_addsAll lk_M_300 io_M_addsAll so_M_addsAll (by decide) rfl rfl rfl (Nat.le_of_ble_eq_true rfl) rfl (sf_42 hF20) (WM.mono h ?_)
              rintro _ σ21 ⟨rfl, hp, h⟩
              obtain ⟨hF21, h⟩ := h
              show WP E m_M_insert (d + 1) 154 [(6, aI ((v14 + 1) + (σ14.1 47 ((v14 + 1) - 1)))), (5, aI (v14 + 1)), (4, aI v1), (0, aP 42), (1, aI x1), (2, aI x2), (3, aI x3)] [] σ21 Q
              refine s_aload_n 3 d_M_insert_154 rfl rfl ?_
              refine s_aload_n 3 d_M_insert_155 rfl rfl ?_
              refine s_getF (v := 50) d_M_insert_156 fl_M_35 rfl (sf_42 hF21) (ff_35 hF21) ?_
              refine s_iload 2 d_M_insert_159 rfl ?_
              obtain ⟨g22, h⟩ := h
              refine s_ialoadv (v := σ21.1 50 v1) d_M_insert_161 ⟨_, sf_50 hF21, g22.1, g22.2, by have := g22.2; omega⟩ rfl ?_
              refine s_bipush d_M_insert_162 (by decide) ?_
              refine s_iadd d_M_insert_164 ?_
              refine s_callV (as := [aI ((σ21.1 50 v1) + 100)]) (ci := 10) d_M_insert_165 ok_M_adds lk_M_195 io_M_adds so_M_adds (by decide) rfl rfl rfl (Nat.le_of_ble_eq_true rfl) rfl (sf_42 hF21) (WM.mono h ?_)
              rintro _ σ23 ⟨rfl, hp, h⟩
              obtain ⟨hF23, h⟩ := h
              show WP E m_M_insert (d + 1) 168 [(6, aI ((v14 + 1) + (σ14.1 47 ((v14 + 1) - 1)))), (5, aI (v14 + 1)), (4, aI v1), (0, aP 42), (1, aI x1), (2, aI x2), (3, aI x3)] [] σ23 Q
              refine s_aload_n 3 d_M_insert_168 rfl rfl ?_
              refine s_aload_n 3 d_M_insert_169 rfl rfl ?_
              refine s_getF (v := 47) d_M_insert_170 fl_M_26 rfl (sf_42 hF23) (ff_32 hF23) ?_
              refine s_iload 1 d_M_insert_173 rfl ?_
              refine s_iload 0 d_M_insert_175 rfl ?_
              refine s_callV (as := [aP 47, aI (v14 + 1), aI ((v14 + 1) + (σ14.1 47 ((v14 + 1) - 1)))]) (ci := 10) d_M_insert_177 ok_M_addsAll lk_M_300 io_M_addsAll so_M_addsAll (by decide) rfl rfl rfl (Nat.le_of_ble_eq_true rfl) rfl (sf_42 hF23) (WM.mono h ?_)
              rintro _ σ24 ⟨rfl, hp, h⟩
              obtain ⟨hF24, h⟩ := h
              show WP E m_M_insert (d + 1) 180 [(6, aI ((v14 + 1) + (σ14.1 47 ((v14 + 1) - 1)))), (5, aI (v14 + 1)), (4, aI v1), (0, aP 42), (1, aI x1), (2, aI x2), (3, aI x3)] [] σ24 Q
              refine s_aload_n 3 d_M_insert_180 rfl rfl ?_
              refine s_aload_n 3 d_M_insert_181 rfl rfl ?_
              refine s_getF (v := 50) d_M_insert_182 fl_M_35 rfl (sf_42 hF24) (ff_35 hF24) ?_
              refine s_iload 2 d_M_insert_185 rfl ?_
              refine s_iconst d_M_insert_187 ?_
              refine s_iadd d_M_insert_188 ?_
              refine s_aload_n 3 d_M_insert_189 rfl rfl ?_
              refine s_getF (v := σ24.1 42 10) d_M_insert_190 fl_M_189 rfl (sf_42 hF24) rfl ?_
              refine s_callV (as := [aP 50, aI (v1 + 1), aI (σ24.1 42 10)]) (ci := 10) d_M_insert_193 ok_M_addsAll lk_M_300 io_M_addsAll so_M_addsAll (by decide) rfl rfl rfl (Nat.le_of_ble_eq_true rfl) rfl (sf_42 hF24) (WM.mono h ?_)
              rintro _ σ25 ⟨rfl, hp, h⟩
              obtain ⟨hF25, h⟩ := h
              show WP E m_M_insert (d + 1) 196 [(6, aI ((v14 + 1) + (σ14.1 47 ((v14 + 1) - 1)))), (5, aI (v14 + 1)), (4, aI v1), (0, aP 42), (1, aI x1), (2, aI x2), (3, aI x3)] [] σ25 Q
              refine s_aload_n 3 d_M_insert_196 rfl rfl ?_
              refine s_iload_n 4 d_M_insert_197 rfl rfl ?_
              refine s_iload_n 5 d_M_insert_198 rfl rfl ?_
              refine s_callV (as := [aI x1, aI x2]) (ci := 10) d_M_insert_199 ok_M_lays lk_M_304 io_M_lays so_M_lays (by decide) rfl rfl rfl (Nat.le_of_ble_eq_true rfl) rfl (sf_42 hF25) (WM.mono h ?_)
              rintro _ σ26 ⟨rfl, hp, h⟩
              obtain ⟨hF26, h⟩ := h
              show WP E m_M_insert (d + 1) 202 [(6, aI ((v14 + 1) + (σ14.1 47 ((v14 + 1) - 1)))), (5, aI (v14 + 1)), (4, aI v1), (0, aP 42), (1, aI x1), (2, aI x2), (3, aI x3)] [] σ26 Q
              refine s_aload_n 3 d_M_insert_202 rfl rfl ?_
              refine s_iload_n 4 d_M_insert_203 rfl rfl ?_
              refine s_iload_n 5 d_M_insert_204 rfl rfl ?_
              refine s_iconst d_M_insert_205 ?_
              refine s_iadd d_M_insert_206 ?_
              refine s_callV (as := [aI x1, aI (x2 + 1)]) (ci := 10) d_M_insert_207 ok_M_removes lk_M_313 io_M_removes so_M_removes (by decide) rfl rfl rfl (Nat.le_of_ble_eq_true rfl) rfl (sf_42 hF26) (WM.mono h ?_)
              rintro _ σ27 ⟨rfl, hp, h⟩
              show WP E m_M_insert (d + 1) 210 [(6, aI ((v14 + 1) + (σ14.1 47 ((v14 + 1) - 1)))), (5, aI (v14 + 1)), (4, aI v1), (0, aP 42), (1, aI x1), (2, aI x2), (3, aI x3)] [] σ27 Q
              refine s_iconst d_M_insert_210 ?_
              exact s_zreturn d_M_insert_211 rfl (by decide) h
            · have h := h.2 c
              refine s_iconst d_M_insert_133 ?_
              exact s_zreturn d_M_insert_134 rfl (by decide) h
          · have h := h.2 c
            refine s_iconst d_M_insert_78 ?_
            exact s_zreturn d_M_insert_79 rfl (by decide) h
        · have h := h.2 c
          refine s_iconst d_M_insert_56 ?_
          exact s_zreturn d_M_insert_57 rfl (by decide) h
theorem e_M_insert {E : EV} {d : Nat} {Q : Option AV → St → Prop} {σ : St} (x1 x2 x3 : Int) (hF : Fix σ) (h : (WMi E m_M_takesSign d [aP 42, aI x1, aI x2, aI x3] σ (fun v1 σ1 => Fix σ1 ∧ (rI v1) ∧ ((v1 = (-1) → Q (some (aI 0)) σ1) ∧ (¬ v1 = (-1) → (WMi E m_M_isSquare d [aP 42, aI x1, aI (x2 + 1)] σ1 (fun v3 σ3 => Fix σ3 ∧ (rI v3) ∧ ((v3 = 0 → Q (some (aI 0)) σ3) ∧ (¬ v3 = 0 → (0 ≤ v1 ∧ v1 < 24) ∧ (rI (σ3.1 50 v1)) ∧ ((100 ≤ (σ3.1 50 v1) → Q (some (aI 0)) σ3) ∧ (¬ 100 ≤ (σ3.1 50 v1) → (0 ≤ v1 ∧ v1 < 24) ∧ (WMi E m_M_letterOf d [aI (σ3.1 50 v1)] σ3 (fun v8 σ8 => Fix σ8 ∧ (0 ≤ v8 ∧ v8 < 26) ∧ (rI (σ8.1 45 v8)) ∧ ((¬ (σ8.1 45 v8) = 0 → (WMi E m_M_signsOf d [aP 42, aI x1, aI x2] σ8 (fun v11 σ11 => Fix σ11 ∧ (WMi E m_M_signsOf d [aP 42, aI x1, aI (x2 + 1)] σ11 (fun v12 σ12 => Fix σ12 ∧ (rI (v11 + v12)) ∧ (((v11 + v12) ≤ 10 → (WMi E m_M_placeOf d [aI x1, aI (x2 + 1)] σ12 (fun v14 σ14 => Fix σ14 ∧ (0 ≤ ((v14 + 1) - 1) ∧ ((v14 + 1) - 1) < 683) ∧ (WMi E m_M_around d [aP 50, aI 0, aI v1] σ14 (fun v16 σ16 => Fix σ16 ∧ (WMi E m_M_deepIn d [aP 47, aI (v14 + 1), aI ((v14 + 1) + (σ14.1 47 ((v14 + 1) - 1)))] σ16 (fun v17 σ17 => Fix σ17 ∧ (rI ((v16 + 1) + v17)) ∧ ((((v16 + 1) + v17) ≤ 3 → (WMv E m_M_keeps d [aP 42] σ17 (fun σ19 => Fix σ19 ∧ (WMv E m_M_opens d [aP 42] σ19 (fun σ20 => Fix σ20 ∧ (WMv E m_M_addsAll d [aP 42, aP 50, aI 0, aI v1] σ20 (fun σ21 => Fix σ21 ∧ (0 ≤ v1 ∧ v1 < 24) ∧ (WMv E m_M_adds d [aP 42, aI ((σ21.1 50 v1) + 100)] σ21 (fun σ23 => Fix σ23 ∧ (WMv E m_M_addsAll d [aP 42, aP 47, aI (v14 + 1), aI ((v14 + 1) + (σ14.1 47 ((v14 + 1) - 1)))] σ23 (fun σ24 => Fix σ24 ∧ (WMv E m_M_addsAll d [aP 42, aP 50, aI (v1 + 1), aI (σ24.1 42 10)] σ24 (fun σ25 => Fix σ25 ∧ (WMv E m_M_lays d [aP 42, aI x1, aI x2] σ25 (fun σ26 => Fix σ26 ∧ (WMv E m_M_removes d [aP 42, aI x1, aI (x2 + 1)] σ26 (fun σ27 => Q (some (aI 1)) σ27))))))))))))))))) ∧ (¬ ((v16 + 1) + v17) ≤ 3 → Q (some (aI 0)) σ17))))))))) ∧ (¬ (v11 + v12) ≤ 10 → Q (some (aI 0)) σ12))))))) ∧ ((σ8.1 45 v8) = 0 → Q (some (aI 0)) σ8))))))))))))))) : WM E m_M_insert (d + 1) [aP 42, aI x1, aI x2, aI x3] σ Q := s_meth (by decide) (Nat.le_of_ble_eq_true rfl) rfl (b_M_insert_0 x1 x2 x3 hF h)
theorem d_M_around_0 : decode m_M_around.2.1 0 = .ok (.iconst 0, 1) := by decide +kernel
theorem d_M_around_1 : decode m_M_around.2.1 1 = .ok (.istore_n 3, 1) := by decide +kernel
theorem d_M_around_2 : decode m_M_around.2.1 2 = .ok (.iload_n 1, 1) := by decide +kernel
theorem d_M_around_3 : decode m_M_around.2.1 3 = .ok (.istore 4, 2) := by decide +kernel
theorem d_M_around_5 : decode m_M_around.2.1 5 = .ok (.iload 4, 2) := by decide +kernel
theorem d_M_around_7 : decode m_M_around.2.1 7 = .ok (.iload_n 2, 1) := by decide +kernel
theorem d_M_around_8 : decode m_M_around.2.1 8 = .ok (.if_icmp .ge 37, 3) := by decide +kernel
theorem d_M_around_11 : decode m_M_around.2.1 11 = .ok (.aload_n 0, 1) := by decide +kernel
theorem d_M_around_12 : decode m_M_around.2.1 12 = .ok (.iload 4, 2) := by decide +kernel
theorem d_M_around_14 : decode m_M_around.2.1 14 = .ok (.iaload, 1) := by decide +kernel
theorem d_M_around_15 : decode m_M_around.2.1 15 = .ok (.bipush 100, 2) := by decide +kernel
theorem d_M_around_17 : decode m_M_around.2.1 17 = .ok (.sipush 199, 3) := by decide +kernel
theorem d_M_around_20 : decode m_M_around.2.1 20 = .ok (.invokestatic 167, 3) := by decide +kernel
theorem d_M_around_23 : decode m_M_around.2.1 23 = .ok (.ifCond .eq 16, 3) := by decide +kernel
theorem d_M_around_26 : decode m_M_around.2.1 26 = .ok (.aload_n 0, 1) := by decide +kernel
theorem d_M_around_27 : decode m_M_around.2.1 27 = .ok (.iload 4, 2) := by decide +kernel
theorem d_M_around_29 : decode m_M_around.2.1 29 = .ok (.invokestatic 296, 3) := by decide +kernel
theorem d_M_around_32 : decode m_M_around.2.1 32 = .ok (.iload_n 2, 1) := by decide +kernel
theorem d_M_around_33 : decode m_M_around.2.1 33 = .ok (.if_icmp .le 6, 3) := by decide +kernel
theorem d_M_around_36 : decode m_M_around.2.1 36 = .ok (.iinc 3 1, 3) := by decide +kernel
theorem d_M_around_39 : decode m_M_around.2.1 39 = .ok (.iinc 4 1, 3) := by decide +kernel
theorem d_M_around_42 : decode m_M_around.2.1 42 = .ok (.goto (-37), 3) := by decide +kernel
theorem d_M_around_45 : decode m_M_around.2.1 45 = .ok (.iload_n 3, 1) := by decide +kernel
theorem d_M_around_46 : decode m_M_around.2.1 46 = .ok (.ireturn, 1) := by decide +kernel
theorem b_M_around_0 {E : EV} {d : Nat} {Q : Option AV → St → Prop} {σ : St} (x0 x1 x2 : Int) (h : WP E m_M_around (d + 1) 5 [(0, aP x0), (2, aI x2), (3, aI 0), (4, aI x1)] [] σ Q) : WP E m_M_around (d + 1) 0 [(0, aP x0), (1, aI x1), (2, aI x2)] [] σ Q := by
  refine s_iconst d_M_around_0 ?_
  refine s_istore_n d_M_around_1 rfl (by decide) rfl ?_
  refine s_iload_n 2 d_M_around_2 rfl rfl ?_
  refine s_istore d_M_around_3 (by decide) rfl ?_
  refine wp_drop [2, 4, 1, 0] rfl ?_
  exact h
theorem e_M_around {E : EV} {d : Nat} {Q : Option AV → St → Prop} {σ : St} (x0 x1 x2 : Int) (h : WP E m_M_around (d + 1) 5 [(0, aP x0), (2, aI x2), (3, aI 0), (4, aI x1)] [] σ Q) : WM E m_M_around (d + 1) [aP x0, aI x1, aI x2] σ Q := s_meth (by decide) (Nat.le_of_ble_eq_true rfl) rfl (b_M_around_0 x0 x1 x2 h)
theorem b_M_around_5 {E : EV} {d : Nat} {Q : Option AV → St → Prop} {σ : St} (x0 x2 x3 x4 : Int) (h : (rI x4) ∧ (rI x2) ∧ ((x2 ≤ x4 → Q (some (aI x3)) σ) ∧ (¬ x2 ≤ x4 → (inb σ x0 20 x4) ∧ (WMi E m_M_in d [aI (σ.1 x0 x4), aI 100, aI 199] σ (fun v4 σ4 => (rI v4) ∧ ((v4 = 0 → WP E m_M_around (d + 1) 39 [(0, aP x0), (2, aI x2), (3, aI x3), (4, aI x4)] [] σ4 Q) ∧ (¬ v4 = 0 → (WMi E m_M_endOf d [aP x0, aI x4] σ4 (fun v6 σ6 => (rI v6) ∧ (rI x2) ∧ ((v6 ≤ x2 → WP E m_M_around (d + 1) 39 [(0, aP x0), (2, aI x2), (3, aI x3), (4, aI x4)] [] σ6 Q) ∧ (¬ v6 ≤ x2 → WP E m_M_around (d + 1) 39 [(0, aP x0), (2, aI x2), (3, aI (x3 + 1)), (4, aI x4)] [] σ6 Q))))))))))) : WP E m_M_around (d + 1) 5 [(0, aP x0), (2, aI x2), (3, aI x3), (4, aI x4)] [] σ Q := by
  refine s_iload 3 d_M_around_5 rfl ?_
  refine s_iload_n 1 d_M_around_7 rfl rfl ?_
  obtain ⟨g1, h⟩ := h
  obtain ⟨g2, h⟩ := h
  refine s_icmp_ge d_M_around_8 rfl g1 g2 (fun c => ?_) (fun c => ?_)
  · have h := h.1 c
    refine s_iload_n 2 d_M_around_45 rfl rfl ?_
    exact s_ireturn d_M_around_46 rfl h
  · have h := h.2 c
    refine s_aload_n 0 d_M_around_11 rfl rfl ?_
    refine s_iload 3 d_M_around_12 rfl ?_
    obtain ⟨g3, h⟩ := h
    refine s_ialoadv (v := σ.1 x0 x4) d_M_around_14 g3 rfl ?_
    refine s_bipush d_M_around_15 (by decide) ?_
    refine s_sipush d_M_around_17 (by decide) ?_
    refine s_callS (as := [aI (σ.1 x0 x4), aI 100, aI 199]) d_M_around_20 ok_M_in lk_M_167 to_M_in rfl (Nat.le_of_ble_eq_true rfl) rfl (WM.mono h ?_)
    rintro _ σ4 ⟨v4, rfl, hp, h⟩
    show WP E m_M_around (d + 1) 23 [(0, aP x0), (2, aI x2), (3, aI x3), (4, aI x4)] [aI v4] σ4 Q
    obtain ⟨g5, h⟩ := h
    refine s_if_eq d_M_around_23 rfl g5 (fun c => ?_) (fun c => ?_)
    · have h := h.1 c
      exact h
    · have h := h.2 c
      refine s_aload_n 0 d_M_around_26 rfl rfl ?_
      refine s_iload 3 d_M_around_27 rfl ?_
      refine s_callS (as := [aP x0, aI x4]) d_M_around_29 ok_M_endOf lk_M_296 to_M_endOf rfl (Nat.le_of_ble_eq_true rfl) rfl (WM.mono h ?_)
      rintro _ σ6 ⟨v6, rfl, hp, h⟩
      show WP E m_M_around (d + 1) 32 [(0, aP x0), (2, aI x2), (3, aI x3), (4, aI x4)] [aI v6] σ6 Q
      refine s_iload_n 1 d_M_around_32 rfl rfl ?_
      obtain ⟨g7, h⟩ := h
      obtain ⟨g8, h⟩ := h
      refine s_icmp_le d_M_around_33 rfl g7 g8 (fun c => ?_) (fun c => ?_)
      · have h := h.1 c
        exact h
      · have h := h.2 c
        refine s_iinc 2 d_M_around_36 rfl (by decide) rfl ?_
        refine wp_drop [1, 2, 0, 3] rfl ?_
        exact h
theorem b_M_around_39 {E : EV} {d : Nat} {Q : Option AV → St → Prop} {σ : St} (x0 x2 x3 x4 : Int) (h : WP E m_M_around (d + 1) 5 [(0, aP x0), (2, aI x2), (3, aI x3), (4, aI (x4 + 1))] [] σ Q) : WP E m_M_around (d + 1) 39 [(0, aP x0), (2, aI x2), (3, aI x3), (4, aI x4)] [] σ Q := by
  refine s_iinc 3 d_M_around_39 rfl (by decide) rfl ?_
  refine s_goto d_M_around_42 rfl ?_
  refine wp_drop [1, 2, 3, 0] rfl ?_
  exact h
theorem d_M_deepIn_0 : decode m_M_deepIn.2.1 0 = .ok (.iconst 0, 1) := by decide +kernel
theorem d_M_deepIn_1 : decode m_M_deepIn.2.1 1 = .ok (.istore_n 3, 1) := by decide +kernel
theorem d_M_deepIn_2 : decode m_M_deepIn.2.1 2 = .ok (.iload_n 1, 1) := by decide +kernel
theorem d_M_deepIn_3 : decode m_M_deepIn.2.1 3 = .ok (.istore 4, 2) := by decide +kernel
theorem d_M_deepIn_5 : decode m_M_deepIn.2.1 5 = .ok (.iload 4, 2) := by decide +kernel
theorem d_M_deepIn_7 : decode m_M_deepIn.2.1 7 = .ok (.iload_n 2, 1) := by decide +kernel
theorem d_M_deepIn_8 : decode m_M_deepIn.2.1 8 = .ok (.if_icmp .ge 27, 3) := by decide +kernel
theorem d_M_deepIn_11 : decode m_M_deepIn.2.1 11 = .ok (.aload_n 0, 1) := by decide +kernel
theorem d_M_deepIn_12 : decode m_M_deepIn.2.1 12 = .ok (.iload_n 1, 1) := by decide +kernel
theorem d_M_deepIn_13 : decode m_M_deepIn.2.1 13 = .ok (.iload 4, 2) := by decide +kernel
theorem d_M_deepIn_15 : decode m_M_deepIn.2.1 15 = .ok (.invokestatic 322, 3) := by decide +kernel
theorem d_M_deepIn_18 : decode m_M_deepIn.2.1 18 = .ok (.istore 5, 2) := by decide +kernel
theorem d_M_deepIn_20 : decode m_M_deepIn.2.1 20 = .ok (.iload 5, 2) := by decide +kernel
theorem d_M_deepIn_22 : decode m_M_deepIn.2.1 22 = .ok (.iload_n 3, 1) := by decide +kernel
theorem d_M_deepIn_23 : decode m_M_deepIn.2.1 23 = .ok (.if_icmp .le 6, 3) := by decide +kernel
theorem d_M_deepIn_26 : decode m_M_deepIn.2.1 26 = .ok (.iload 5, 2) := by decide +kernel
theorem d_M_deepIn_28 : decode m_M_deepIn.2.1 28 = .ok (.istore_n 3, 1) := by decide +kernel
theorem d_M_deepIn_29 : decode m_M_deepIn.2.1 29 = .ok (.iinc 4 1, 3) := by decide +kernel
theorem d_M_deepIn_32 : decode m_M_deepIn.2.1 32 = .ok (.goto (-27), 3) := by decide +kernel
theorem d_M_deepIn_35 : decode m_M_deepIn.2.1 35 = .ok (.iload_n 3, 1) := by decide +kernel
theorem d_M_deepIn_36 : decode m_M_deepIn.2.1 36 = .ok (.ireturn, 1) := by decide +kernel
theorem b_M_deepIn_0 {E : EV} {d : Nat} {Q : Option AV → St → Prop} {σ : St} (x0 x1 x2 : Int) (h : WP E m_M_deepIn (d + 1) 5 [(0, aP x0), (1, aI x1), (2, aI x2), (3, aI 0), (4, aI x1)] [] σ Q) : WP E m_M_deepIn (d + 1) 0 [(0, aP x0), (1, aI x1), (2, aI x2)] [] σ Q := by
  refine s_iconst d_M_deepIn_0 ?_
  refine s_istore_n d_M_deepIn_1 rfl (by decide) rfl ?_
  refine s_iload_n 2 d_M_deepIn_2 rfl rfl ?_
  refine s_istore d_M_deepIn_3 (by decide) rfl ?_
  refine wp_drop [2, 3, 4, 1, 0] rfl ?_
  exact h
theorem e_M_deepIn {E : EV} {d : Nat} {Q : Option AV → St → Prop} {σ : St} (x0 x1 x2 : Int) (h : WP E m_M_deepIn (d + 1) 5 [(0, aP x0), (1, aI x1), (2, aI x2), (3, aI 0), (4, aI x1)] [] σ Q) : WM E m_M_deepIn (d + 1) [aP x0, aI x1, aI x2] σ Q := s_meth (by decide) (Nat.le_of_ble_eq_true rfl) rfl (b_M_deepIn_0 x0 x1 x2 h)
theorem b_M_deepIn_5 {E : EV} {d : Nat} {Q : Option AV → St → Prop} {σ : St} (x0 x1 x2 x3 x4 : Int) (h : (rI x4) ∧ (rI x2) ∧ ((x2 ≤ x4 → Q (some (aI x3)) σ) ∧ (¬ x2 ≤ x4 → (WMi E m_M_around d [aP x0, aI x1, aI x4] σ (fun v3 σ3 => (rI v3) ∧ (rI x3) ∧ ((v3 ≤ x3 → WP E m_M_deepIn (d + 1) 29 [(0, aP x0), (1, aI x1), (2, aI x2), (3, aI x3), (4, aI x4)] [] σ3 Q) ∧ (¬ v3 ≤ x3 → WP E m_M_deepIn (d + 1) 29 [(0, aP x0), (1, aI x1), (2, aI x2), (3, aI v3), (4, aI x4)] [] σ3 Q))))))) : WP E m_M_deepIn (d + 1) 5 [(0, aP x0), (1, aI x1), (2, aI x2), (3, aI x3), (4, aI x4)] [] σ Q := by
  refine s_iload 4 d_M_deepIn_5 rfl ?_
  refine s_iload_n 2 d_M_deepIn_7 rfl rfl ?_
  obtain ⟨g1, h⟩ := h
  obtain ⟨g2, h⟩ := h
  refine s_icmp_ge d_M_deepIn_8 rfl g1 g2 (fun c => ?_) (fun c => ?_)
  · have h := h.1 c
    refine s_iload_n 3 d_M_deepIn_35 rfl rfl ?_
    exact s_ireturn d_M_deepIn_36 rfl h
  · have h := h.2 c
    refine s_aload_n 0 d_M_deepIn_11 rfl rfl ?_
    refine s_iload_n 1 d_M_deepIn_12 rfl rfl ?_
    refine s_iload 4 d_M_deepIn_13 rfl ?_
    refine s_callS (as := [aP x0, aI x1, aI x4]) d_M_deepIn_15 ok_M_around lk_M_322 to_M_around rfl (Nat.le_of_ble_eq_true rfl) rfl (WM.mono h ?_)
    rintro _ σ3 ⟨v3, rfl, hp, h⟩
    show WP E m_M_deepIn (d + 1) 18 [(0, aP x0), (1, aI x1), (2, aI x2), (3, aI x3), (4, aI x4)] [aI v3] σ3 Q
    refine s_istore d_M_deepIn_18 (by decide) rfl ?_
    refine s_iload 0 d_M_deepIn_20 rfl ?_
    refine s_iload_n 4 d_M_deepIn_22 rfl rfl ?_
    obtain ⟨g4, h⟩ := h
    obtain ⟨g5, h⟩ := h
    refine s_icmp_le d_M_deepIn_23 rfl g4 g5 (fun c => ?_) (fun c => ?_)
    · have h := h.1 c
      refine wp_drop [1, 2, 3, 4, 5] rfl ?_
      exact h
    · have h := h.2 c
      refine s_iload 0 d_M_deepIn_26 rfl ?_
      refine s_istore_n d_M_deepIn_28 rfl (by decide) rfl ?_
      refine wp_drop [2, 3, 4, 0, 5] rfl ?_
      exact h
theorem b_M_deepIn_29 {E : EV} {d : Nat} {Q : Option AV → St → Prop} {σ : St} (x0 x1 x2 x3 x4 : Int) (h : WP E m_M_deepIn (d + 1) 5 [(0, aP x0), (1, aI x1), (2, aI x2), (3, aI x3), (4, aI (x4 + 1))] [] σ Q) : WP E m_M_deepIn (d + 1) 29 [(0, aP x0), (1, aI x1), (2, aI x2), (3, aI x3), (4, aI x4)] [] σ Q := by
  refine s_iinc 4 d_M_deepIn_29 rfl (by decide) rfl ?_
  refine s_goto d_M_deepIn_32 rfl ?_
  refine wp_drop [1, 2, 3, 4, 0] rfl ?_
  exact h
theorem d_M_release_0 : decode m_M_release.2.1 0 = .ok (.aload_n 0, 1) := by decide +kernel
theorem d_M_release_1 : decode m_M_release.2.1 1 = .ok (.iload_n 1, 1) := by decide +kernel
theorem d_M_release_2 : decode m_M_release.2.1 2 = .ok (.iload_n 2, 1) := by decide +kernel
theorem d_M_release_3 : decode m_M_release.2.1 3 = .ok (.iload_n 3, 1) := by decide +kernel
theorem d_M_release_4 : decode m_M_release.2.1 4 = .ok (.invokevirtual 257, 3) := by decide +kernel
theorem d_M_release_7 : decode m_M_release.2.1 7 = .ok (.istore 4, 2) := by decide +kernel
theorem d_M_release_9 : decode m_M_release.2.1 9 = .ok (.iload 4, 2) := by decide +kernel
theorem d_M_release_11 : decode m_M_release.2.1 11 = .ok (.iconst (-1), 1) := by decide +kernel
theorem d_M_release_12 : decode m_M_release.2.1 12 = .ok (.if_icmp .eq 25, 3) := by decide +kernel
theorem d_M_release_15 : decode m_M_release.2.1 15 = .ok (.aload_n 0, 1) := by decide +kernel
theorem d_M_release_16 : decode m_M_release.2.1 16 = .ok (.getfield 35, 3) := by decide +kernel
theorem d_M_release_19 : decode m_M_release.2.1 19 = .ok (.iload 4, 2) := by decide +kernel
theorem d_M_release_21 : decode m_M_release.2.1 21 = .ok (.iaload, 1) := by decide +kernel
theorem d_M_release_22 : decode m_M_release.2.1 22 = .ok (.bipush 100, 2) := by decide +kernel
theorem d_M_release_24 : decode m_M_release.2.1 24 = .ok (.if_icmp .lt 13, 3) := by decide +kernel
theorem d_M_release_27 : decode m_M_release.2.1 27 = .ok (.aload_n 0, 1) := by decide +kernel
theorem d_M_release_28 : decode m_M_release.2.1 28 = .ok (.iload_n 1, 1) := by decide +kernel
theorem d_M_release_29 : decode m_M_release.2.1 29 = .ok (.invokevirtual 178, 3) := by decide +kernel
theorem d_M_release_32 : decode m_M_release.2.1 32 = .ok (.bipush 8, 2) := by decide +kernel
theorem d_M_release_34 : decode m_M_release.2.1 34 = .ok (.if_icmp .ne 5, 3) := by decide +kernel
theorem d_M_release_37 : decode m_M_release.2.1 37 = .ok (.iconst 0, 1) := by decide +kernel
theorem d_M_release_38 : decode m_M_release.2.1 38 = .ok (.ireturn, 1) := by decide +kernel
theorem d_M_release_39 : decode m_M_release.2.1 39 = .ok (.aload_n 0, 1) := by decide +kernel
theorem d_M_release_40 : decode m_M_release.2.1 40 = .ok (.invokevirtual 290, 3) := by decide +kernel
theorem d_M_release_43 : decode m_M_release.2.1 43 = .ok (.aload_n 0, 1) := by decide +kernel
theorem d_M_release_44 : decode m_M_release.2.1 44 = .ok (.iload_n 1, 1) := by decide +kernel
theorem d_M_release_45 : decode m_M_release.2.1 45 = .ok (.iload_n 2, 1) := by decide +kernel
theorem d_M_release_46 : decode m_M_release.2.1 46 = .ok (.iconst 1, 1) := by decide +kernel
theorem d_M_release_47 : decode m_M_release.2.1 47 = .ok (.iadd, 1) := by decide +kernel
theorem d_M_release_48 : decode m_M_release.2.1 48 = .ok (.invokevirtual 316, 3) := by decide +kernel
theorem d_M_release_51 : decode m_M_release.2.1 51 = .ok (.aload_n 0, 1) := by decide +kernel
theorem d_M_release_52 : decode m_M_release.2.1 52 = .ok (.getfield 35, 3) := by decide +kernel
theorem d_M_release_55 : decode m_M_release.2.1 55 = .ok (.iload 4, 2) := by decide +kernel
theorem d_M_release_57 : decode m_M_release.2.1 57 = .ok (.invokestatic 296, 3) := by decide +kernel
theorem d_M_release_60 : decode m_M_release.2.1 60 = .ok (.istore 5, 2) := by decide +kernel
theorem d_M_release_62 : decode m_M_release.2.1 62 = .ok (.aload_n 0, 1) := by decide +kernel
theorem d_M_release_63 : decode m_M_release.2.1 63 = .ok (.invokevirtual 293, 3) := by decide +kernel
theorem d_M_release_66 : decode m_M_release.2.1 66 = .ok (.aload_n 0, 1) := by decide +kernel
theorem d_M_release_67 : decode m_M_release.2.1 67 = .ok (.aload_n 0, 1) := by decide +kernel
theorem d_M_release_68 : decode m_M_release.2.1 68 = .ok (.getfield 35, 3) := by decide +kernel
theorem d_M_release_71 : decode m_M_release.2.1 71 = .ok (.iload 4, 2) := by decide +kernel
theorem d_M_release_73 : decode m_M_release.2.1 73 = .ok (.iconst 1, 1) := by decide +kernel
theorem d_M_release_74 : decode m_M_release.2.1 74 = .ok (.iadd, 1) := by decide +kernel
theorem d_M_release_75 : decode m_M_release.2.1 75 = .ok (.iload 5, 2) := by decide +kernel
theorem d_M_release_77 : decode m_M_release.2.1 77 = .ok (.invokevirtual 300, 3) := by decide +kernel
theorem d_M_release_80 : decode m_M_release.2.1 80 = .ok (.aload_n 0, 1) := by decide +kernel
theorem d_M_release_81 : decode m_M_release.2.1 81 = .ok (.iload_n 1, 1) := by decide +kernel
theorem d_M_release_82 : decode m_M_release.2.1 82 = .ok (.iload_n 2, 1) := by decide +kernel
theorem d_M_release_83 : decode m_M_release.2.1 83 = .ok (.iconst 1, 1) := by decide +kernel
theorem d_M_release_84 : decode m_M_release.2.1 84 = .ok (.iadd, 1) := by decide +kernel
theorem d_M_release_85 : decode m_M_release.2.1 85 = .ok (.invokevirtual 304, 3) := by decide +kernel
theorem d_M_release_88 : decode m_M_release.2.1 88 = .ok (.aload_n 0, 1) := by decide +kernel
theorem d_M_release_89 : decode m_M_release.2.1 89 = .ok (.invokevirtual 293, 3) := by decide +kernel
theorem d_M_release_92 : decode m_M_release.2.1 92 = .ok (.aload_n 0, 1) := by decide +kernel
theorem d_M_release_93 : decode m_M_release.2.1 93 = .ok (.aload_n 0, 1) := by decide +kernel
theorem d_M_release_94 : decode m_M_release.2.1 94 = .ok (.getfield 35, 3) := by decide +kernel
theorem d_M_release_97 : decode m_M_release.2.1 97 = .ok (.iconst 0, 1) := by decide +kernel
theorem d_M_release_98 : decode m_M_release.2.1 98 = .ok (.iload 4, 2) := by decide +kernel
theorem d_M_release_100 : decode m_M_release.2.1 100 = .ok (.invokevirtual 300, 3) := by decide +kernel
theorem d_M_release_103 : decode m_M_release.2.1 103 = .ok (.aload_n 0, 1) := by decide +kernel
theorem d_M_release_104 : decode m_M_release.2.1 104 = .ok (.aload_n 0, 1) := by decide +kernel
theorem d_M_release_105 : decode m_M_release.2.1 105 = .ok (.getfield 35, 3) := by decide +kernel
theorem d_M_release_108 : decode m_M_release.2.1 108 = .ok (.iload 4, 2) := by decide +kernel
theorem d_M_release_110 : decode m_M_release.2.1 110 = .ok (.iaload, 1) := by decide +kernel
theorem d_M_release_111 : decode m_M_release.2.1 111 = .ok (.bipush 100, 2) := by decide +kernel
theorem d_M_release_113 : decode m_M_release.2.1 113 = .ok (.isub, 1) := by decide +kernel
theorem d_M_release_114 : decode m_M_release.2.1 114 = .ok (.invokevirtual 195, 3) := by decide +kernel
theorem d_M_release_117 : decode m_M_release.2.1 117 = .ok (.aload_n 0, 1) := by decide +kernel
theorem d_M_release_118 : decode m_M_release.2.1 118 = .ok (.aload_n 0, 1) := by decide +kernel
theorem d_M_release_119 : decode m_M_release.2.1 119 = .ok (.getfield 35, 3) := by decide +kernel
theorem d_M_release_122 : decode m_M_release.2.1 122 = .ok (.iload 5, 2) := by decide +kernel
theorem d_M_release_124 : decode m_M_release.2.1 124 = .ok (.aload_n 0, 1) := by decide +kernel
theorem d_M_release_125 : decode m_M_release.2.1 125 = .ok (.getfield 189, 3) := by decide +kernel
theorem d_M_release_128 : decode m_M_release.2.1 128 = .ok (.invokevirtual 300, 3) := by decide +kernel
theorem d_M_release_131 : decode m_M_release.2.1 131 = .ok (.aload_n 0, 1) := by decide +kernel
theorem d_M_release_132 : decode m_M_release.2.1 132 = .ok (.iload_n 1, 1) := by decide +kernel
theorem d_M_release_133 : decode m_M_release.2.1 133 = .ok (.iload_n 2, 1) := by decide +kernel
theorem d_M_release_134 : decode m_M_release.2.1 134 = .ok (.invokevirtual 304, 3) := by decide +kernel
theorem d_M_release_137 : decode m_M_release.2.1 137 = .ok (.iconst 1, 1) := by decide +kernel
theorem d_M_release_138 : decode m_M_release.2.1 138 = .ok (.ireturn, 1) := by decide +kernel
theorem b_M_release_0 {E : EV} {d : Nat} {Q : Option AV → St → Prop} {σ : St} (x1 x2 x3 : Int) (hF : Fix σ) (h : (WMi E m_M_takesSign d [aP 42, aI x1, aI x2, aI x3] σ (fun v1 σ1 => Fix σ1 ∧ (rI v1) ∧ ((v1 = (-1) → Q (some (aI 0)) σ1) ∧ (¬ v1 = (-1) → (0 ≤ v1 ∧ v1 < 24) ∧ (rI (σ1.1 50 v1)) ∧ (((σ1.1 50 v1) < 100 → Q (some (aI 0)) σ1) ∧ (¬ (σ1.1 50 v1) < 100 → (WMi E m_M_squaresOf d [aP 42, aI x1] σ1 (fun v5 σ5 => Fix σ5 ∧ (rI v5) ∧ ((¬ v5 = 8 → (WMv E m_M_keeps d [aP 42] σ5 (fun σ7 => Fix σ7 ∧ (WMv E m_M_makesRoom d [aP 42, aI x1, aI (x2 + 1)] σ7 (fun σ8 => Fix σ8 ∧ (WMi E m_M_endOf d [aP 50, aI v1] σ8 (fun v9 σ9 => Fix σ9 ∧ (WMv E m_M_opens d [aP 42] σ9 (fun σ10 => Fix σ10 ∧ (WMv E m_M_addsAll d [aP 42, aP 50, aI (v1 + 1), aI v9] σ10 (fun σ11 => Fix σ11 ∧ (WMv E m_M_lays d [aP 42, aI x1, aI (x2 + 1)] σ11 (fun σ12 => Fix σ12 ∧ (WMv E m_M_opens d [aP 42] σ12 (fun σ13 => Fix σ13 ∧ (WMv E m_M_addsAll d [aP 42, aP 50, aI 0, aI v1] σ13 (fun σ14 => Fix σ14 ∧ (0 ≤ v1 ∧ v1 < 24) ∧ (WMv E m_M_adds d [aP 42, aI ((σ14.1 50 v1) - 100)] σ14 (fun σ16 => Fix σ16 ∧ (WMv E m_M_addsAll d [aP 42, aP 50, aI v9, aI (σ16.1 42 10)] σ16 (fun σ17 => Fix σ17 ∧ (WMv E m_M_lays d [aP 42, aI x1, aI x2] σ17 (fun σ18 => Q (some (aI 1)) σ18))))))))))))))))))))))) ∧ (v5 = 8 → Q (some (aI 0)) σ5))))))))))) : WP E m_M_release (d + 1) 0 [(0, aP 42), (1, aI x1), (2, aI x2), (3, aI x3)] [] σ Q := by
  refine s_aload_n 0 d_M_release_0 rfl rfl ?_
  refine s_iload_n 1 d_M_release_1 rfl rfl ?_
  refine s_iload_n 2 d_M_release_2 rfl rfl ?_
  refine s_iload_n 3 d_M_release_3 rfl rfl ?_
  refine s_callV (as := [aI x1, aI x2, aI x3]) (ci := 10) d_M_release_4 ok_M_takesSign lk_M_257 io_M_takesSign so_M_takesSign (by decide) rfl rfl rfl (Nat.le_of_ble_eq_true rfl) rfl (sf_42 hF) (WM.mono h ?_)
  rintro _ σ1 ⟨v1, rfl, hp, h⟩
  obtain ⟨hF1, h⟩ := h
  show WP E m_M_release (d + 1) 7 [(0, aP 42), (1, aI x1), (2, aI x2), (3, aI x3)] [aI v1] σ1 Q
  refine s_istore d_M_release_7 (by decide) rfl ?_
  refine s_iload 0 d_M_release_9 rfl ?_
  refine s_iconst d_M_release_11 ?_
  obtain ⟨g2, h⟩ := h
  refine s_icmp_eq d_M_release_12 rfl g2 (by decide) (fun c => ?_) (fun c => ?_)
  · have h := h.1 c
    refine s_iconst d_M_release_37 ?_
    exact s_zreturn d_M_release_38 rfl (by decide) h
  · have h := h.2 c
    refine s_aload_n 1 d_M_release_15 rfl rfl ?_
    refine s_getF (v := 50) d_M_release_16 fl_M_35 rfl (sf_42 hF1) (ff_35 hF1) ?_
    refine s_iload 0 d_M_release_19 rfl ?_
    obtain ⟨g3, h⟩ := h
    refine s_ialoadv (v := σ1.1 50 v1) d_M_release_21 ⟨_, sf_50 hF1, g3.1, g3.2, by have := g3.2; omega⟩ rfl ?_
    refine s_bipush d_M_release_22 (by decide) ?_
    obtain ⟨g4, h⟩ := h
    refine s_icmp_lt d_M_release_24 rfl g4 (by decide) (fun c => ?_) (fun c => ?_)
    · have h := h.1 c
      refine s_iconst d_M_release_37 ?_
      exact s_zreturn d_M_release_38 rfl (by decide) h
    · have h := h.2 c
      refine s_aload_n 1 d_M_release_27 rfl rfl ?_
      refine s_iload_n 2 d_M_release_28 rfl rfl ?_
      refine s_callV (as := [aI x1]) (ci := 10) d_M_release_29 ok_M_squaresOf lk_M_178 io_M_squaresOf so_M_squaresOf (by decide) rfl rfl rfl (Nat.le_of_ble_eq_true rfl) rfl (sf_42 hF1) (WM.mono h ?_)
      rintro _ σ5 ⟨v5, rfl, hp, h⟩
      obtain ⟨hF5, h⟩ := h
      show WP E m_M_release (d + 1) 32 [(4, aI v1), (0, aP 42), (1, aI x1), (2, aI x2), (3, aI x3)] [aI v5] σ5 Q
      refine s_bipush d_M_release_32 (by decide) ?_
      obtain ⟨g6, h⟩ := h
      refine s_icmp_ne d_M_release_34 rfl g6 (by decide) (fun c => ?_) (fun c => ?_)
      · have h := h.1 c
        refine s_aload_n 1 d_M_release_39 rfl rfl ?_
        refine s_callV (as := []) (ci := 10) d_M_release_40 ok_M_keeps lk_M_290 io_M_keeps so_M_keeps (by decide) rfl rfl rfl (Nat.le_of_ble_eq_true rfl) rfl (sf_42 hF5) (WM.mono h ?_)
        rintro _ σ7 ⟨rfl, hp, h⟩
        obtain ⟨hF7, h⟩ := h
        show WP E m_M_release (d + 1) 43 [(4, aI v1), (0, aP 42), (1, aI x1), (2, aI x2), (3, aI x3)] [] σ7 Q
        refine s_aload_n 1 d_M_release_43 rfl rfl ?_
        refine s_iload_n 2 d_M_release_44 rfl rfl ?_
        refine s_iload_n 3 d_M_release_45 rfl rfl ?_
        refine s_iconst d_M_release_46 ?_
        refine s_iadd d_M_release_47 ?_
        refine s_callV (as := [aI x1, aI (x2 + 1)]) (ci := 10) d_M_release_48 ok_M_makesRoom lk_M_316 io_M_makesRoom so_M_makesRoom (by decide) rfl rfl rfl (Nat.le_of_ble_eq_true rfl) rfl (sf_42 hF7) (WM.mono h ?_)
        rintro _ σ8 ⟨rfl, hp, h⟩
        obtain ⟨hF8, h⟩ := h
        show WP E m_M_release (d + 1) 51 [(4, aI v1), (0, aP 42), (1, aI x1), (2, aI x2), (3, aI x3)] [] σ8 Q
        refine s_aload_n 1 d_M_release_51 rfl rfl ?_
        refine s_getF (v := 50) d_M_release_52 fl_M_35 rfl (sf_42 hF8) (ff_35 hF8) ?_
        refine s_iload 0 d_M_release_55 rfl ?_
        refine s_callS (as := [aP 50, aI v1]) d_M_release_57 ok_M_endOf lk_M_296 to_M_endOf rfl (Nat.le_of_ble_eq_true rfl) rfl (WM.mono h ?_)
        rintro _ σ9 ⟨v9, rfl, hp, h⟩
        obtain ⟨hF9, h⟩ := h
        show WP E m_M_release (d + 1) 60 [(4, aI v1), (0, aP 42), (1, aI x1), (2, aI x2), (3, aI x3)] [aI v9] σ9 Q
        refine s_istore d_M_release_60 (by decide) rfl ?_
        refine s_aload_n 2 d_M_release_62 rfl rfl ?_
        refine s_callV (as := []) (ci := 10) d_M_release_63 ok_M_opens lk_M_293 io_M_opens so_M_opens (by decide) rfl rfl rfl (Nat.le_of_ble_eq_true rfl) rfl (sf_42 hF9) (WM.mono h ?_)
        rintro _ σ10 ⟨rfl, hp, h⟩
        obtain ⟨hF10, h⟩ := h
        show WP E m_M_release (d + 1) 66 [(5, aI v9), (4, aI v1), (0, aP 42), (1, aI x1), (2, aI x2), (3, aI x3)] [] σ10 Q
        refine s_aload_n 2 d_M_release_66 rfl rfl ?_
        refine s_aload_n 2 d_M_release_67 rfl rfl ?_
        refine s_getF (v := 50) d_M_release_68 fl_M_35 rfl (sf_42 hF10) (ff_35 hF10) ?_
        refine s_iload 1 d_M_release_71 rfl ?_
        refine s_iconst d_M_release_73 ?_
        refine s_iadd d_M_release_74 ?_
        refine s_iload 0 d_M_release_75 rfl ?_
        refine s_callV (as := [aP 50, aI (v1 + 1), aI v9]) (ci := 10) d_M_release_77 ok_M_addsAll lk_M_300 io_M_addsAll so_M_addsAll (by decide) rfl rfl rfl (Nat.le_of_ble_eq_true rfl) rfl (sf_42 hF10) (WM.mono h ?_)
        rintro _ σ11 ⟨rfl, hp, h⟩
        obtain ⟨hF11, h⟩ := h
        show WP E m_M_release (d + 1) 80 [(5, aI v9), (4, aI v1), (0, aP 42), (1, aI x1), (2, aI x2), (3, aI x3)] [] σ11 Q
        refine s_aload_n 2 d_M_release_80 rfl rfl ?_
        refine s_iload_n 3 d_M_release_81 rfl rfl ?_
        refine s_iload_n 4 d_M_release_82 rfl rfl ?_
        refine s_iconst d_M_release_83 ?_
        refine s_iadd d_M_release_84 ?_
        refine s_callV (as := [aI x1, aI (x2 + 1)]) (ci := 10) d_M_release_85 ok_M_lays lk_M_304 io_M_lays so_M_lays (by decide) rfl rfl rfl (Nat.le_of_ble_eq_true rfl) rfl (sf_42 hF11) (WM.mono h ?_)
        rintro _ σ12 ⟨rfl, hp, h⟩
        obtain ⟨hF12, h⟩ := h
        show WP E m_M_release (d + 1) 88 [(5, aI v9), (4, aI v1), (0, aP 42), (1, aI x1), (2, aI x2), (3, aI x3)] [] σ12 Q
        refine s_aload_n 2 d_M_release_88 rfl rfl ?_
        refine s_callV (as := []) (ci := 10) d_M_release_89 ok_M_opens lk_M_293 io_M_opens so_M_opens (by decide) rfl rfl rfl (Nat.le_of_ble_eq_true rfl) rfl (sf_42 hF12) (WM.mono h ?_)
        rintro _ σ13 ⟨rfl, hp, h⟩
        obtain ⟨hF13, h⟩ := h
        show WP E m_M_release (d + 1) 92 [(5, aI v9), (4, aI v1), (0, aP 42), (1, aI x1), (2, aI x2), (3, aI x3)] [] σ13 Q
        refine s_aload_n 2 d_M_release_92 rfl rfl ?_
        refine s_aload_n 2 d_M_release_93 rfl rfl ?_
        refine s_getF (v := 50) d_M_release_94 fl_M_35 rfl (sf_42 hF13) (ff_35 hF13) ?_
        refine s_iconst d_M_release_97 ?_
        refine s_iload 1 d_M_release_98 rfl ?_
        refine s_callV (as := [aP 50, aI 0, aI v1]) (ci := 10) d_M_release_100 ok_M_addsAll lk_M_300 io_M_addsAll so_M_addsAll (by decide) rfl rfl rfl (Nat.le_of_ble_eq_true rfl) rfl (sf_42 hF13) (WM.mono h ?_)
        rintro _ σ14 ⟨rfl, hp, h⟩
        obtain ⟨hF14, h⟩ := h
        show WP E m_M_release (d + 1) 103 [(5, aI v9), (4, aI v1), (0, aP 42), (1, aI x1), (2, aI x2), (3, aI x3)] [] σ14 Q
        refine s_aload_n 2 d_M_release_103 rfl rfl ?_
        refine s_aload_n 2 d_M_release_104 rfl rfl ?_
        refine s_getF (v := 50) d_M_release_105 fl_M_35 rfl (sf_42 hF14) (ff_35 hF14) ?_
        refine s_iload 1 d_M_release_108 rfl ?_
        obtain ⟨g15, h⟩ := h
        refine s_ialoadv (v := σ14.1 50 v1) d_M_release_110 ⟨_, sf_50 hF14, g15.1, g15.2, by have := g15.2; omega⟩ rfl ?_
        refine s_bipush d_M_release_111 (by decide) ?_
        refine s_isub d_M_release_113 ?_
        refine s_callV (as := [aI ((σ14.1 50 v1) - 100)]) (ci := 10) d_M_release_114 ok_M_adds lk_M_195 io_M_adds so_M_adds (by decide) rfl rfl rfl (Nat.le_of_ble_eq_true rfl) rfl (sf_42 hF14) (WM.mono h ?_)
        rintro _ σ16 ⟨rfl, hp, h⟩
        obtain ⟨hF16, h⟩ := h
        show WP E m_M_release (d + 1) 117 [(5, aI v9), (4, aI v1), (0, aP 42), (1, aI x1), (2, aI x2), (3, aI x3)] [] σ16 Q
        refine s_aload_n 2 d_M_release_117 rfl rfl ?_
        refine s_aload_n 2 d_M_release_118 rfl rfl ?_
        refine s_getF (v := 50) d_M_release_119 fl_M_35 rfl (sf_42 hF16) (ff_35 hF16) ?_
        refine s_iload 0 d_M_release_122 rfl ?_
        refine s_aload_n 2 d_M_release_124 rfl rfl ?_
        refine s_getF (v := σ16.1 42 10) d_M_release_125 fl_M_189 rfl (sf_42 hF16) rfl ?_
        refine s_callV (as := [aP 50, aI v9, aI (σ16.1 42 10)]) (ci := 10) d_M_release_128 ok_M_addsAll lk_M_300 io_M_addsAll so_M_addsAll (by decide) rfl rfl rfl (Nat.le_of_ble_eq_true rfl) rfl (sf_42 hF16) (WM.mono h ?_)
        rintro _ σ17 ⟨rfl, hp, h⟩
        obtain ⟨hF17, h⟩ := h
        show WP E m_M_release (d + 1) 131 [(5, aI v9), (4, aI v1), (0, aP 42), (1, aI x1), (2, aI x2), (3, aI x3)] [] σ17 Q
        refine s_aload_n 2 d_M_release_131 rfl rfl ?_
        refine s_iload_n 3 d_M_release_132 rfl rfl ?_
        refine s_iload_n 4 d_M_release_133 rfl rfl ?_
        refine s_callV (as := [aI x1, aI x2]) (ci := 10) d_M_release_134 ok_M_lays lk_M_304 io_M_lays so_M_lays (by decide) rfl rfl rfl (Nat.le_of_ble_eq_true rfl) rfl (sf_42 hF17) (WM.mono h ?_)
        rintro _ σ18 ⟨rfl, hp, h⟩
        show WP E m_M_release (d + 1) 137 [(5, aI v9), (4, aI v1), (0, aP 42), (1, aI x1), (2, aI x2), (3, aI x3)] [] σ18 Q
        refine s_iconst d_M_release_137 ?_
        exact s_zreturn d_M_release_138 rfl (by decide) h
      · have h := h.2 c
        refine s_iconst d_M_release_37 ?_
        exact s_zreturn d_M_release_38 rfl (by decide) h
theorem e_M_release {E : EV} {d : Nat} {Q : Option AV → St → Prop} {σ : St} (x1 x2 x3 : Int) (hF : Fix σ) (h : (WMi E m_M_takesSign d [aP 42, aI x1, aI x2, aI x3] σ (fun v1 σ1 => Fix σ1 ∧ (rI v1) ∧ ((v1 = (-1) → Q (some (aI 0)) σ1) ∧ (¬ v1 = (-1) → (0 ≤ v1 ∧ v1 < 24) ∧ (rI (σ1.1 50 v1)) ∧ (((σ1.1 50 v1) < 100 → Q (some (aI 0)) σ1) ∧ (¬ (σ1.1 50 v1) < 100 → (WMi E m_M_squaresOf d [aP 42, aI x1] σ1 (fun v5 σ5 => Fix σ5 ∧ (rI v5) ∧ ((¬ v5 = 8 → (WMv E m_M_keeps d [aP 42] σ5 (fun σ7 => Fix σ7 ∧ (WMv E m_M_makesRoom d [aP 42, aI x1, aI (x2 + 1)] σ7 (fun σ8 => Fix σ8 ∧ (WMi E m_M_endOf d [aP 50, aI v1] σ8 (fun v9 σ9 => Fix σ9 ∧ (WMv E m_M_opens d [aP 42] σ9 (fun σ10 => Fix σ10 ∧ (WMv E m_M_addsAll d [aP 42, aP 50, aI (v1 + 1), aI v9] σ10 (fun σ11 => Fix σ11 ∧ (WMv E m_M_lays d [aP 42, aI x1, aI (x2 + 1)] σ11 (fun σ12 => Fix σ12 ∧ (WMv E m_M_opens d [aP 42] σ12 (fun σ13 => Fix σ13 ∧ (WMv E m_M_addsAll d [aP 42, aP 50, aI 0, aI v1] σ13 (fun σ14 => Fix σ14 ∧ (0 ≤ v1 ∧ v1 < 24) ∧ (WMv E m_M_adds d [aP 42, aI ((σ14.1 50 v1) - 100)] σ14 (fun σ16 => Fix σ16 ∧ (WMv E m_M_addsAll d [aP 42, aP 50, aI v9, aI (σ16.1 42 10)] σ16 (fun σ17 => Fix σ17 ∧ (WMv E m_M_lays d [aP 42, aI x1, aI x2] σ17 (fun σ18 => Q (some (aI 1)) σ18))))))))))))))))))))))) ∧ (v5 = 8 → Q (some (aI 0)) σ5))))))))))) : WM E m_M_release (d + 1) [aP 42, aI x1, aI x2, aI x3] σ Q := s_meth (by decide) (Nat.le_of_ble_eq_true rfl) rfl (b_M_release_0 x1 x2 x3 hF h)
theorem d_M_move_0 : decode m_M_move.2.1 0 = .ok (.aload_n 0, 1) := by decide +kernel
theorem d_M_move_1 : decode m_M_move.2.1 1 = .ok (.iload_n 1, 1) := by decide +kernel
theorem d_M_move_2 : decode m_M_move.2.1 2 = .ok (.iload_n 2, 1) := by decide +kernel
theorem d_M_move_3 : decode m_M_move.2.1 3 = .ok (.invokevirtual 206, 3) := by decide +kernel
theorem d_M_move_6 : decode m_M_move.2.1 6 = .ok (.ifCond .eq 17, 3) := by decide +kernel
theorem d_M_move_9 : decode m_M_move.2.1 9 = .ok (.aload_n 0, 1) := by decide +kernel
theorem d_M_move_10 : decode m_M_move.2.1 10 = .ok (.iload_n 1, 1) := by decide +kernel
theorem d_M_move_11 : decode m_M_move.2.1 11 = .ok (.iload_n 3, 1) := by decide +kernel
theorem d_M_move_12 : decode m_M_move.2.1 12 = .ok (.invokevirtual 206, 3) := by decide +kernel
theorem d_M_move_15 : decode m_M_move.2.1 15 = .ok (.ifCond .eq 8, 3) := by decide +kernel
theorem d_M_move_18 : decode m_M_move.2.1 18 = .ok (.iload_n 2, 1) := by decide +kernel
theorem d_M_move_19 : decode m_M_move.2.1 19 = .ok (.iload_n 3, 1) := by decide +kernel
theorem d_M_move_20 : decode m_M_move.2.1 20 = .ok (.if_icmp .ne 5, 3) := by decide +kernel
theorem d_M_move_23 : decode m_M_move.2.1 23 = .ok (.iconst 0, 1) := by decide +kernel
theorem d_M_move_24 : decode m_M_move.2.1 24 = .ok (.ireturn, 1) := by decide +kernel
theorem d_M_move_25 : decode m_M_move.2.1 25 = .ok (.aload_n 0, 1) := by decide +kernel
theorem d_M_move_26 : decode m_M_move.2.1 26 = .ok (.invokevirtual 290, 3) := by decide +kernel
theorem d_M_move_29 : decode m_M_move.2.1 29 = .ok (.aload_n 0, 1) := by decide +kernel
theorem d_M_move_30 : decode m_M_move.2.1 30 = .ok (.iload_n 1, 1) := by decide +kernel
theorem d_M_move_31 : decode m_M_move.2.1 31 = .ok (.iload_n 2, 1) := by decide +kernel
theorem d_M_move_32 : decode m_M_move.2.1 32 = .ok (.invokevirtual 210, 3) := by decide +kernel
theorem d_M_move_35 : decode m_M_move.2.1 35 = .ok (.aload_n 0, 1) := by decide +kernel
theorem d_M_move_36 : decode m_M_move.2.1 36 = .ok (.iload_n 1, 1) := by decide +kernel
theorem d_M_move_37 : decode m_M_move.2.1 37 = .ok (.iload_n 2, 1) := by decide +kernel
theorem d_M_move_38 : decode m_M_move.2.1 38 = .ok (.invokevirtual 313, 3) := by decide +kernel
theorem d_M_move_41 : decode m_M_move.2.1 41 = .ok (.aload_n 0, 1) := by decide +kernel
theorem d_M_move_42 : decode m_M_move.2.1 42 = .ok (.iload_n 1, 1) := by decide +kernel
theorem d_M_move_43 : decode m_M_move.2.1 43 = .ok (.iload_n 3, 1) := by decide +kernel
theorem d_M_move_44 : decode m_M_move.2.1 44 = .ok (.invokevirtual 316, 3) := by decide +kernel
theorem d_M_move_47 : decode m_M_move.2.1 47 = .ok (.aload_n 0, 1) := by decide +kernel
theorem d_M_move_48 : decode m_M_move.2.1 48 = .ok (.invokevirtual 293, 3) := by decide +kernel
theorem d_M_move_51 : decode m_M_move.2.1 51 = .ok (.aload_n 0, 1) := by decide +kernel
theorem d_M_move_52 : decode m_M_move.2.1 52 = .ok (.aload_n 0, 1) := by decide +kernel
theorem d_M_move_53 : decode m_M_move.2.1 53 = .ok (.getfield 35, 3) := by decide +kernel
theorem d_M_move_56 : decode m_M_move.2.1 56 = .ok (.iconst 0, 1) := by decide +kernel
theorem d_M_move_57 : decode m_M_move.2.1 57 = .ok (.aload_n 0, 1) := by decide +kernel
theorem d_M_move_58 : decode m_M_move.2.1 58 = .ok (.getfield 189, 3) := by decide +kernel
theorem d_M_move_61 : decode m_M_move.2.1 61 = .ok (.invokevirtual 300, 3) := by decide +kernel
theorem d_M_move_64 : decode m_M_move.2.1 64 = .ok (.aload_n 0, 1) := by decide +kernel
theorem d_M_move_65 : decode m_M_move.2.1 65 = .ok (.iload_n 1, 1) := by decide +kernel
theorem d_M_move_66 : decode m_M_move.2.1 66 = .ok (.iload_n 3, 1) := by decide +kernel
theorem d_M_move_67 : decode m_M_move.2.1 67 = .ok (.invokevirtual 304, 3) := by decide +kernel
theorem d_M_move_70 : decode m_M_move.2.1 70 = .ok (.iconst 1, 1) := by decide +kernel
theorem d_M_move_71 : decode m_M_move.2.1 71 = .ok (.ireturn, 1) := by decide +kernel
theorem b_M_move_0 {E : EV} {d : Nat} {Q : Option AV → St → Prop} {σ : St} (x1 x2 x3 : Int) (hF : Fix σ) (h : (WMi E m_M_isSquare d [aP 42, aI x1, aI x2] σ (fun v1 σ1 => Fix σ1 ∧ (rI v1) ∧ ((v1 = 0 → Q (some (aI 0)) σ1) ∧ (¬ v1 = 0 → (WMi E m_M_isSquare d [aP 42, aI x1, aI x3] σ1 (fun v3 σ3 => Fix σ3 ∧ (rI v3) ∧ ((v3 = 0 → Q (some (aI 0)) σ3) ∧ (¬ v3 = 0 → (rI x2) ∧ (rI x3) ∧ ((¬ x2 = x3 → (WMv E m_M_keeps d [aP 42] σ3 (fun σ7 => Fix σ7 ∧ (WMv E m_M_takes d [aP 42, aI x1, aI x2] σ7 (fun σ8 => Fix σ8 ∧ (WMv E m_M_removes d [aP 42, aI x1, aI x2] σ8 (fun σ9 => Fix σ9 ∧ (WMv E m_M_makesRoom d [aP 42, aI x1, aI x3] σ9 (fun σ10 => Fix σ10 ∧ (WMv E m_M_opens d [aP 42] σ10 (fun σ11 => Fix σ11 ∧ (WMv E m_M_addsAll d [aP 42, aP 50, aI 0, aI (σ11.1 42 10)] σ11 (fun σ12 => Fix σ12 ∧ (WMv E m_M_lays d [aP 42, aI x1, aI x3] σ12 (fun σ13 => Q (some (aI 1)) σ13))))))))))))))) ∧ (x2 = x3 → Q (some (aI 0)) σ3))))))))))) : WP E m_M_move (d + 1) 0 [(0, aP 42), (1, aI x1), (2, aI x2), (3, aI x3)] [] σ Q := by
  refine s_aload_n 0 d_M_move_0 rfl rfl ?_
  refine s_iload_n 1 d_M_move_1 rfl rfl ?_
  refine s_iload_n 2 d_M_move_2 rfl rfl ?_
  refine s_callV (as := [aI x1, aI x2]) (ci := 10) d_M_move_3 ok_M_isSquare lk_M_206 io_M_isSquare so_M_isSquare (by decide) rfl rfl rfl (Nat.le_of_ble_eq_true rfl) rfl (sf_42 hF) (WM.mono h ?_)
  rintro _ σ1 ⟨v1, rfl, hp, h⟩
  obtain ⟨hF1, h⟩ := h
  show WP E m_M_move (d + 1) 6 [(0, aP 42), (1, aI x1), (2, aI x2), (3, aI x3)] [aI v1] σ1 Q
  obtain ⟨g2, h⟩ := h
  refine s_if_eq d_M_move_6 rfl g2 (fun c => ?_) (fun c => ?_)
  · have h := h.1 c
    refine s_iconst d_M_move_23 ?_
    exact s_zreturn d_M_move_24 rfl (by decide) h
  · have h := h.2 c
    refine s_aload_n 0 d_M_move_9 rfl rfl ?_
    refine s_iload_n 1 d_M_move_10 rfl rfl ?_
    refine s_iload_n 3 d_M_move_11 rfl rfl ?_
    refine s_callV (as := [aI x1, aI x3]) (ci := 10) d_M_move_12 ok_M_isSquare lk_M_206 io_M_isSquare so_M_isSquare (by decide) rfl rfl rfl (Nat.le_of_ble_eq_true rfl) rfl (sf_42 hF1) (WM.mono h ?_)
    rintro _ σ3 ⟨v3, rfl, hp, h⟩
    obtain ⟨hF3, h⟩ := h
    show WP E m_M_move (d + 1) 15 [(0, aP 42), (1, aI x1), (2, aI x2), (3, aI x3)] [aI v3] σ3 Q
    obtain ⟨g4, h⟩ := h
    refine s_if_eq d_M_move_15 rfl g4 (fun c => ?_) (fun c => ?_)
    · have h := h.1 c
      refine s_iconst d_M_move_23 ?_
      exact s_zreturn d_M_move_24 rfl (by decide) h
    · have h := h.2 c
      refine s_iload_n 2 d_M_move_18 rfl rfl ?_
      refine s_iload_n 3 d_M_move_19 rfl rfl ?_
      obtain ⟨g5, h⟩ := h
      obtain ⟨g6, h⟩ := h
      refine s_icmp_ne d_M_move_20 rfl g5 g6 (fun c => ?_) (fun c => ?_)
      · have h := h.1 c
        refine s_aload_n 0 d_M_move_25 rfl rfl ?_
        refine s_callV (as := []) (ci := 10) d_M_move_26 ok_M_keeps lk_M_290 io_M_keeps so_M_keeps (by decide) rfl rfl rfl (Nat.le_of_ble_eq_true rfl) rfl (sf_42 hF3) (WM.mono h ?_)
        rintro _ σ7 ⟨rfl, hp, h⟩
        obtain ⟨hF7, h⟩ := h
        show WP E m_M_move (d + 1) 29 [(0, aP 42), (1, aI x1), (2, aI x2), (3, aI x3)] [] σ7 Q
        refine s_aload_n 0 d_M_move_29 rfl rfl ?_
        refine s_iload_n 1 d_M_move_30 rfl rfl ?_
        refine s_iload_n 2 d_M_move_31 rfl rfl ?_
        refine s_callV (as := [aI x1, aI x2]) (ci := 10) d_M_move_32 ok_M_takes lk_M_210 io_M_takes so_M_takes (by decide) rfl rfl rfl (Nat.le_of_ble_eq_true rfl) rfl (sf_42 hF7) (WM.mono h ?_)
        rintro _ σ8 ⟨rfl, hp, h⟩
        obtain ⟨hF8, h⟩ := h
        show WP E m_M_move (d + 1) 35 [(0, aP 42), (1, aI x1), (2, aI x2), (3, aI x3)] [] σ8 Q
        refine s_aload_n 0 d_M_move_35 rfl rfl ?_
        refine s_iload_n 1 d_M_move_36 rfl rfl ?_
        refine s_iload_n 2 d_M_move_37 rfl rfl ?_
        refine s_callV (as := [aI x1, aI x2]) (ci := 10) d_M_move_38 ok_M_removes lk_M_313 io_M_removes so_M_removes (by decide) rfl rfl rfl (Nat.le_of_ble_eq_true rfl) rfl (sf_42 hF8) (WM.mono h ?_)
        rintro _ σ9 ⟨rfl, hp, h⟩
        obtain ⟨hF9, h⟩ := h
        show WP E m_M_move (d + 1) 41 [(0, aP 42), (1, aI x1), (2, aI x2), (3, aI x3)] [] σ9 Q
        refine s_aload_n 0 d_M_move_41 rfl rfl ?_
        refine s_iload_n 1 d_M_move_42 rfl rfl ?_
        refine s_iload_n 3 d_M_move_43 rfl rfl ?_
        refine s_callV (as := [aI x1, aI x3]) (ci := 10) d_M_move_44 ok_M_makesRoom lk_M_316 io_M_makesRoom so_M_makesRoom (by decide) rfl rfl rfl (Nat.le_of_ble_eq_true rfl) rfl (sf_42 hF9) (WM.mono h ?_)
        rintro _ σ10 ⟨rfl, hp, h⟩
        obtain ⟨hF10, h⟩ := h
        show WP E m_M_move (d + 1) 47 [(0, aP 42), (1, aI x1), (2, aI x2), (3, aI x3)] [] σ10 Q
        refine s_aload_n 0 d_M_move_47 rfl rfl ?_
        refine s_callV (as := []) (ci := 10) d_M_move_48 ok_M_opens lk_M_293 io_M_opens so_M_opens (by decide) rfl rfl rfl (Nat.le_of_ble_eq_true rfl) rfl (sf_42 hF10) (WM.mono h ?_)
        rintro _ σ11 ⟨rfl, hp, h⟩
        obtain ⟨hF11, h⟩ := h
        show WP E m_M_move (d + 1) 51 [(0, aP 42), (1, aI x1), (2, aI x2), (3, aI x3)] [] σ11 Q
        refine s_aload_n 0 d_M_move_51 rfl rfl ?_
        refine s_aload_n 0 d_M_move_52 rfl rfl ?_
        refine s_getF (v := 50) d_M_move_53 fl_M_35 rfl (sf_42 hF11) (ff_35 hF11) ?_
        refine s_iconst d_M_move_56 ?_
        refine s_aload_n 0 d_M_move_57 rfl rfl ?_
        refine s_getF (v := σ11.1 42 10) d_M_move_58 fl_M_189 rfl (sf_42 hF11) rfl ?_
        refine s_callV (as := [aP 50, aI 0, aI (σ11.1 42 10)]) (ci := 10) d_M_move_61 ok_M_addsAll lk_M_300 io_M_addsAll so_M_addsAll (by decide) rfl rfl rfl (Nat.le_of_ble_eq_true rfl) rfl (sf_42 hF11) (WM.mono h ?_)
        rintro _ σ12 ⟨rfl, hp, h⟩
        obtain ⟨hF12, h⟩ := h
        show WP E m_M_move (d + 1) 64 [(0, aP 42), (1, aI x1), (2, aI x2), (3, aI x3)] [] σ12 Q
        refine s_aload_n 0 d_M_move_64 rfl rfl ?_
        refine s_iload_n 1 d_M_move_65 rfl rfl ?_
        refine s_iload_n 3 d_M_move_66 rfl rfl ?_
        refine s_callV (as := [aI x1, aI x3]) (ci := 10) d_M_move_67 ok_M_lays lk_M_304 io_M_lays so_M_lays (by decide) rfl rfl rfl (Nat.le_of_ble_eq_true rfl) rfl (sf_42 hF12) (WM.mono h ?_)
        rintro _ σ13 ⟨rfl, hp, h⟩
        show WP E m_M_move (d + 1) 70 [(0, aP 42), (1, aI x1), (2, aI x2), (3, aI x3)] [] σ13 Q
        refine s_iconst d_M_move_70 ?_
        exact s_zreturn d_M_move_71 rfl (by decide) h
      · have h := h.2 c
        refine s_iconst d_M_move_23 ?_
        exact s_zreturn d_M_move_24 rfl (by decide) h
theorem e_M_move {E : EV} {d : Nat} {Q : Option AV → St → Prop} {σ : St} (x1 x2 x3 : Int) (hF : Fix σ) (h : (WMi E m_M_isSquare d [aP 42, aI x1, aI x2] σ (fun v1 σ1 => Fix σ1 ∧ (rI v1) ∧ ((v1 = 0 → Q (some (aI 0)) σ1) ∧ (¬ v1 = 0 → (WMi E m_M_isSquare d [aP 42, aI x1, aI x3] σ1 (fun v3 σ3 => Fix σ3 ∧ (rI v3) ∧ ((v3 = 0 → Q (some (aI 0)) σ3) ∧ (¬ v3 = 0 → (rI x2) ∧ (rI x3) ∧ ((¬ x2 = x3 → (WMv E m_M_keeps d [aP 42] σ3 (fun σ7 => Fix σ7 ∧ (WMv E m_M_takes d [aP 42, aI x1, aI x2] σ7 (fun σ8 => Fix σ8 ∧ (WMv E m_M_removes d [aP 42, aI x1, aI x2] σ8 (fun σ9 => Fix σ9 ∧ (WMv E m_M_makesRoom d [aP 42, aI x1, aI x3] σ9 (fun σ10 => Fix σ10 ∧ (WMv E m_M_opens d [aP 42] σ10 (fun σ11 => Fix σ11 ∧ (WMv E m_M_addsAll d [aP 42, aP 50, aI 0, aI (σ11.1 42 10)] σ11 (fun σ12 => Fix σ12 ∧ (WMv E m_M_lays d [aP 42, aI x1, aI x3] σ12 (fun σ13 => Q (some (aI 1)) σ13))))))))))))))) ∧ (x2 = x3 → Q (some (aI 0)) σ3))))))))))) : WM E m_M_move (d + 1) [aP 42, aI x1, aI x2, aI x3] σ Q := s_meth (by decide) (Nat.le_of_ble_eq_true rfl) rfl (b_M_move_0 x1 x2 x3 hF h)
theorem d_M_mirror_0 : decode m_M_mirror.2.1 0 = .ok (.aload_n 0, 1) := by decide +kernel
theorem d_M_mirror_1 : decode m_M_mirror.2.1 1 = .ok (.iload_n 1, 1) := by decide +kernel
theorem d_M_mirror_2 : decode m_M_mirror.2.1 2 = .ok (.invokevirtual 174, 3) := by decide +kernel
theorem d_M_mirror_5 : decode m_M_mirror.2.1 5 = .ok (.ifCond .ne 5, 3) := by decide +kernel
theorem d_M_mirror_8 : decode m_M_mirror.2.1 8 = .ok (.iconst 0, 1) := by decide +kernel
theorem d_M_mirror_9 : decode m_M_mirror.2.1 9 = .ok (.ireturn, 1) := by decide +kernel
theorem d_M_mirror_10 : decode m_M_mirror.2.1 10 = .ok (.aload_n 0, 1) := by decide +kernel
theorem d_M_mirror_11 : decode m_M_mirror.2.1 11 = .ok (.invokevirtual 290, 3) := by decide +kernel
theorem d_M_mirror_14 : decode m_M_mirror.2.1 14 = .ok (.aload_n 0, 1) := by decide +kernel
theorem d_M_mirror_15 : decode m_M_mirror.2.1 15 = .ok (.getfield 26, 3) := by decide +kernel
theorem d_M_mirror_18 : decode m_M_mirror.2.1 18 = .ok (.iconst 3, 1) := by decide +kernel
theorem d_M_mirror_19 : decode m_M_mirror.2.1 19 = .ok (.sipush 170, 3) := by decide +kernel
theorem d_M_mirror_22 : decode m_M_mirror.2.1 22 = .ok (.iload_n 1, 1) := by decide +kernel
theorem d_M_mirror_23 : decode m_M_mirror.2.1 23 = .ok (.imul, 1) := by decide +kernel
theorem d_M_mirror_24 : decode m_M_mirror.2.1 24 = .ok (.iadd, 1) := by decide +kernel
theorem d_M_mirror_25 : decode m_M_mirror.2.1 25 = .ok (.iconst 1, 1) := by decide +kernel
theorem d_M_mirror_26 : decode m_M_mirror.2.1 26 = .ok (.iadd, 1) := by decide +kernel
theorem d_M_mirror_27 : decode m_M_mirror.2.1 27 = .ok (.aload_n 0, 1) := by decide +kernel
theorem d_M_mirror_28 : decode m_M_mirror.2.1 28 = .ok (.iload_n 1, 1) := by decide +kernel
theorem d_M_mirror_29 : decode m_M_mirror.2.1 29 = .ok (.invokevirtual 266, 3) := by decide +kernel
theorem d_M_mirror_32 : decode m_M_mirror.2.1 32 = .ok (.ifCond .eq 7, 3) := by decide +kernel
theorem d_M_mirror_35 : decode m_M_mirror.2.1 35 = .ok (.iconst 0, 1) := by decide +kernel
theorem d_M_mirror_36 : decode m_M_mirror.2.1 36 = .ok (.goto 4, 3) := by decide +kernel
theorem d_M_mirror_39 : decode m_M_mirror.2.1 39 = .ok (.iconst 1, 1) := by decide +kernel
theorem d_M_mirror_40 : decode m_M_mirror.2.1 40 = .ok (.iastore, 1) := by decide +kernel
theorem d_M_mirror_41 : decode m_M_mirror.2.1 41 = .ok (.iconst 1, 1) := by decide +kernel
theorem d_M_mirror_42 : decode m_M_mirror.2.1 42 = .ok (.ireturn, 1) := by decide +kernel
theorem b_M_mirror_0 {E : EV} {d : Nat} {Q : Option AV → St → Prop} {σ : St} (x1 : Int) (hF : Fix σ) (h : (WMi E m_M_isLine d [aP 42, aI x1] σ (fun v1 σ1 => Fix σ1 ∧ (rI v1) ∧ ((¬ v1 = 0 → (WMv E m_M_keeps d [aP 42] σ1 (fun σ3 => Fix σ3 ∧ (WMi E m_M_isLeft d [aP 42, aI x1] σ3 (fun v4 σ4 => (rI v4) ∧ ((v4 = 0 → WP E m_M_mirror (d + 1) 40 [] [aI 1, aI ((3 + (170 * x1)) + 1), aP 47] σ4 Q) ∧ (¬ v4 = 0 → WP E m_M_mirror (d + 1) 40 [] [aI 0, aI ((3 + (170 * x1)) + 1), aP 47] σ4 Q))))))) ∧ (v1 = 0 → Q (some (aI 0)) σ1))))) : WP E m_M_mirror (d + 1) 0 [(0, aP 42), (1, aI x1)] [] σ Q := by
  refine s_aload_n 0 d_M_mirror_0 rfl rfl ?_
  refine s_iload_n 1 d_M_mirror_1 rfl rfl ?_
  refine s_callV (as := [aI x1]) (ci := 10) d_M_mirror_2 ok_M_isLine lk_M_174 io_M_isLine so_M_isLine (by decide) rfl rfl rfl (Nat.le_of_ble_eq_true rfl) rfl (sf_42 hF) (WM.mono h ?_)
  rintro _ σ1 ⟨v1, rfl, hp, h⟩
  obtain ⟨hF1, h⟩ := h
  show WP E m_M_mirror (d + 1) 5 [(0, aP 42), (1, aI x1)] [aI v1] σ1 Q
  obtain ⟨g2, h⟩ := h
  refine s_if_ne d_M_mirror_5 rfl g2 (fun c => ?_) (fun c => ?_)
  · have h := h.1 c
    refine s_aload_n 0 d_M_mirror_10 rfl rfl ?_
    refine s_callV (as := []) (ci := 10) d_M_mirror_11 ok_M_keeps lk_M_290 io_M_keeps so_M_keeps (by decide) rfl rfl rfl (Nat.le_of_ble_eq_true rfl) rfl (sf_42 hF1) (WM.mono h ?_)
    rintro _ σ3 ⟨rfl, hp, h⟩
    obtain ⟨hF3, h⟩ := h
    show WP E m_M_mirror (d + 1) 14 [(0, aP 42), (1, aI x1)] [] σ3 Q
    refine s_aload_n 0 d_M_mirror_14 rfl rfl ?_
    refine s_getF (v := 47) d_M_mirror_15 fl_M_26 rfl (sf_42 hF3) (ff_32 hF3) ?_
    refine s_iconst d_M_mirror_18 ?_
    refine s_sipush d_M_mirror_19 (by decide) ?_
    refine s_iload_n 1 d_M_mirror_22 rfl rfl ?_
    refine s_imul d_M_mirror_23 ?_
    refine s_iadd d_M_mirror_24 ?_
    refine s_iconst d_M_mirror_25 ?_
    refine s_iadd d_M_mirror_26 ?_
    refine s_aload_n 0 d_M_mirror_27 rfl rfl ?_
    refine s_iload_n 1 d_M_mirror_28 rfl rfl ?_
    refine s_callV (as := [aI x1]) (ci := 10) d_M_mirror_29 ok_M_isLeft lk_M_266 io_M_isLeft so_M_isLeft (by decide) rfl rfl rfl (Nat.le_of_ble_eq_true rfl) rfl (sf_42 hF3) (WM.mono h ?_)
    rintro _ σ4 ⟨v4, rfl, hp, h⟩
    show WP E m_M_mirror (d + 1) 32 [(0, aP 42), (1, aI x1)] [aI v4, aI ((3 + (170 * x1)) + 1), aP 47] σ4 Q
    obtain ⟨g5, h⟩ := h
    refine s_if_eq d_M_mirror_32 rfl g5 (fun c => ?_) (fun c => ?_)
    · have h := h.1 c
      refine s_iconst d_M_mirror_39 ?_
      refine wp_drop [] rfl ?_
      exact h
    · have h := h.2 c
      refine s_iconst d_M_mirror_35 ?_
      refine s_goto d_M_mirror_36 rfl ?_
      refine wp_drop [] rfl ?_
      exact h
  · have h := h.2 c
    refine s_iconst d_M_mirror_8 ?_
    exact s_zreturn d_M_mirror_9 rfl (by decide) h
theorem e_M_mirror {E : EV} {d : Nat} {Q : Option AV → St → Prop} {σ : St} (x1 : Int) (hF : Fix σ) (h : (WMi E m_M_isLine d [aP 42, aI x1] σ (fun v1 σ1 => Fix σ1 ∧ (rI v1) ∧ ((¬ v1 = 0 → (WMv E m_M_keeps d [aP 42] σ1 (fun σ3 => Fix σ3 ∧ (WMi E m_M_isLeft d [aP 42, aI x1] σ3 (fun v4 σ4 => (rI v4) ∧ ((v4 = 0 → WP E m_M_mirror (d + 1) 40 [] [aI 1, aI ((3 + (170 * x1)) + 1), aP 47] σ4 Q) ∧ (¬ v4 = 0 → WP E m_M_mirror (d + 1) 40 [] [aI 0, aI ((3 + (170 * x1)) + 1), aP 47] σ4 Q))))))) ∧ (v1 = 0 → Q (some (aI 0)) σ1))))) : WM E m_M_mirror (d + 1) [aP 42, aI x1] σ Q := s_meth (by decide) (Nat.le_of_ble_eq_true rfl) rfl (b_M_mirror_0 x1 hF h)
theorem b_M_mirror_40 {E : EV} {d : Nat} {Q : Option AV → St → Prop} {σ : St} (s0 s1 s2 : Int) (h : (inb σ s0 20 s1) ∧ Q (some (aI 1)) (wr σ s0 s1 s2)) : WP E m_M_mirror (d + 1) 40 [] [aI s2, aI s1, aP s0] σ Q := by
  obtain ⟨g1, h⟩ := h
  refine s_iastore d_M_mirror_40 g1 ?_
  refine s_iconst d_M_mirror_41 ?_
  exact s_zreturn d_M_mirror_42 rfl (by decide) h
theorem d_M_side_0 : decode m_M_side.2.1 0 = .ok (.iload_n 1, 1) := by decide +kernel
theorem d_M_side_1 : decode m_M_side.2.1 1 = .ok (.iconst 1, 1) := by decide +kernel
theorem d_M_side_2 : decode m_M_side.2.1 2 = .ok (.bipush 24, 2) := by decide +kernel
theorem d_M_side_4 : decode m_M_side.2.1 4 = .ok (.invokestatic 167, 3) := by decide +kernel
theorem d_M_side_7 : decode m_M_side.2.1 7 = .ok (.ifCond .eq 22, 3) := by decide +kernel
theorem d_M_side_10 : decode m_M_side.2.1 10 = .ok (.iload_n 1, 1) := by decide +kernel
theorem d_M_side_11 : decode m_M_side.2.1 11 = .ok (.aload_n 0, 1) := by decide +kernel
theorem d_M_side_12 : decode m_M_side.2.1 12 = .ok (.getfield 26, 3) := by decide +kernel
theorem d_M_side_15 : decode m_M_side.2.1 15 = .ok (.iconst 0, 1) := by decide +kernel
theorem d_M_side_16 : decode m_M_side.2.1 16 = .ok (.iaload, 1) := by decide +kernel
theorem d_M_side_17 : decode m_M_side.2.1 17 = .ok (.if_icmp .eq 12, 3) := by decide +kernel
theorem d_M_side_20 : decode m_M_side.2.1 20 = .ok (.aload_n 0, 1) := by decide +kernel
theorem d_M_side_21 : decode m_M_side.2.1 21 = .ok (.iconst 0, 1) := by decide +kernel
theorem d_M_side_22 : decode m_M_side.2.1 22 = .ok (.iload_n 1, 1) := by decide +kernel
theorem d_M_side_23 : decode m_M_side.2.1 23 = .ok (.invokevirtual 328, 3) := by decide +kernel
theorem d_M_side_26 : decode m_M_side.2.1 26 = .ok (.goto 4, 3) := by decide +kernel
theorem d_M_side_29 : decode m_M_side.2.1 29 = .ok (.iconst (-1), 1) := by decide +kernel
theorem d_M_side_30 : decode m_M_side.2.1 30 = .ok (.ireturn, 1) := by decide +kernel
theorem b_M_side_0 {E : EV} {d : Nat} {Q : Option AV → St → Prop} {σ : St} (x1 : Int) (hF : Fix σ) (h : (WMi E m_M_in d [aI x1, aI 1, aI 24] σ (fun v1 σ1 => Fix σ1 ∧ (rI v1) ∧ ((v1 = 0 → Q (some (aI (-1))) σ1) ∧ (¬ v1 = 0 → (rI x1) ∧ (rI (σ1.1 47 0)) ∧ ((x1 = (σ1.1 47 0) → Q (some (aI (-1))) σ1) ∧ (¬ x1 = (σ1.1 47 0) → (WMi E m_M_becomes d [aP 42, aI 0, aI x1] σ1 (fun v5 σ5 => Q (some (aI v5)) σ5))))))))) : WP E m_M_side (d + 1) 0 [(0, aP 42), (1, aI x1)] [] σ Q := by
  refine s_iload_n 1 d_M_side_0 rfl rfl ?_
  refine s_iconst d_M_side_1 ?_
  refine s_bipush d_M_side_2 (by decide) ?_
  refine s_callS (as := [aI x1, aI 1, aI 24]) d_M_side_4 ok_M_in lk_M_167 to_M_in rfl (Nat.le_of_ble_eq_true rfl) rfl (WM.mono h ?_)
  rintro _ σ1 ⟨v1, rfl, hp, h⟩
  obtain ⟨hF1, h⟩ := h
  show WP E m_M_side (d + 1) 7 [(0, aP 42), (1, aI x1)] [aI v1] σ1 Q
  obtain ⟨g2, h⟩ := h
  refine s_if_eq d_M_side_7 rfl g2 (fun c => ?_) (fun c => ?_)
  · have h := h.1 c
    refine s_iconst d_M_side_29 ?_
    exact s_ireturn d_M_side_30 rfl h
  · have h := h.2 c
    refine s_iload_n 1 d_M_side_10 rfl rfl ?_
    refine s_aload_n 0 d_M_side_11 rfl rfl ?_
    refine s_getF (v := 47) d_M_side_12 fl_M_26 rfl (sf_42 hF1) (ff_32 hF1) ?_
    refine s_iconst d_M_side_15 ?_
    refine s_ialoadv (v := σ1.1 47 0) d_M_side_16 ⟨_, sf_47 hF1, by decide, by decide, by decide⟩ rfl ?_
    obtain ⟨g3, h⟩ := h
    obtain ⟨g4, h⟩ := h
    refine s_icmp_eq d_M_side_17 rfl g3 g4 (fun c => ?_) (fun c => ?_)
    · have h := h.1 c
      refine s_iconst d_M_side_29 ?_
      exact s_ireturn d_M_side_30 rfl h
    · have h := h.2 c
      refine s_aload_n 0 d_M_side_20 rfl rfl ?_
      refine s_iconst d_M_side_21 ?_
      refine s_iload_n 1 d_M_side_22 rfl rfl ?_
      refine s_callV (as := [aI 0, aI x1]) (ci := 10) d_M_side_23 ok_M_becomes lk_M_328 io_M_becomes so_M_becomes (by decide) rfl rfl rfl (Nat.le_of_ble_eq_true rfl) rfl (sf_42 hF1) (WM.mono h ?_)
      rintro _ σ5 ⟨v5, rfl, hp, h⟩
      show WP E m_M_side (d + 1) 26 [(0, aP 42), (1, aI x1)] [aI v5] σ5 Q
      refine s_goto d_M_side_26 rfl ?_
      exact s_ireturn d_M_side_30 rfl h
theorem e_M_side {E : EV} {d : Nat} {Q : Option AV → St → Prop} {σ : St} (x1 : Int) (hF : Fix σ) (h : (WMi E m_M_in d [aI x1, aI 1, aI 24] σ (fun v1 σ1 => Fix σ1 ∧ (rI v1) ∧ ((v1 = 0 → Q (some (aI (-1))) σ1) ∧ (¬ v1 = 0 → (rI x1) ∧ (rI (σ1.1 47 0)) ∧ ((x1 = (σ1.1 47 0) → Q (some (aI (-1))) σ1) ∧ (¬ x1 = (σ1.1 47 0) → (WMi E m_M_becomes d [aP 42, aI 0, aI x1] σ1 (fun v5 σ5 => Q (some (aI v5)) σ5))))))))) : WM E m_M_side (d + 1) [aP 42, aI x1] σ Q := s_meth (by decide) (Nat.le_of_ble_eq_true rfl) rfl (b_M_side_0 x1 hF h)
theorem d_M_becomes_0 : decode m_M_becomes.2.1 0 = .ok (.aload_n 0, 1) := by decide +kernel
theorem d_M_becomes_1 : decode m_M_becomes.2.1 1 = .ok (.invokevirtual 290, 3) := by decide +kernel
theorem d_M_becomes_4 : decode m_M_becomes.2.1 4 = .ok (.aload_n 0, 1) := by decide +kernel
theorem d_M_becomes_5 : decode m_M_becomes.2.1 5 = .ok (.getfield 26, 3) := by decide +kernel
theorem d_M_becomes_8 : decode m_M_becomes.2.1 8 = .ok (.iload_n 1, 1) := by decide +kernel
theorem d_M_becomes_9 : decode m_M_becomes.2.1 9 = .ok (.iaload, 1) := by decide +kernel
theorem d_M_becomes_10 : decode m_M_becomes.2.1 10 = .ok (.istore_n 3, 1) := by decide +kernel
theorem d_M_becomes_11 : decode m_M_becomes.2.1 11 = .ok (.aload_n 0, 1) := by decide +kernel
theorem d_M_becomes_12 : decode m_M_becomes.2.1 12 = .ok (.getfield 26, 3) := by decide +kernel
theorem d_M_becomes_15 : decode m_M_becomes.2.1 15 = .ok (.iload_n 1, 1) := by decide +kernel
theorem d_M_becomes_16 : decode m_M_becomes.2.1 16 = .ok (.iload_n 2, 1) := by decide +kernel
theorem d_M_becomes_17 : decode m_M_becomes.2.1 17 = .ok (.iastore, 1) := by decide +kernel
theorem d_M_becomes_18 : decode m_M_becomes.2.1 18 = .ok (.iload_n 3, 1) := by decide +kernel
theorem d_M_becomes_19 : decode m_M_becomes.2.1 19 = .ok (.ireturn, 1) := by decide +kernel
theorem b_M_becomes_0 {E : EV} {d : Nat} {Q : Option AV → St → Prop} {σ : St} (x1 x2 : Int) (hF : Fix σ) (h : (WMv E m_M_keeps d [aP 42] σ (fun σ1 => Fix σ1 ∧ (0 ≤ x1 ∧ x1 < 683) ∧ (0 ≤ x1 ∧ x1 < 683) ∧ Q (some (aI (σ1.1 47 x1))) (wr σ1 47 x1 x2)))) : WP E m_M_becomes (d + 1) 0 [(0, aP 42), (1, aI x1), (2, aI x2)] [] σ Q := by
  refine s_aload_n 0 d_M_becomes_0 rfl rfl ?_
  refine s_callV (as := []) (ci := 10) d_M_becomes_1 ok_M_keeps lk_M_290 io_M_keeps so_M_keeps (by decide) rfl rfl rfl (Nat.le_of_ble_eq_true rfl) rfl (sf_42 hF) (WM.mono h ?_)
  rintro _ σ1 ⟨rfl, hp, h⟩
  obtain ⟨hF1, h⟩ := h
  show WP E m_M_becomes (d + 1) 4 [(0, aP 42), (1, aI x1), (2, aI x2)] [] σ1 Q
  refine s_aload_n 0 d_M_becomes_4 rfl rfl ?_
  refine s_getF (v := 47) d_M_becomes_5 fl_M_26 rfl (sf_42 hF1) (ff_32 hF1) ?_
  refine s_iload_n 1 d_M_becomes_8 rfl rfl ?_
  obtain ⟨g2, h⟩ := h
  refine s_ialoadv (v := σ1.1 47 x1) d_M_becomes_9 ⟨_, sf_47 hF1, g2.1, g2.2, by have := g2.2; omega⟩ rfl ?_
  refine s_istore_n d_M_becomes_10 rfl (by decide) rfl ?_
  refine s_aload_n 1 d_M_becomes_11 rfl rfl ?_
  refine s_getF (v := 47) d_M_becomes_12 fl_M_26 rfl (sf_42 hF1) (ff_32 hF1) ?_
  refine s_iload_n 2 d_M_becomes_15 rfl rfl ?_
  refine s_iload_n 3 d_M_becomes_16 rfl rfl ?_
  obtain ⟨g3, h⟩ := h
  refine s_iastore d_M_becomes_17 ⟨_, sf_47 hF1, g3.1, g3.2, by have := g3.2; omega⟩ ?_
  refine s_iload_n 0 d_M_becomes_18 rfl rfl ?_
  exact s_ireturn d_M_becomes_19 rfl h
theorem e_M_becomes {E : EV} {d : Nat} {Q : Option AV → St → Prop} {σ : St} (x1 x2 : Int) (hF : Fix σ) (h : (WMv E m_M_keeps d [aP 42] σ (fun σ1 => Fix σ1 ∧ (0 ≤ x1 ∧ x1 < 683) ∧ (0 ≤ x1 ∧ x1 < 683) ∧ Q (some (aI (σ1.1 47 x1))) (wr σ1 47 x1 x2)))) : WM E m_M_becomes (d + 1) [aP 42, aI x1, aI x2] σ Q := s_meth (by decide) (Nat.le_of_ble_eq_true rfl) rfl (b_M_becomes_0 x1 x2 hF h)
theorem d_M_gap_0 : decode m_M_gap.2.1 0 = .ok (.iload_n 1, 1) := by decide +kernel
theorem d_M_gap_1 : decode m_M_gap.2.1 1 = .ok (.iconst 0, 1) := by decide +kernel
theorem d_M_gap_2 : decode m_M_gap.2.1 2 = .ok (.iconst 3, 1) := by decide +kernel
theorem d_M_gap_3 : decode m_M_gap.2.1 3 = .ok (.invokestatic 167, 3) := by decide +kernel
theorem d_M_gap_6 : decode m_M_gap.2.1 6 = .ok (.ifCond .eq 22, 3) := by decide +kernel
theorem d_M_gap_9 : decode m_M_gap.2.1 9 = .ok (.iload_n 1, 1) := by decide +kernel
theorem d_M_gap_10 : decode m_M_gap.2.1 10 = .ok (.aload_n 0, 1) := by decide +kernel
theorem d_M_gap_11 : decode m_M_gap.2.1 11 = .ok (.getfield 26, 3) := by decide +kernel
theorem d_M_gap_14 : decode m_M_gap.2.1 14 = .ok (.iconst 1, 1) := by decide +kernel
theorem d_M_gap_15 : decode m_M_gap.2.1 15 = .ok (.iaload, 1) := by decide +kernel
theorem d_M_gap_16 : decode m_M_gap.2.1 16 = .ok (.if_icmp .eq 12, 3) := by decide +kernel
theorem d_M_gap_19 : decode m_M_gap.2.1 19 = .ok (.aload_n 0, 1) := by decide +kernel
theorem d_M_gap_20 : decode m_M_gap.2.1 20 = .ok (.iconst 1, 1) := by decide +kernel
theorem d_M_gap_21 : decode m_M_gap.2.1 21 = .ok (.iload_n 1, 1) := by decide +kernel
theorem d_M_gap_22 : decode m_M_gap.2.1 22 = .ok (.invokevirtual 328, 3) := by decide +kernel
theorem d_M_gap_25 : decode m_M_gap.2.1 25 = .ok (.goto 4, 3) := by decide +kernel
theorem d_M_gap_28 : decode m_M_gap.2.1 28 = .ok (.iconst (-1), 1) := by decide +kernel
theorem d_M_gap_29 : decode m_M_gap.2.1 29 = .ok (.ireturn, 1) := by decide +kernel
theorem b_M_gap_0 {E : EV} {d : Nat} {Q : Option AV → St → Prop} {σ : St} (x1 : Int) (hF : Fix σ) (h : (WMi E m_M_in d [aI x1, aI 0, aI 3] σ (fun v1 σ1 => Fix σ1 ∧ (rI v1) ∧ ((v1 = 0 → Q (some (aI (-1))) σ1) ∧ (¬ v1 = 0 → (rI x1) ∧ (rI (σ1.1 47 1)) ∧ ((x1 = (σ1.1 47 1) → Q (some (aI (-1))) σ1) ∧ (¬ x1 = (σ1.1 47 1) → (WMi E m_M_becomes d [aP 42, aI 1, aI x1] σ1 (fun v5 σ5 => Q (some (aI v5)) σ5))))))))) : WP E m_M_gap (d + 1) 0 [(0, aP 42), (1, aI x1)] [] σ Q := by
  refine s_iload_n 1 d_M_gap_0 rfl rfl ?_
  refine s_iconst d_M_gap_1 ?_
  refine s_iconst d_M_gap_2 ?_
  refine s_callS (as := [aI x1, aI 0, aI 3]) d_M_gap_3 ok_M_in lk_M_167 to_M_in rfl (Nat.le_of_ble_eq_true rfl) rfl (WM.mono h ?_)
  rintro _ σ1 ⟨v1, rfl, hp, h⟩
  obtain ⟨hF1, h⟩ := h
  show WP E m_M_gap (d + 1) 6 [(0, aP 42), (1, aI x1)] [aI v1] σ1 Q
  obtain ⟨g2, h⟩ := h
  refine s_if_eq d_M_gap_6 rfl g2 (fun c => ?_) (fun c => ?_)
  · have h := h.1 c
    refine s_iconst d_M_gap_28 ?_
    exact s_ireturn d_M_gap_29 rfl h
  · have h := h.2 c
    refine s_iload_n 1 d_M_gap_9 rfl rfl ?_
    refine s_aload_n 0 d_M_gap_10 rfl rfl ?_
    refine s_getF (v := 47) d_M_gap_11 fl_M_26 rfl (sf_42 hF1) (ff_32 hF1) ?_
    refine s_iconst d_M_gap_14 ?_
    refine s_ialoadv (v := σ1.1 47 1) d_M_gap_15 ⟨_, sf_47 hF1, by decide, by decide, by decide⟩ rfl ?_
    obtain ⟨g3, h⟩ := h
    obtain ⟨g4, h⟩ := h
    refine s_icmp_eq d_M_gap_16 rfl g3 g4 (fun c => ?_) (fun c => ?_)
    · have h := h.1 c
      refine s_iconst d_M_gap_28 ?_
      exact s_ireturn d_M_gap_29 rfl h
    · have h := h.2 c
      refine s_aload_n 0 d_M_gap_19 rfl rfl ?_
      refine s_iconst d_M_gap_20 ?_
      refine s_iload_n 1 d_M_gap_21 rfl rfl ?_
      refine s_callV (as := [aI 1, aI x1]) (ci := 10) d_M_gap_22 ok_M_becomes lk_M_328 io_M_becomes so_M_becomes (by decide) rfl rfl rfl (Nat.le_of_ble_eq_true rfl) rfl (sf_42 hF1) (WM.mono h ?_)
      rintro _ σ5 ⟨v5, rfl, hp, h⟩
      show WP E m_M_gap (d + 1) 25 [(0, aP 42), (1, aI x1)] [aI v5] σ5 Q
      refine s_goto d_M_gap_25 rfl ?_
      exact s_ireturn d_M_gap_29 rfl h
theorem e_M_gap {E : EV} {d : Nat} {Q : Option AV → St → Prop} {σ : St} (x1 : Int) (hF : Fix σ) (h : (WMi E m_M_in d [aI x1, aI 0, aI 3] σ (fun v1 σ1 => Fix σ1 ∧ (rI v1) ∧ ((v1 = 0 → Q (some (aI (-1))) σ1) ∧ (¬ v1 = 0 → (rI x1) ∧ (rI (σ1.1 47 1)) ∧ ((x1 = (σ1.1 47 1) → Q (some (aI (-1))) σ1) ∧ (¬ x1 = (σ1.1 47 1) → (WMi E m_M_becomes d [aP 42, aI 1, aI x1] σ1 (fun v5 σ5 => Q (some (aI v5)) σ5))))))))) : WM E m_M_gap (d + 1) [aP 42, aI x1] σ Q := s_meth (by decide) (Nat.le_of_ble_eq_true rfl) rfl (b_M_gap_0 x1 hF h)
theorem d_M_undo_0 : decode m_M_undo.2.1 0 = .ok (.aload_n 0, 1) := by decide +kernel
theorem d_M_undo_1 : decode m_M_undo.2.1 1 = .ok (.getfield 171, 3) := by decide +kernel
theorem d_M_undo_4 : decode m_M_undo.2.1 4 = .ok (.ifCond .ne 5, 3) := by decide +kernel
theorem d_M_undo_7 : decode m_M_undo.2.1 7 = .ok (.iconst (-1), 1) := by decide +kernel
theorem d_M_undo_8 : decode m_M_undo.2.1 8 = .ok (.ireturn, 1) := by decide +kernel
theorem d_M_undo_9 : decode m_M_undo.2.1 9 = .ok (.aload_n 0, 1) := by decide +kernel
theorem d_M_undo_10 : decode m_M_undo.2.1 10 = .ok (.dup, 1) := by decide +kernel
theorem d_M_undo_11 : decode m_M_undo.2.1 11 = .ok (.getfield 171, 3) := by decide +kernel
theorem d_M_undo_14 : decode m_M_undo.2.1 14 = .ok (.iconst 1, 1) := by decide +kernel
theorem d_M_undo_15 : decode m_M_undo.2.1 15 = .ok (.isub, 1) := by decide +kernel
theorem d_M_undo_16 : decode m_M_undo.2.1 16 = .ok (.putfield 171, 3) := by decide +kernel
theorem d_M_undo_19 : decode m_M_undo.2.1 19 = .ok (.iconst 0, 1) := by decide +kernel
theorem d_M_undo_20 : decode m_M_undo.2.1 20 = .ok (.istore_n 1, 1) := by decide +kernel
theorem d_M_undo_21 : decode m_M_undo.2.1 21 = .ok (.iload_n 1, 1) := by decide +kernel
theorem d_M_undo_22 : decode m_M_undo.2.1 22 = .ok (.sipush 683, 3) := by decide +kernel
theorem d_M_undo_25 : decode m_M_undo.2.1 25 = .ok (.if_icmp .ge 30, 3) := by decide +kernel
theorem d_M_undo_28 : decode m_M_undo.2.1 28 = .ok (.aload_n 0, 1) := by decide +kernel
theorem d_M_undo_29 : decode m_M_undo.2.1 29 = .ok (.getfield 26, 3) := by decide +kernel
theorem d_M_undo_32 : decode m_M_undo.2.1 32 = .ok (.iload_n 1, 1) := by decide +kernel
theorem d_M_undo_33 : decode m_M_undo.2.1 33 = .ok (.aload_n 0, 1) := by decide +kernel
theorem d_M_undo_34 : decode m_M_undo.2.1 34 = .ok (.getfield 32, 3) := by decide +kernel
theorem d_M_undo_37 : decode m_M_undo.2.1 37 = .ok (.sipush 683, 3) := by decide +kernel
theorem d_M_undo_40 : decode m_M_undo.2.1 40 = .ok (.aload_n 0, 1) := by decide +kernel
theorem d_M_undo_41 : decode m_M_undo.2.1 41 = .ok (.getfield 171, 3) := by decide +kernel
theorem d_M_undo_44 : decode m_M_undo.2.1 44 = .ok (.imul, 1) := by decide +kernel
theorem d_M_undo_45 : decode m_M_undo.2.1 45 = .ok (.iload_n 1, 1) := by decide +kernel
theorem d_M_undo_46 : decode m_M_undo.2.1 46 = .ok (.iadd, 1) := by decide +kernel
theorem d_M_undo_47 : decode m_M_undo.2.1 47 = .ok (.iaload, 1) := by decide +kernel
theorem d_M_undo_48 : decode m_M_undo.2.1 48 = .ok (.iastore, 1) := by decide +kernel
theorem d_M_undo_49 : decode m_M_undo.2.1 49 = .ok (.iinc 1 1, 3) := by decide +kernel
theorem d_M_undo_52 : decode m_M_undo.2.1 52 = .ok (.goto (-31), 3) := by decide +kernel
theorem d_M_undo_55 : decode m_M_undo.2.1 55 = .ok (.aload_n 0, 1) := by decide +kernel
theorem d_M_undo_56 : decode m_M_undo.2.1 56 = .ok (.getfield 171, 3) := by decide +kernel
theorem d_M_undo_59 : decode m_M_undo.2.1 59 = .ok (.ireturn, 1) := by decide +kernel
theorem b_M_undo_0 {E : EV} {d : Nat} {Q : Option AV → St → Prop} {σ : St} (hF : Fix σ) (h : (rI (σ.1 42 8)) ∧ ((¬ (σ.1 42 8) = 0 → WP E m_M_undo d 21 [(0, aP 42), (1, aI 0)] [] (wr σ 42 8 ((σ.1 42 8) - 1)) Q) ∧ ((σ.1 42 8) = 0 → Q (some (aI (-1))) σ))) : WP E m_M_undo d 0 [(0, aP 42)] [] σ Q := by
  refine s_aload_n 0 d_M_undo_0 rfl rfl ?_
  refine s_getF (v := σ.1 42 8) d_M_undo_1 fl_M_171 rfl (sf_42 hF) rfl ?_
  obtain ⟨g1, h⟩ := h
  refine s_if_ne d_M_undo_4 rfl g1 (fun c => ?_) (fun c => ?_)
  · have h := h.1 c
    refine s_aload_n 0 d_M_undo_9 rfl rfl ?_
    refine s_dup d_M_undo_10 (Nat.ne_of_beq_eq_false rfl) ?_
    refine s_getF (v := σ.1 42 8) d_M_undo_11 fl_M_171 rfl (sf_42 hF) rfl ?_
    refine s_iconst d_M_undo_14 ?_
    refine s_isub d_M_undo_15 ?_
    refine s_putf 8 rfl d_M_undo_16 fl_M_171 (fun C T h => by cases h; exact Or.inl rfl) rfl (Or.inl rfl) (fun h => nomatch h) (sf_42 hF) ?_
    refine s_iconst d_M_undo_19 ?_
    refine s_istore_n d_M_undo_20 rfl (by decide) rfl ?_
    refine wp_drop [1, 0] rfl ?_
    exact h
  · have h := h.2 c
    refine s_iconst d_M_undo_7 ?_
    exact s_ireturn d_M_undo_8 rfl h
theorem e_M_undo {E : EV} {d : Nat} {Q : Option AV → St → Prop} {σ : St} (hF : Fix σ) (h : (rI (σ.1 42 8)) ∧ ((¬ (σ.1 42 8) = 0 → WP E m_M_undo d 21 [(0, aP 42), (1, aI 0)] [] (wr σ 42 8 ((σ.1 42 8) - 1)) Q) ∧ ((σ.1 42 8) = 0 → Q (some (aI (-1))) σ))) : WM E m_M_undo d [aP 42] σ Q := s_meth (by decide) (Nat.le_of_ble_eq_true rfl) rfl (b_M_undo_0 hF h)
theorem b_M_undo_21 {E : EV} {d : Nat} {Q : Option AV → St → Prop} {σ : St} (x1 : Int) (hF : Fix σ) (h : (rI x1) ∧ ((683 ≤ x1 → Q (some (aI (σ.1 42 8))) σ) ∧ (¬ 683 ≤ x1 → (0 ≤ ((683 * (σ.1 42 8)) + x1) ∧ ((683 * (σ.1 42 8)) + x1) < 8196) ∧ (0 ≤ x1 ∧ x1 < 683) ∧ WP E m_M_undo d 21 [(0, aP 42), (1, aI (x1 + 1))] [] (wr σ 47 x1 (σ.1 49 ((683 * (σ.1 42 8)) + x1))) Q))) : WP E m_M_undo d 21 [(0, aP 42), (1, aI x1)] [] σ Q := by
  refine s_iload_n 1 d_M_undo_21 rfl rfl ?_
  refine s_sipush d_M_undo_22 (by decide) ?_
  obtain ⟨g1, h⟩ := h
  refine s_icmp_ge d_M_undo_25 rfl g1 (by decide) (fun c => ?_) (fun c => ?_)
  · have h := h.1 c
    refine s_aload_n 0 d_M_undo_55 rfl rfl ?_
    refine s_getF (v := σ.1 42 8) d_M_undo_56 fl_M_171 rfl (sf_42 hF) rfl ?_
    exact s_ireturn d_M_undo_59 rfl h
  · have h := h.2 c
    refine s_aload_n 0 d_M_undo_28 rfl rfl ?_
    refine s_getF (v := 47) d_M_undo_29 fl_M_26 rfl (sf_42 hF) (ff_32 hF) ?_
    refine s_iload_n 1 d_M_undo_32 rfl rfl ?_
    refine s_aload_n 0 d_M_undo_33 rfl rfl ?_
    refine s_getF (v := 49) d_M_undo_34 fl_M_32 rfl (sf_42 hF) (ff_34 hF) ?_
    refine s_sipush d_M_undo_37 (by decide) ?_
    refine s_aload_n 0 d_M_undo_40 rfl rfl ?_
    refine s_getF (v := σ.1 42 8) d_M_undo_41 fl_M_171 rfl (sf_42 hF) rfl ?_
    refine s_imul d_M_undo_44 ?_
    refine s_iload_n 1 d_M_undo_45 rfl rfl ?_
    refine s_iadd d_M_undo_46 ?_
    obtain ⟨g2, h⟩ := h
    refine s_ialoadv (v := σ.1 49 ((683 * (σ.1 42 8)) + x1)) d_M_undo_47 ⟨_, sf_49 hF, g2.1, g2.2, by have := g2.2; omega⟩ rfl ?_
    obtain ⟨g3, h⟩ := h
    refine s_iastore d_M_undo_48 ⟨_, sf_47 hF, g3.1, g3.2, by have := g3.2; omega⟩ ?_
    refine s_iinc 1 d_M_undo_49 rfl (by decide) rfl ?_
    refine s_goto d_M_undo_52 rfl ?_
    refine wp_drop [1, 0] rfl ?_
    exact h
theorem d_M_spell_0 : decode m_M_spell.2.1 0 = .ok (.iload_n 3, 1) := by decide +kernel
theorem d_M_spell_1 : decode m_M_spell.2.1 1 = .ok (.iconst (-1), 1) := by decide +kernel
theorem d_M_spell_2 : decode m_M_spell.2.1 2 = .ok (.if_icmp .ge 5, 3) := by decide +kernel
theorem d_M_spell_5 : decode m_M_spell.2.1 5 = .ok (.iconst (-1), 1) := by decide +kernel
theorem d_M_spell_6 : decode m_M_spell.2.1 6 = .ok (.ireturn, 1) := by decide +kernel
theorem d_M_spell_7 : decode m_M_spell.2.1 7 = .ok (.aload_n 0, 1) := by decide +kernel
theorem d_M_spell_8 : decode m_M_spell.2.1 8 = .ok (.iconst 0, 1) := by decide +kernel
theorem d_M_spell_9 : decode m_M_spell.2.1 9 = .ok (.putfield 331, 3) := by decide +kernel
theorem d_M_spell_12 : decode m_M_spell.2.1 12 = .ok (.iload_n 1, 1) := by decide +kernel
theorem d_M_spell_13 : decode m_M_spell.2.1 13 = .ok (.iconst (-1), 1) := by decide +kernel
theorem d_M_spell_14 : decode m_M_spell.2.1 14 = .ok (.if_icmp .ne 13, 3) := by decide +kernel
theorem d_M_spell_17 : decode m_M_spell.2.1 17 = .ok (.aload_n 0, 1) := by decide +kernel
theorem d_M_spell_18 : decode m_M_spell.2.1 18 = .ok (.invokevirtual 356, 3) := by decide +kernel
theorem d_M_spell_21 : decode m_M_spell.2.1 21 = .ok (.aload_n 0, 1) := by decide +kernel
theorem d_M_spell_22 : decode m_M_spell.2.1 22 = .ok (.iload_n 3, 1) := by decide +kernel
theorem d_M_spell_23 : decode m_M_spell.2.1 23 = .ok (.invokevirtual 359, 3) := by decide +kernel
theorem d_M_spell_26 : decode m_M_spell.2.1 26 = .ok (.ireturn, 1) := by decide +kernel
theorem d_M_spell_27 : decode m_M_spell.2.1 27 = .ok (.aload_n 0, 1) := by decide +kernel
theorem d_M_spell_28 : decode m_M_spell.2.1 28 = .ok (.iload_n 1, 1) := by decide +kernel
theorem d_M_spell_29 : decode m_M_spell.2.1 29 = .ok (.invokevirtual 174, 3) := by decide +kernel
theorem d_M_spell_32 : decode m_M_spell.2.1 32 = .ok (.ifCond .eq 17, 3) := by decide +kernel
theorem d_M_spell_35 : decode m_M_spell.2.1 35 = .ok (.iload_n 2, 1) := by decide +kernel
theorem d_M_spell_36 : decode m_M_spell.2.1 36 = .ok (.iconst (-1), 1) := by decide +kernel
theorem d_M_spell_37 : decode m_M_spell.2.1 37 = .ok (.if_icmp .eq 14, 3) := by decide +kernel
theorem d_M_spell_40 : decode m_M_spell.2.1 40 = .ok (.aload_n 0, 1) := by decide +kernel
theorem d_M_spell_41 : decode m_M_spell.2.1 41 = .ok (.iload_n 1, 1) := by decide +kernel
theorem d_M_spell_42 : decode m_M_spell.2.1 42 = .ok (.iload_n 2, 1) := by decide +kernel
theorem d_M_spell_43 : decode m_M_spell.2.1 43 = .ok (.invokevirtual 206, 3) := by decide +kernel
theorem d_M_spell_46 : decode m_M_spell.2.1 46 = .ok (.ifCond .ne 5, 3) := by decide +kernel
theorem d_M_spell_49 : decode m_M_spell.2.1 49 = .ok (.iconst (-1), 1) := by decide +kernel
theorem d_M_spell_50 : decode m_M_spell.2.1 50 = .ok (.ireturn, 1) := by decide +kernel
theorem d_M_spell_51 : decode m_M_spell.2.1 51 = .ok (.iload_n 2, 1) := by decide +kernel
theorem d_M_spell_52 : decode m_M_spell.2.1 52 = .ok (.iconst (-1), 1) := by decide +kernel
theorem d_M_spell_53 : decode m_M_spell.2.1 53 = .ok (.if_icmp .ne 14, 3) := by decide +kernel
theorem d_M_spell_56 : decode m_M_spell.2.1 56 = .ok (.aload_n 0, 1) := by decide +kernel
theorem d_M_spell_57 : decode m_M_spell.2.1 57 = .ok (.iload_n 1, 1) := by decide +kernel
theorem d_M_spell_58 : decode m_M_spell.2.1 58 = .ok (.invokevirtual 353, 3) := by decide +kernel
theorem d_M_spell_61 : decode m_M_spell.2.1 61 = .ok (.aload_n 0, 1) := by decide +kernel
theorem d_M_spell_62 : decode m_M_spell.2.1 62 = .ok (.iload_n 3, 1) := by decide +kernel
theorem d_M_spell_63 : decode m_M_spell.2.1 63 = .ok (.invokevirtual 359, 3) := by decide +kernel
theorem d_M_spell_66 : decode m_M_spell.2.1 66 = .ok (.ireturn, 1) := by decide +kernel
theorem d_M_spell_67 : decode m_M_spell.2.1 67 = .ok (.aload_n 0, 1) := by decide +kernel
theorem d_M_spell_68 : decode m_M_spell.2.1 68 = .ok (.iload_n 1, 1) := by decide +kernel
theorem d_M_spell_69 : decode m_M_spell.2.1 69 = .ok (.iload_n 2, 1) := by decide +kernel
theorem d_M_spell_70 : decode m_M_spell.2.1 70 = .ok (.invokevirtual 210, 3) := by decide +kernel
theorem d_M_spell_73 : decode m_M_spell.2.1 73 = .ok (.aload_n 0, 1) := by decide +kernel
theorem d_M_spell_74 : decode m_M_spell.2.1 74 = .ok (.invokevirtual 347, 3) := by decide +kernel
theorem d_M_spell_77 : decode m_M_spell.2.1 77 = .ok (.aload_n 0, 1) := by decide +kernel
theorem d_M_spell_78 : decode m_M_spell.2.1 78 = .ok (.iload_n 3, 1) := by decide +kernel
theorem d_M_spell_79 : decode m_M_spell.2.1 79 = .ok (.invokevirtual 359, 3) := by decide +kernel
theorem d_M_spell_82 : decode m_M_spell.2.1 82 = .ok (.ireturn, 1) := by decide +kernel
theorem b_M_spell_0 {E : EV} {d : Nat} {Q : Option AV → St → Prop} {σ : St} (x1 x2 x3 : Int) (hF : Fix σ) (h : (rI x3) ∧ (((-1) ≤ x3 → (rI x1) ∧ ((¬ x1 = (-1) → (WMi E m_M_isLine d [aP 42, aI x1] (wr σ 42 29 0) (fun v3 σ3 => Fix σ3 ∧ (rI v3) ∧ ((v3 = 0 → Q (some (aI (-1))) σ3) ∧ (¬ v3 = 0 → (rI x2) ∧ ((x2 = (-1) → WP E m_M_spell (d + 1) 51 [(0, aP 42), (1, aI x1), (2, aI x2), (3, aI x3)] [] σ3 Q) ∧ (¬ x2 = (-1) → (WMi E m_M_isSquare d [aP 42, aI x1, aI x2] σ3 (fun v6 σ6 => (rI v6) ∧ ((¬ v6 = 0 → WP E m_M_spell (d + 1) 51 [(0, aP 42), (1, aI x1), (2, aI x2), (3, aI x3)] [] σ6 Q) ∧ (v6 = 0 → Q (some (aI (-1))) σ6))))))))))) ∧ (x1 = (-1) → (WMv E m_M_writesAll d [aP 42] (wr σ 42 29 0) (fun σ8 => Fix σ8 ∧ (WMi E m_M_told d [aP 42, aI x3] σ8 (fun v9 σ9 => Q (some (aI v9)) σ9))))))) ∧ (¬ (-1) ≤ x3 → Q (some (aI (-1))) σ))) : WP E m_M_spell (d + 1) 0 [(0, aP 42), (1, aI x1), (2, aI x2), (3, aI x3)] [] σ Q := by
  refine s_iload_n 3 d_M_spell_0 rfl rfl ?_
  refine s_iconst d_M_spell_1 ?_
  obtain ⟨g1, h⟩ := h
  refine s_icmp_ge d_M_spell_2 rfl g1 (by decide) (fun c => ?_) (fun c => ?_)
  · have h := h.1 c
    refine s_aload_n 0 d_M_spell_7 rfl rfl ?_
    refine s_iconst d_M_spell_8 ?_
    refine s_putf 29 rfl d_M_spell_9 fl_M_331 (fun C T h => by cases h; exact Or.inl rfl) rfl (Or.inl rfl) (fun h => nomatch h) (sf_42 hF) ?_
    refine s_iload_n 1 d_M_spell_12 rfl rfl ?_
    refine s_iconst d_M_spell_13 ?_
    obtain ⟨g2, h⟩ := h
    refine s_icmp_ne d_M_spell_14 rfl g2 (by decide) (fun c => ?_) (fun c => ?_)
    · have h := h.1 c
      refine s_aload_n 0 d_M_spell_27 rfl rfl ?_
      refine s_iload_n 1 d_M_spell_28 rfl rfl ?_
      refine s_callV (as := [aI x1]) (ci := 10) d_M_spell_29 ok_M_isLine lk_M_174 io_M_isLine so_M_isLine (by decide) rfl rfl rfl (Nat.le_of_ble_eq_true rfl) rfl (sf_42 (hF.wf (a := 42) (k := 29) (by decide))) (WM.mono h ?_)
      rintro _ σ3 ⟨v3, rfl, hp, h⟩
      obtain ⟨hF3, h⟩ := h
      show WP E m_M_spell (d + 1) 32 [(0, aP 42), (1, aI x1), (2, aI x2), (3, aI x3)] [aI v3] σ3 Q
      obtain ⟨g4, h⟩ := h
      refine s_if_eq d_M_spell_32 rfl g4 (fun c => ?_) (fun c => ?_)
      · have h := h.1 c
        refine s_iconst d_M_spell_49 ?_
        exact s_ireturn d_M_spell_50 rfl h
      · have h := h.2 c
        refine s_iload_n 2 d_M_spell_35 rfl rfl ?_
        refine s_iconst d_M_spell_36 ?_
        obtain ⟨g5, h⟩ := h
        refine s_icmp_eq d_M_spell_37 rfl g5 (by decide) (fun c => ?_) (fun c => ?_)
        · have h := h.1 c
          exact h
        · have h := h.2 c
          refine s_aload_n 0 d_M_spell_40 rfl rfl ?_
          refine s_iload_n 1 d_M_spell_41 rfl rfl ?_
          refine s_iload_n 2 d_M_spell_42 rfl rfl ?_
          refine s_callV (as := [aI x1, aI x2]) (ci := 10) d_M_spell_43 ok_M_isSquare lk_M_206 io_M_isSquare so_M_isSquare (by decide) rfl rfl rfl (Nat.le_of_ble_eq_true rfl) rfl (sf_42 hF3) (WM.mono h ?_)
          rintro _ σ6 ⟨v6, rfl, hp, h⟩
          show WP E m_M_spell (d + 1) 46 [(0, aP 42), (1, aI x1), (2, aI x2), (3, aI x3)] [aI v6] σ6 Q
          obtain ⟨g7, h⟩ := h
          refine s_if_ne d_M_spell_46 rfl g7 (fun c => ?_) (fun c => ?_)
          · have h := h.1 c
            exact h
          · have h := h.2 c
            refine s_iconst d_M_spell_49 ?_
            exact s_ireturn d_M_spell_50 rfl h
    · have h := h.2 c
      refine s_aload_n 0 d_M_spell_17 rfl rfl ?_
      refine s_callV (as := []) (ci := 10) d_M_spell_18 ok_M_writesAll lk_M_356 io_M_writesAll so_M_writesAll (by decide) rfl rfl rfl (Nat.le_of_ble_eq_true rfl) rfl (sf_42 (hF.wf (a := 42) (k := 29) (by decide))) (WM.mono h ?_)
      rintro _ σ8 ⟨rfl, hp, h⟩
      obtain ⟨hF8, h⟩ := h
      show WP E m_M_spell (d + 1) 21 [(0, aP 42), (1, aI x1), (2, aI x2), (3, aI x3)] [] σ8 Q
      refine s_aload_n 0 d_M_spell_21 rfl rfl ?_
      refine s_iload_n 3 d_M_spell_22 rfl rfl ?_
      refine s_callV (as := [aI x3]) (ci := 10) d_M_spell_23 ok_M_told lk_M_359 io_M_told so_M_told (by decide) rfl rfl rfl (Nat.le_of_ble_eq_true rfl) rfl (sf_42 hF8) (WM.mono h ?_)
      rintro _ σ9 ⟨v9, rfl, hp, h⟩
      show WP E m_M_spell (d + 1) 26 [(0, aP 42), (1, aI x1), (2, aI x2), (3, aI x3)] [aI v9] σ9 Q
      exact s_ireturn d_M_spell_26 rfl h
  · have h := h.2 c
    refine s_iconst d_M_spell_5 ?_
    exact s_ireturn d_M_spell_6 rfl h
theorem e_M_spell {E : EV} {d : Nat} {Q : Option AV → St → Prop} {σ : St} (x1 x2 x3 : Int) (hF : Fix σ) (h : (rI x3) ∧ (((-1) ≤ x3 → (rI x1) ∧ ((¬ x1 = (-1) → (WMi E m_M_isLine d [aP 42, aI x1] (wr σ 42 29 0) (fun v3 σ3 => Fix σ3 ∧ (rI v3) ∧ ((v3 = 0 → Q (some (aI (-1))) σ3) ∧ (¬ v3 = 0 → (rI x2) ∧ ((x2 = (-1) → WP E m_M_spell (d + 1) 51 [(0, aP 42), (1, aI x1), (2, aI x2), (3, aI x3)] [] σ3 Q) ∧ (¬ x2 = (-1) → (WMi E m_M_isSquare d [aP 42, aI x1, aI x2] σ3 (fun v6 σ6 => (rI v6) ∧ ((¬ v6 = 0 → WP E m_M_spell (d + 1) 51 [(0, aP 42), (1, aI x1), (2, aI x2), (3, aI x3)] [] σ6 Q) ∧ (v6 = 0 → Q (some (aI (-1))) σ6))))))))))) ∧ (x1 = (-1) → (WMv E m_M_writesAll d [aP 42] (wr σ 42 29 0) (fun σ8 => Fix σ8 ∧ (WMi E m_M_told d [aP 42, aI x3] σ8 (fun v9 σ9 => Q (some (aI v9)) σ9))))))) ∧ (¬ (-1) ≤ x3 → Q (some (aI (-1))) σ))) : WM E m_M_spell (d + 1) [aP 42, aI x1, aI x2, aI x3] σ Q := s_meth (by decide) (Nat.le_of_ble_eq_true rfl) rfl (b_M_spell_0 x1 x2 x3 hF h)
theorem b_M_spell_51 {E : EV} {d : Nat} {Q : Option AV → St → Prop} {σ : St} (x1 x2 x3 : Int) (hF : Fix σ) (h : (rI x2) ∧ ((¬ x2 = (-1) → (WMv E m_M_takes d [aP 42, aI x1, aI x2] σ (fun σ2 => Fix σ2 ∧ (WMv E m_M_writesRow d [aP 42] σ2 (fun σ3 => Fix σ3 ∧ (WMi E m_M_told d [aP 42, aI x3] σ3 (fun v4 σ4 => Q (some (aI v4)) σ4))))))) ∧ (x2 = (-1) → (WMv E m_M_writesLine d [aP 42, aI x1] σ (fun σ5 => Fix σ5 ∧ (WMi E m_M_told d [aP 42, aI x3] σ5 (fun v6 σ6 => Q (some (aI v6)) σ6))))))) : WP E m_M_spell (d + 1) 51 [(0, aP 42), (1, aI x1), (2, aI x2), (3, aI x3)] [] σ Q := by
  refine s_iload_n 2 d_M_spell_51 rfl rfl ?_
  refine s_iconst d_M_spell_52 ?_
  obtain ⟨g1, h⟩ := h
  refine s_icmp_ne d_M_spell_53 rfl g1 (by decide) (fun c => ?_) (fun c => ?_)
  · have h := h.1 c
    refine s_aload_n 0 d_M_spell_67 rfl rfl ?_
    refine s_iload_n 1 d_M_spell_68 rfl rfl ?_
    refine s_iload_n 2 d_M_spell_69 rfl rfl ?_
    refine s_callV (as := [aI x1, aI x2]) (ci := 10) d_M_spell_70 ok_M_takes lk_M_210 io_M_takes so_M_takes (by decide) rfl rfl rfl (Nat.le_of_ble_eq_true rfl) rfl (sf_42 hF) (WM.mono h ?_)
    rintro _ σ2 ⟨rfl, hp, h⟩
    obtain ⟨hF2, h⟩ := h
    show WP E m_M_spell (d + 1) 73 [(0, aP 42), (1, aI x1), (2, aI x2), (3, aI x3)] [] σ2 Q
    refine s_aload_n 0 d_M_spell_73 rfl rfl ?_
    refine s_callV (as := []) (ci := 10) d_M_spell_74 ok_M_writesRow lk_M_347 io_M_writesRow so_M_writesRow (by decide) rfl rfl rfl (Nat.le_of_ble_eq_true rfl) rfl (sf_42 hF2) (WM.mono h ?_)
    rintro _ σ3 ⟨rfl, hp, h⟩
    obtain ⟨hF3, h⟩ := h
    show WP E m_M_spell (d + 1) 77 [(0, aP 42), (1, aI x1), (2, aI x2), (3, aI x3)] [] σ3 Q
    refine s_aload_n 0 d_M_spell_77 rfl rfl ?_
    refine s_iload_n 3 d_M_spell_78 rfl rfl ?_
    refine s_callV (as := [aI x3]) (ci := 10) d_M_spell_79 ok_M_told lk_M_359 io_M_told so_M_told (by decide) rfl rfl rfl (Nat.le_of_ble_eq_true rfl) rfl (sf_42 hF3) (WM.mono h ?_)
    rintro _ σ4 ⟨v4, rfl, hp, h⟩
    show WP E m_M_spell (d + 1) 82 [(0, aP 42), (1, aI x1), (2, aI x2), (3, aI x3)] [aI v4] σ4 Q
    exact s_ireturn d_M_spell_82 rfl h
  · have h := h.2 c
    refine s_aload_n 0 d_M_spell_56 rfl rfl ?_
    refine s_iload_n 1 d_M_spell_57 rfl rfl ?_
    refine s_callV (as := [aI x1]) (ci := 10) d_M_spell_58 ok_M_writesLine lk_M_353 io_M_writesLine so_M_writesLine (by decide) rfl rfl rfl (Nat.le_of_ble_eq_true rfl) rfl (sf_42 hF) (WM.mono h ?_)
    rintro _ σ5 ⟨rfl, hp, h⟩
    obtain ⟨hF5, h⟩ := h
    show WP E m_M_spell (d + 1) 61 [(0, aP 42), (1, aI x1), (2, aI x2), (3, aI x3)] [] σ5 Q
    refine s_aload_n 0 d_M_spell_61 rfl rfl ?_
    refine s_iload_n 3 d_M_spell_62 rfl rfl ?_
    refine s_callV (as := [aI x3]) (ci := 10) d_M_spell_63 ok_M_told lk_M_359 io_M_told so_M_told (by decide) rfl rfl rfl (Nat.le_of_ble_eq_true rfl) rfl (sf_42 hF5) (WM.mono h ?_)
    rintro _ σ6 ⟨v6, rfl, hp, h⟩
    show WP E m_M_spell (d + 1) 66 [(0, aP 42), (1, aI x1), (2, aI x2), (3, aI x3)] [aI v6] σ6 Q
    exact s_ireturn d_M_spell_66 rfl h
theorem d_M_writesAll_0 : decode m_M_writesAll.2.1 0 = .ok (.aload_n 0, 1) := by decide +kernel
theorem d_M_writesAll_1 : decode m_M_writesAll.2.1 1 = .ok (.iconst 0, 1) := by decide +kernel
theorem d_M_writesAll_2 : decode m_M_writesAll.2.1 2 = .ok (.invokevirtual 340, 3) := by decide +kernel
theorem d_M_writesAll_5 : decode m_M_writesAll.2.1 5 = .ok (.aload_n 0, 1) := by decide +kernel
theorem d_M_writesAll_6 : decode m_M_writesAll.2.1 6 = .ok (.aload_n 0, 1) := by decide +kernel
theorem d_M_writesAll_7 : decode m_M_writesAll.2.1 7 = .ok (.getfield 26, 3) := by decide +kernel
theorem d_M_writesAll_10 : decode m_M_writesAll.2.1 10 = .ok (.iconst 0, 1) := by decide +kernel
theorem d_M_writesAll_11 : decode m_M_writesAll.2.1 11 = .ok (.iaload, 1) := by decide +kernel
theorem d_M_writesAll_12 : decode m_M_writesAll.2.1 12 = .ok (.invokevirtual 350, 3) := by decide +kernel
theorem d_M_writesAll_15 : decode m_M_writesAll.2.1 15 = .ok (.aload_n 0, 1) := by decide +kernel
theorem d_M_writesAll_16 : decode m_M_writesAll.2.1 16 = .ok (.bipush 59, 2) := by decide +kernel
theorem d_M_writesAll_18 : decode m_M_writesAll.2.1 18 = .ok (.invokevirtual 334, 3) := by decide +kernel
theorem d_M_writesAll_21 : decode m_M_writesAll.2.1 21 = .ok (.aload_n 0, 1) := by decide +kernel
theorem d_M_writesAll_22 : decode m_M_writesAll.2.1 22 = .ok (.iconst 1, 1) := by decide +kernel
theorem d_M_writesAll_23 : decode m_M_writesAll.2.1 23 = .ok (.invokevirtual 340, 3) := by decide +kernel
theorem d_M_writesAll_26 : decode m_M_writesAll.2.1 26 = .ok (.aload_n 0, 1) := by decide +kernel
theorem d_M_writesAll_27 : decode m_M_writesAll.2.1 27 = .ok (.aload_n 0, 1) := by decide +kernel
theorem d_M_writesAll_28 : decode m_M_writesAll.2.1 28 = .ok (.getfield 26, 3) := by decide +kernel
theorem d_M_writesAll_31 : decode m_M_writesAll.2.1 31 = .ok (.iconst 1, 1) := by decide +kernel
theorem d_M_writesAll_32 : decode m_M_writesAll.2.1 32 = .ok (.iaload, 1) := by decide +kernel
theorem d_M_writesAll_33 : decode m_M_writesAll.2.1 33 = .ok (.invokevirtual 350, 3) := by decide +kernel
theorem d_M_writesAll_36 : decode m_M_writesAll.2.1 36 = .ok (.aload_n 0, 1) := by decide +kernel
theorem d_M_writesAll_37 : decode m_M_writesAll.2.1 37 = .ok (.bipush 59, 2) := by decide +kernel
theorem d_M_writesAll_39 : decode m_M_writesAll.2.1 39 = .ok (.invokevirtual 334, 3) := by decide +kernel
theorem d_M_writesAll_42 : decode m_M_writesAll.2.1 42 = .ok (.iconst 0, 1) := by decide +kernel
theorem d_M_writesAll_43 : decode m_M_writesAll.2.1 43 = .ok (.istore_n 1, 1) := by decide +kernel
theorem d_M_writesAll_44 : decode m_M_writesAll.2.1 44 = .ok (.iload_n 1, 1) := by decide +kernel
theorem d_M_writesAll_45 : decode m_M_writesAll.2.1 45 = .ok (.bipush 26, 2) := by decide +kernel
theorem d_M_writesAll_47 : decode m_M_writesAll.2.1 47 = .ok (.if_icmp .ge 105, 3) := by decide +kernel
theorem d_M_writesAll_50 : decode m_M_writesAll.2.1 50 = .ok (.aload_n 0, 1) := by decide +kernel
theorem d_M_writesAll_51 : decode m_M_writesAll.2.1 51 = .ok (.iload_n 1, 1) := by decide +kernel
theorem d_M_writesAll_52 : decode m_M_writesAll.2.1 52 = .ok (.invokevirtual 287, 3) := by decide +kernel
theorem d_M_writesAll_55 : decode m_M_writesAll.2.1 55 = .ok (.ifCond .ne 6, 3) := by decide +kernel
theorem d_M_writesAll_58 : decode m_M_writesAll.2.1 58 = .ok (.goto 88, 3) := by decide +kernel
theorem d_M_writesAll_61 : decode m_M_writesAll.2.1 61 = .ok (.aload_n 0, 1) := by decide +kernel
theorem d_M_writesAll_62 : decode m_M_writesAll.2.1 62 = .ok (.iconst 2, 1) := by decide +kernel
theorem d_M_writesAll_63 : decode m_M_writesAll.2.1 63 = .ok (.invokevirtual 340, 3) := by decide +kernel
theorem d_M_writesAll_66 : decode m_M_writesAll.2.1 66 = .ok (.aload_n 0, 1) := by decide +kernel
theorem d_M_writesAll_67 : decode m_M_writesAll.2.1 67 = .ok (.bipush 32, 2) := by decide +kernel
theorem d_M_writesAll_69 : decode m_M_writesAll.2.1 69 = .ok (.invokevirtual 334, 3) := by decide +kernel
theorem d_M_writesAll_72 : decode m_M_writesAll.2.1 72 = .ok (.aload_n 0, 1) := by decide +kernel
theorem d_M_writesAll_73 : decode m_M_writesAll.2.1 73 = .ok (.bipush 97, 2) := by decide +kernel
theorem d_M_writesAll_75 : decode m_M_writesAll.2.1 75 = .ok (.iload_n 1, 1) := by decide +kernel
theorem d_M_writesAll_76 : decode m_M_writesAll.2.1 76 = .ok (.iadd, 1) := by decide +kernel
theorem d_M_writesAll_77 : decode m_M_writesAll.2.1 77 = .ok (.invokevirtual 334, 3) := by decide +kernel
theorem d_M_writesAll_80 : decode m_M_writesAll.2.1 80 = .ok (.aload_n 0, 1) := by decide +kernel
theorem d_M_writesAll_81 : decode m_M_writesAll.2.1 81 = .ok (.aload_n 0, 1) := by decide +kernel
theorem d_M_writesAll_82 : decode m_M_writesAll.2.1 82 = .ok (.getfield 13, 3) := by decide +kernel
theorem d_M_writesAll_85 : decode m_M_writesAll.2.1 85 = .ok (.iload_n 1, 1) := by decide +kernel
theorem d_M_writesAll_86 : decode m_M_writesAll.2.1 86 = .ok (.iaload, 1) := by decide +kernel
theorem d_M_writesAll_87 : decode m_M_writesAll.2.1 87 = .ok (.invokevirtual 350, 3) := by decide +kernel
theorem d_M_writesAll_90 : decode m_M_writesAll.2.1 90 = .ok (.aload_n 0, 1) := by decide +kernel
theorem d_M_writesAll_91 : decode m_M_writesAll.2.1 91 = .ok (.aload_n 0, 1) := by decide +kernel
theorem d_M_writesAll_92 : decode m_M_writesAll.2.1 92 = .ok (.getfield 17, 3) := by decide +kernel
theorem d_M_writesAll_95 : decode m_M_writesAll.2.1 95 = .ok (.iload_n 1, 1) := by decide +kernel
theorem d_M_writesAll_96 : decode m_M_writesAll.2.1 96 = .ok (.iaload, 1) := by decide +kernel
theorem d_M_writesAll_97 : decode m_M_writesAll.2.1 97 = .ok (.invokevirtual 350, 3) := by decide +kernel
theorem d_M_writesAll_100 : decode m_M_writesAll.2.1 100 = .ok (.aload_n 0, 1) := by decide +kernel
theorem d_M_writesAll_101 : decode m_M_writesAll.2.1 101 = .ok (.getfield 20, 3) := by decide +kernel
theorem d_M_writesAll_104 : decode m_M_writesAll.2.1 104 = .ok (.iload_n 1, 1) := by decide +kernel
theorem d_M_writesAll_105 : decode m_M_writesAll.2.1 105 = .ok (.iaload, 1) := by decide +kernel
theorem d_M_writesAll_106 : decode m_M_writesAll.2.1 106 = .ok (.ifCond .le 34, 3) := by decide +kernel
theorem d_M_writesAll_109 : decode m_M_writesAll.2.1 109 = .ok (.aload_n 0, 1) := by decide +kernel
theorem d_M_writesAll_110 : decode m_M_writesAll.2.1 110 = .ok (.bipush 32, 2) := by decide +kernel
theorem d_M_writesAll_112 : decode m_M_writesAll.2.1 112 = .ok (.invokevirtual 334, 3) := by decide +kernel
theorem d_M_writesAll_115 : decode m_M_writesAll.2.1 115 = .ok (.aload_n 0, 1) := by decide +kernel
theorem d_M_writesAll_116 : decode m_M_writesAll.2.1 116 = .ok (.iconst 3, 1) := by decide +kernel
theorem d_M_writesAll_117 : decode m_M_writesAll.2.1 117 = .ok (.invokevirtual 340, 3) := by decide +kernel
theorem d_M_writesAll_120 : decode m_M_writesAll.2.1 120 = .ok (.aload_n 0, 1) := by decide +kernel
theorem d_M_writesAll_121 : decode m_M_writesAll.2.1 121 = .ok (.aload_n 0, 1) := by decide +kernel
theorem d_M_writesAll_122 : decode m_M_writesAll.2.1 122 = .ok (.getfield 20, 3) := by decide +kernel
theorem d_M_writesAll_125 : decode m_M_writesAll.2.1 125 = .ok (.iload_n 1, 1) := by decide +kernel
theorem d_M_writesAll_126 : decode m_M_writesAll.2.1 126 = .ok (.iaload, 1) := by decide +kernel
theorem d_M_writesAll_127 : decode m_M_writesAll.2.1 127 = .ok (.invokevirtual 350, 3) := by decide +kernel
theorem d_M_writesAll_130 : decode m_M_writesAll.2.1 130 = .ok (.aload_n 0, 1) := by decide +kernel
theorem d_M_writesAll_131 : decode m_M_writesAll.2.1 131 = .ok (.aload_n 0, 1) := by decide +kernel
theorem d_M_writesAll_132 : decode m_M_writesAll.2.1 132 = .ok (.getfield 23, 3) := by decide +kernel
theorem d_M_writesAll_135 : decode m_M_writesAll.2.1 135 = .ok (.iload_n 1, 1) := by decide +kernel
theorem d_M_writesAll_136 : decode m_M_writesAll.2.1 136 = .ok (.iaload, 1) := by decide +kernel
theorem d_M_writesAll_137 : decode m_M_writesAll.2.1 137 = .ok (.invokevirtual 350, 3) := by decide +kernel
theorem d_M_writesAll_140 : decode m_M_writesAll.2.1 140 = .ok (.aload_n 0, 1) := by decide +kernel
theorem d_M_writesAll_141 : decode m_M_writesAll.2.1 141 = .ok (.bipush 59, 2) := by decide +kernel
theorem d_M_writesAll_143 : decode m_M_writesAll.2.1 143 = .ok (.invokevirtual 334, 3) := by decide +kernel
theorem d_M_writesAll_146 : decode m_M_writesAll.2.1 146 = .ok (.iinc 1 1, 3) := by decide +kernel
theorem d_M_writesAll_149 : decode m_M_writesAll.2.1 149 = .ok (.goto (-105), 3) := by decide +kernel
theorem d_M_writesAll_152 : decode m_M_writesAll.2.1 152 = .ok (.iconst 0, 1) := by decide +kernel
theorem d_M_writesAll_153 : decode m_M_writesAll.2.1 153 = .ok (.istore_n 1, 1) := by decide +kernel
theorem d_M_writesAll_154 : decode m_M_writesAll.2.1 154 = .ok (.iload_n 1, 1) := by decide +kernel
theorem d_M_writesAll_155 : decode m_M_writesAll.2.1 155 = .ok (.aload_n 0, 1) := by decide +kernel
theorem d_M_writesAll_156 : decode m_M_writesAll.2.1 156 = .ok (.getfield 26, 3) := by decide +kernel
theorem d_M_writesAll_159 : decode m_M_writesAll.2.1 159 = .ok (.iconst 2, 1) := by decide +kernel
theorem d_M_writesAll_160 : decode m_M_writesAll.2.1 160 = .ok (.iaload, 1) := by decide +kernel
theorem d_M_writesAll_161 : decode m_M_writesAll.2.1 161 = .ok (.if_icmp .ge 14, 3) := by decide +kernel
theorem d_M_writesAll_164 : decode m_M_writesAll.2.1 164 = .ok (.aload_n 0, 1) := by decide +kernel
theorem d_M_writesAll_165 : decode m_M_writesAll.2.1 165 = .ok (.iload_n 1, 1) := by decide +kernel
theorem d_M_writesAll_166 : decode m_M_writesAll.2.1 166 = .ok (.invokevirtual 353, 3) := by decide +kernel
theorem d_M_writesAll_169 : decode m_M_writesAll.2.1 169 = .ok (.iinc 1 1, 3) := by decide +kernel
theorem d_M_writesAll_172 : decode m_M_writesAll.2.1 172 = .ok (.goto (-18), 3) := by decide +kernel
theorem d_M_writesAll_175 : decode m_M_writesAll.2.1 175 = .ok (.return_, 1) := by decide +kernel
theorem b_M_writesAll_0 {E : EV} {d : Nat} {Q : Option AV → St → Prop} {σ : St} (hF : Fix σ) (h : (WMv E m_M_writesWord d [aP 42, aI 0] σ (fun σ1 => Fix σ1 ∧ (WMv E m_M_writesNumber d [aP 42, aI (σ1.1 47 0)] σ1 (fun σ2 => Fix σ2 ∧ (WMv E m_M_writes d [aP 42, aI 59] σ2 (fun σ3 => Fix σ3 ∧ (WMv E m_M_writesWord d [aP 42, aI 1] σ3 (fun σ4 => Fix σ4 ∧ (WMv E m_M_writesNumber d [aP 42, aI (σ4.1 47 1)] σ4 (fun σ5 => Fix σ5 ∧ (WMv E m_M_writes d [aP 42, aI 59] σ5 (fun σ6 => WP E m_M_writesAll (d + 1) 44 [(0, aP 42), (1, aI 0)] [] σ6 Q))))))))))))) : WP E m_M_writesAll (d + 1) 0 [(0, aP 42)] [] σ Q := by
  refine s_aload_n 0 d_M_writesAll_0 rfl rfl ?_
  refine s_iconst d_M_writesAll_1 ?_
  refine s_callV (as := [aI 0]) (ci := 10) d_M_writesAll_2 ok_M_writesWord lk_M_340 io_M_writesWord so_M_writesWord (by decide) rfl rfl rfl (Nat.le_of_ble_eq_true rfl) rfl (sf_42 hF) (WM.mono h ?_)
  rintro _ σ1 ⟨rfl, hp, h⟩
  obtain ⟨hF1, h⟩ := h
  show WP E m_M_writesAll (d + 1) 5 [(0, aP 42)] [] σ1 Q
  refine s_aload_n 0 d_M_writesAll_5 rfl rfl ?_
  refine s_aload_n 0 d_M_writesAll_6 rfl rfl ?_
  refine s_getF (v := 47) d_M_writesAll_7 fl_M_26 rfl (sf_42 hF1) (ff_32 hF1) ?_
  refine s_iconst d_M_writesAll_10 ?_
  refine s_ialoadv (v := σ1.1 47 0) d_M_writesAll_11 ⟨_, sf_47 hF1, by decide, by decide, by decide⟩ rfl ?_
  refine s_callV (as := [aI (σ1.1 47 0)]) (ci := 10) d_M_writesAll_12 ok_M_writesNumber lk_M_350 io_M_writesNumber so_M_writesNumber (by decide) rfl rfl rfl (Nat.le_of_ble_eq_true rfl) rfl (sf_42 hF1) (WM.mono h ?_)
  rintro _ σ2 ⟨rfl, hp, h⟩
  obtain ⟨hF2, h⟩ := h
  show WP E m_M_writesAll (d + 1) 15 [(0, aP 42)] [] σ2 Q
  refine s_aload_n 0 d_M_writesAll_15 rfl rfl ?_
  refine s_bipush d_M_writesAll_16 (by decide) ?_
  refine s_callV (as := [aI 59]) (ci := 10) d_M_writesAll_18 ok_M_writes lk_M_334 io_M_writes so_M_writes (by decide) rfl rfl rfl (Nat.le_of_ble_eq_true rfl) rfl (sf_42 hF2) (WM.mono h ?_)
  rintro _ σ3 ⟨rfl, hp, h⟩
  obtain ⟨hF3, h⟩ := h
  show WP E m_M_writesAll (d + 1) 21 [(0, aP 42)] [] σ3 Q
  refine s_aload_n 0 d_M_writesAll_21 rfl rfl ?_
  refine s_iconst d_M_writesAll_22 ?_
  refine s_callV (as := [aI 1]) (ci := 10) d_M_writesAll_23 ok_M_writesWord lk_M_340 io_M_writesWord so_M_writesWord (by decide) rfl rfl rfl (Nat.le_of_ble_eq_true rfl) rfl (sf_42 hF3) (WM.mono h ?_)
  rintro _ σ4 ⟨rfl, hp, h⟩
  obtain ⟨hF4, h⟩ := h
  show WP E m_M_writesAll (d + 1) 26 [(0, aP 42)] [] σ4 Q
  refine s_aload_n 0 d_M_writesAll_26 rfl rfl ?_
  refine s_aload_n 0 d_M_writesAll_27 rfl rfl ?_
  refine s_getF (v := 47) d_M_writesAll_28 fl_M_26 rfl (sf_42 hF4) (ff_32 hF4) ?_
  refine s_iconst d_M_writesAll_31 ?_
  refine s_ialoadv (v := σ4.1 47 1) d_M_writesAll_32 ⟨_, sf_47 hF4, by decide, by decide, by decide⟩ rfl ?_
  refine s_callV (as := [aI (σ4.1 47 1)]) (ci := 10) d_M_writesAll_33 ok_M_writesNumber lk_M_350 io_M_writesNumber so_M_writesNumber (by decide) rfl rfl rfl (Nat.le_of_ble_eq_true rfl) rfl (sf_42 hF4) (WM.mono h ?_)
  rintro _ σ5 ⟨rfl, hp, h⟩
  obtain ⟨hF5, h⟩ := h
  show WP E m_M_writesAll (d + 1) 36 [(0, aP 42)] [] σ5 Q
  refine s_aload_n 0 d_M_writesAll_36 rfl rfl ?_
  refine s_bipush d_M_writesAll_37 (by decide) ?_
  refine s_callV (as := [aI 59]) (ci := 10) d_M_writesAll_39 ok_M_writes lk_M_334 io_M_writes so_M_writes (by decide) rfl rfl rfl (Nat.le_of_ble_eq_true rfl) rfl (sf_42 hF5) (WM.mono h ?_)
  rintro _ σ6 ⟨rfl, hp, h⟩
  show WP E m_M_writesAll (d + 1) 42 [(0, aP 42)] [] σ6 Q
  refine s_iconst d_M_writesAll_42 ?_
  refine s_istore_n d_M_writesAll_43 rfl (by decide) rfl ?_
  refine wp_drop [1, 0] rfl ?_
  exact h
theorem e_M_writesAll {E : EV} {d : Nat} {Q : Option AV → St → Prop} {σ : St} (hF : Fix σ) (h : (WMv E m_M_writesWord d [aP 42, aI 0] σ (fun σ1 => Fix σ1 ∧ (WMv E m_M_writesNumber d [aP 42, aI (σ1.1 47 0)] σ1 (fun σ2 => Fix σ2 ∧ (WMv E m_M_writes d [aP 42, aI 59] σ2 (fun σ3 => Fix σ3 ∧ (WMv E m_M_writesWord d [aP 42, aI 1] σ3 (fun σ4 => Fix σ4 ∧ (WMv E m_M_writesNumber d [aP 42, aI (σ4.1 47 1)] σ4 (fun σ5 => Fix σ5 ∧ (WMv E m_M_writes d [aP 42, aI 59] σ5 (fun σ6 => WP E m_M_writesAll (d + 1) 44 [(0, aP 42), (1, aI 0)] [] σ6 Q))))))))))))) : WM E m_M_writesAll (d + 1) [aP 42] σ Q := s_meth (by decide) (Nat.le_of_ble_eq_true rfl) rfl (b_M_writesAll_0 hF h)
theorem b_M_writesAll_44 {E : EV} {d : Nat} {Q : Option AV → St → Prop} {σ : St} (x1 : Int) (hF : Fix σ) (h : (rI x1) ∧ ((26 ≤ x1 → WP E m_M_writesAll (d + 1) 154 [(0, aP 42), (1, aI 0)] [] σ Q) ∧ (¬ 26 ≤ x1 → (WMi E m_M_isTold d [aP 42, aI x1] σ (fun v2 σ2 => Fix σ2 ∧ (rI v2) ∧ ((¬ v2 = 0 → (WMv E m_M_writesWord d [aP 42, aI 2] σ2 (fun σ4 => Fix σ4 ∧ (WMv E m_M_writes d [aP 42, aI 32] σ4 (fun σ5 => Fix σ5 ∧ (WMv E m_M_writes d [aP 42, aI (97 + x1)] σ5 (fun σ6 => Fix σ6 ∧ (0 ≤ x1 ∧ x1 < 26) ∧ (WMv E m_M_writesNumber d [aP 42, aI (σ6.1 43 x1)] σ6 (fun σ8 => Fix σ8 ∧ (0 ≤ x1 ∧ x1 < 26) ∧ (WMv E m_M_writesNumber d [aP 42, aI (σ8.1 44 x1)] σ8 (fun σ10 => Fix σ10 ∧ (0 ≤ x1 ∧ x1 < 26) ∧ (rI (σ10.1 45 x1)) ∧ (((σ10.1 45 x1) ≤ 0 → WP E m_M_writesAll (d + 1) 140 [(0, aP 42), (1, aI x1)] [] σ10 Q) ∧ (¬ (σ10.1 45 x1) ≤ 0 → (WMv E m_M_writes d [aP 42, aI 32] σ10 (fun σ13 => Fix σ13 ∧ (WMv E m_M_writesWord d [aP 42, aI 3] σ13 (fun σ14 => Fix σ14 ∧ (0 ≤ x1 ∧ x1 < 26) ∧ (WMv E m_M_writesNumber d [aP 42, aI (σ14.1 45 x1)] σ14 (fun σ16 => Fix σ16 ∧ (0 ≤ x1 ∧ x1 < 26) ∧ (WMv E m_M_writesNumber d [aP 42, aI (σ16.1 46 x1)] σ16 (fun σ18 => WP E m_M_writesAll (d + 1) 140 [(0, aP 42), (1, aI x1)] [] σ18 Q))))))))))))))))))))) ∧ (v2 = 0 → WP E m_M_writesAll (d + 1) 146 [(0, aP 42), (1, aI x1)] [] σ2 Q))))))) : WP E m_M_writesAll (d + 1) 44 [(0, aP 42), (1, aI x1)] [] σ Q := by
  refine s_iload_n 1 d_M_writesAll_44 rfl rfl ?_
  refine s_bipush d_M_writesAll_45 (by decide) ?_
  obtain ⟨g1, h⟩ := h
  refine s_icmp_ge d_M_writesAll_47 rfl g1 (by decide) (fun c => ?_) (fun c => ?_)
  · have h := h.1 c
    refine s_iconst d_M_writesAll_152 ?_
    refine s_istore_n d_M_writesAll_153 rfl (by decide) rfl ?_
    refine wp_drop [1, 0] rfl ?_
    exact h
  · have h := h.2 c
    refine s_aload_n 0 d_M_writesAll_50 rfl rfl ?_
    refine s_iload_n 1 d_M_writesAll_51 rfl rfl ?_
    refine s_callV (as := [aI x1]) (ci := 10) d_M_writesAll_52 ok_M_isTold lk_M_287 io_M_isTold so_M_isTold (by decide) rfl rfl rfl (Nat.le_of_ble_eq_true rfl) rfl (sf_42 hF) (WM.mono h ?_)
    rintro _ σ2 ⟨v2, rfl, hp, h⟩
    obtain ⟨hF2, h⟩ := h
    show WP E m_M_writesAll (d + 1) 55 [(0, aP 42), (1, aI x1)] [aI v2] σ2 Q
    obtain ⟨g3, h⟩ := h
    refine s_if_ne d_M_writesAll_55 rfl g3 (fun c => ?_) (fun c => ?_)
    · have h := h.1 c
      refine s_aload_n 0 d_M_writesAll_61 rfl rfl ?_
      refine s_iconst d_M_writesAll_62 ?_
      refine s_callV (as := [aI 2]) (ci := 10) d_M_writesAll_63 ok_M_writesWord lk_M_340 io_M_writesWord so_M_writesWord (by decide) rfl rfl rfl (Nat.le_of_ble_eq_true rfl) rfl (sf_42 hF2) (WM.mono h ?_)
      rintro _ σ4 ⟨rfl, hp, h⟩
      obtain ⟨hF4, h⟩ := h
      show WP E m_M_writesAll (d + 1) 66 [(0, aP 42), (1, aI x1)] [] σ4 Q
      refine s_aload_n 0 d_M_writesAll_66 rfl rfl ?_
      refine s_bipush d_M_writesAll_67 (by decide) ?_
      refine s_callV (as := [aI 32]) (ci := 10) d_M_writesAll_69 ok_M_writes lk_M_334 io_M_writes so_M_writes (by decide) rfl rfl rfl (Nat.le_of_ble_eq_true rfl) rfl (sf_42 hF4) (WM.mono h ?_)
      rintro _ σ5 ⟨rfl, hp, h⟩
      obtain ⟨hF5, h⟩ := h
      show WP E m_M_writesAll (d + 1) 72 [(0, aP 42), (1, aI x1)] [] σ5 Q
      refine s_aload_n 0 d_M_writesAll_72 rfl rfl ?_
      refine s_bipush d_M_writesAll_73 (by decide) ?_
      refine s_iload_n 1 d_M_writesAll_75 rfl rfl ?_
      refine s_iadd d_M_writesAll_76 ?_
      refine s_callV (as := [aI (97 + x1)]) (ci := 10) d_M_writesAll_77 ok_M_writes lk_M_334 io_M_writes so_M_writes (by decide) rfl rfl rfl (Nat.le_of_ble_eq_true rfl) rfl (sf_42 hF5) (WM.mono h ?_)
      rintro _ σ6 ⟨rfl, hp, h⟩
      obtain ⟨hF6, h⟩ := h
      show WP E m_M_writesAll (d + 1) 80 [(0, aP 42), (1, aI x1)] [] σ6 Q
      refine s_aload_n 0 d_M_writesAll_80 rfl rfl ?_
      refine s_aload_n 0 d_M_writesAll_81 rfl rfl ?_
      refine s_getF (v := 43) d_M_writesAll_82 fl_M_13 rfl (sf_42 hF6) (ff_28 hF6) ?_
      refine s_iload_n 1 d_M_writesAll_85 rfl rfl ?_
      obtain ⟨g7, h⟩ := h
      refine s_ialoadv (v := σ6.1 43 x1) d_M_writesAll_86 ⟨_, sf_43 hF6, g7.1, g7.2, by have := g7.2; omega⟩ rfl ?_
      refine s_callV (as := [aI (σ6.1 43 x1)]) (ci := 10) d_M_writesAll_87 ok_M_writesNumber lk_M_350 io_M_writesNumber so_M_writesNumber (by decide) rfl rfl rfl (Nat.le_of_ble_eq_true rfl) rfl (sf_42 hF6) (WM.mono h ?_)
      rintro _ σ8 ⟨rfl, hp, h⟩
      obtain ⟨hF8, h⟩ := h
      show WP E m_M_writesAll (d + 1) 90 [(0, aP 42), (1, aI x1)] [] σ8 Q
      refine s_aload_n 0 d_M_writesAll_90 rfl rfl ?_
      refine s_aload_n 0 d_M_writesAll_91 rfl rfl ?_
      refine s_getF (v := 44) d_M_writesAll_92 fl_M_17 rfl (sf_42 hF8) (ff_29 hF8) ?_
      refine s_iload_n 1 d_M_writesAll_95 rfl rfl ?_
      obtain ⟨g9, h⟩ := h
      refine s_ialoadv (v := σ8.1 44 x1) d_M_writesAll_96 ⟨_, sf_44 hF8, g9.1, g9.2, by have := g9.2; omega⟩ rfl ?_
      refine s_callV (as := [aI (σ8.1 44 x1)]) (ci := 10) d_M_writesAll_97 ok_M_writesNumber lk_M_350 io_M_writesNumber so_M_writesNumber (by decide) rfl rfl rfl (Nat.le_of_ble_eq_true rfl) rfl (sf_42 hF8) (WM.mono h ?_)
      rintro _ σ10 ⟨rfl, hp, h⟩
      obtain ⟨hF10, h⟩ := h
      show WP E m_M_writesAll (d + 1) 100 [(0, aP 42), (1, aI x1)] [] σ10 Q
      refine s_aload_n 0 d_M_writesAll_100 rfl rfl ?_
      refine s_getF (v := 45) d_M_writesAll_101 fl_M_20 rfl (sf_42 hF10) (ff_30 hF10) ?_
      refine s_iload_n 1 d_M_writesAll_104 rfl rfl ?_
      obtain ⟨g11, h⟩ := h
      refine s_ialoadv (v := σ10.1 45 x1) d_M_writesAll_105 ⟨_, sf_45 hF10, g11.1, g11.2, by have := g11.2; omega⟩ rfl ?_
      obtain ⟨g12, h⟩ := h
      refine s_if_le d_M_writesAll_106 rfl g12 (fun c => ?_) (fun c => ?_)
      · have h := h.1 c
        exact h
      · have h := h.2 c
        refine s_aload_n 0 d_M_writesAll_109 rfl rfl ?_
        refine s_bipush d_M_writesAll_110 (by decide) ?_
        refine s_callV (as := [aI 32]) (ci := 10) d_M_writesAll_112 ok_M_writes lk_M_334 io_M_writes so_M_writes (by decide) rfl rfl rfl (Nat.le_of_ble_eq_true rfl) rfl (sf_42 hF10) (WM.mono h ?_)
        rintro _ σ13 ⟨rfl, hp, h⟩
        obtain ⟨hF13, h⟩ := h
        show WP E m_M_writesAll (d + 1) 115 [(0, aP 42), (1, aI x1)] [] σ13 Q
        refine s_aload_n 0 d_M_writesAll_115 rfl rfl ?_
        refine s_iconst d_M_writesAll_116 ?_
        refine s_callV (as := [aI 3]) (ci := 10) d_M_writesAll_117 ok_M_writesWord lk_M_340 io_M_writesWord so_M_writesWord (by decide) rfl rfl rfl (Nat.le_of_ble_eq_true rfl) rfl (sf_42 hF13) (WM.mono h ?_)
        rintro _ σ14 ⟨rfl, hp, h⟩
        obtain ⟨hF14, h⟩ := h
        show WP E m_M_writesAll (d + 1) 120 [(0, aP 42), (1, aI x1)] [] σ14 Q
        refine s_aload_n 0 d_M_writesAll_120 rfl rfl ?_
        refine s_aload_n 0 d_M_writesAll_121 rfl rfl ?_
        refine s_getF (v := 45) d_M_writesAll_122 fl_M_20 rfl (sf_42 hF14) (ff_30 hF14) ?_
        refine s_iload_n 1 d_M_writesAll_125 rfl rfl ?_
        obtain ⟨g15, h⟩ := h
        refine s_ialoadv (v := σ14.1 45 x1) d_M_writesAll_126 ⟨_, sf_45 hF14, g15.1, g15.2, by have := g15.2; omega⟩ rfl ?_
        refine s_callV (as := [aI (σ14.1 45 x1)]) (ci := 10) d_M_writesAll_127 ok_M_writesNumber lk_M_350 io_M_writesNumber so_M_writesNumber (by decide) rfl rfl rfl (Nat.le_of_ble_eq_true rfl) rfl (sf_42 hF14) (WM.mono h ?_)
        rintro _ σ16 ⟨rfl, hp, h⟩
        obtain ⟨hF16, h⟩ := h
        show WP E m_M_writesAll (d + 1) 130 [(0, aP 42), (1, aI x1)] [] σ16 Q
        refine s_aload_n 0 d_M_writesAll_130 rfl rfl ?_
        refine s_aload_n 0 d_M_writesAll_131 rfl rfl ?_
        refine s_getF (v := 46) d_M_writesAll_132 fl_M_23 rfl (sf_42 hF16) (ff_31 hF16) ?_
        refine s_iload_n 1 d_M_writesAll_135 rfl rfl ?_
        obtain ⟨g17, h⟩ := h
        refine s_ialoadv (v := σ16.1 46 x1) d_M_writesAll_136 ⟨_, sf_46 hF16, g17.1, g17.2, by have := g17.2; omega⟩ rfl ?_
        refine s_callV (as := [aI (σ16.1 46 x1)]) (ci := 10) d_M_writesAll_137 ok_M_writesNumber lk_M_350 io_M_writesNumber so_M_writesNumber (by decide) rfl rfl rfl (Nat.le_of_ble_eq_true rfl) rfl (sf_42 hF16) (WM.mono h ?_)
        rintro _ σ18 ⟨rfl, hp, h⟩
        show WP E m_M_writesAll (d + 1) 140 [(0, aP 42), (1, aI x1)] [] σ18 Q
        exact h
    · have h := h.2 c
      refine s_goto d_M_writesAll_58 rfl ?_
      exact h
theorem b_M_writesAll_140 {E : EV} {d : Nat} {Q : Option AV → St → Prop} {σ : St} (x1 : Int) (hF : Fix σ) (h : (WMv E m_M_writes d [aP 42, aI 59] σ (fun σ1 => WP E m_M_writesAll (d + 1) 146 [(0, aP 42), (1, aI x1)] [] σ1 Q))) : WP E m_M_writesAll (d + 1) 140 [(0, aP 42), (1, aI x1)] [] σ Q := by
  refine s_aload_n 0 d_M_writesAll_140 rfl rfl ?_
  refine s_bipush d_M_writesAll_141 (by decide) ?_
  refine s_callV (as := [aI 59]) (ci := 10) d_M_writesAll_143 ok_M_writes lk_M_334 io_M_writes so_M_writes (by decide) rfl rfl rfl (Nat.le_of_ble_eq_true rfl) rfl (sf_42 hF) (WM.mono h ?_)
  rintro _ σ1 ⟨rfl, hp, h⟩
  show WP E m_M_writesAll (d + 1) 146 [(0, aP 42), (1, aI x1)] [] σ1 Q
  exact h
theorem b_M_writesAll_146 {E : EV} {d : Nat} {Q : Option AV → St → Prop} {σ : St} (x1 : Int) (h : WP E m_M_writesAll (d + 1) 44 [(0, aP 42), (1, aI (x1 + 1))] [] σ Q) : WP E m_M_writesAll (d + 1) 146 [(0, aP 42), (1, aI x1)] [] σ Q := by
  refine s_iinc 1 d_M_writesAll_146 rfl (by decide) rfl ?_
  refine s_goto d_M_writesAll_149 rfl ?_
  refine wp_drop [1, 0] rfl ?_
  exact h
theorem b_M_writesAll_154 {E : EV} {d : Nat} {Q : Option AV → St → Prop} {σ : St} (x1 : Int) (hF : Fix σ) (h : (rI x1) ∧ (rI (σ.1 47 2)) ∧ (((σ.1 47 2) ≤ x1 → Q none σ) ∧ (¬ (σ.1 47 2) ≤ x1 → (WMv E m_M_writesLine d [aP 42, aI x1] σ (fun σ3 => WP E m_M_writesAll (d + 1) 154 [(0, aP 42), (1, aI (x1 + 1))] [] σ3 Q))))) : WP E m_M_writesAll (d + 1) 154 [(0, aP 42), (1, aI x1)] [] σ Q := by
  refine s_iload_n 1 d_M_writesAll_154 rfl rfl ?_
  refine s_aload_n 0 d_M_writesAll_155 rfl rfl ?_
  refine s_getF (v := 47) d_M_writesAll_156 fl_M_26 rfl (sf_42 hF) (ff_32 hF) ?_
  refine s_iconst d_M_writesAll_159 ?_
  refine s_ialoadv (v := σ.1 47 2) d_M_writesAll_160 ⟨_, sf_47 hF, by decide, by decide, by decide⟩ rfl ?_
  obtain ⟨g1, h⟩ := h
  obtain ⟨g2, h⟩ := h
  refine s_icmp_ge d_M_writesAll_161 rfl g1 g2 (fun c => ?_) (fun c => ?_)
  · have h := h.1 c
    exact s_return d_M_writesAll_175 rfl h
  · have h := h.2 c
    refine s_aload_n 0 d_M_writesAll_164 rfl rfl ?_
    refine s_iload_n 1 d_M_writesAll_165 rfl rfl ?_
    refine s_callV (as := [aI x1]) (ci := 10) d_M_writesAll_166 ok_M_writesLine lk_M_353 io_M_writesLine so_M_writesLine (by decide) rfl rfl rfl (Nat.le_of_ble_eq_true rfl) rfl (sf_42 hF) (WM.mono h ?_)
    rintro _ σ3 ⟨rfl, hp, h⟩
    show WP E m_M_writesAll (d + 1) 169 [(0, aP 42), (1, aI x1)] [] σ3 Q
    refine s_iinc 1 d_M_writesAll_169 rfl (by decide) rfl ?_
    refine s_goto d_M_writesAll_172 rfl ?_
    refine wp_drop [1, 0] rfl ?_
    exact h
theorem d_M_writesWord_0 : decode m_M_writesWord.2.1 0 = .ok (.aload_n 0, 1) := by decide +kernel
theorem d_M_writesWord_1 : decode m_M_writesWord.2.1 1 = .ok (.iload_n 1, 1) := by decide +kernel
theorem d_M_writesWord_2 : decode m_M_writesWord.2.1 2 = .ok (.invokevirtual 337, 3) := by decide +kernel
theorem d_M_writesWord_5 : decode m_M_writesWord.2.1 5 = .ok (.istore_n 2, 1) := by decide +kernel
theorem d_M_writesWord_6 : decode m_M_writesWord.2.1 6 = .ok (.aload_n 0, 1) := by decide +kernel
theorem d_M_writesWord_7 : decode m_M_writesWord.2.1 7 = .ok (.getfield 118, 3) := by decide +kernel
theorem d_M_writesWord_10 : decode m_M_writesWord.2.1 10 = .ok (.iload_n 2, 1) := by decide +kernel
theorem d_M_writesWord_11 : decode m_M_writesWord.2.1 11 = .ok (.baload, 1) := by decide +kernel
theorem d_M_writesWord_12 : decode m_M_writesWord.2.1 12 = .ok (.ifCond .eq 19, 3) := by decide +kernel
theorem d_M_writesWord_15 : decode m_M_writesWord.2.1 15 = .ok (.aload_n 0, 1) := by decide +kernel
theorem d_M_writesWord_16 : decode m_M_writesWord.2.1 16 = .ok (.aload_n 0, 1) := by decide +kernel
theorem d_M_writesWord_17 : decode m_M_writesWord.2.1 17 = .ok (.getfield 118, 3) := by decide +kernel
theorem d_M_writesWord_20 : decode m_M_writesWord.2.1 20 = .ok (.iload_n 2, 1) := by decide +kernel
theorem d_M_writesWord_21 : decode m_M_writesWord.2.1 21 = .ok (.baload, 1) := by decide +kernel
theorem d_M_writesWord_22 : decode m_M_writesWord.2.1 22 = .ok (.invokevirtual 334, 3) := by decide +kernel
theorem d_M_writesWord_25 : decode m_M_writesWord.2.1 25 = .ok (.iinc 2 1, 3) := by decide +kernel
theorem d_M_writesWord_28 : decode m_M_writesWord.2.1 28 = .ok (.goto (-22), 3) := by decide +kernel
theorem d_M_writesWord_31 : decode m_M_writesWord.2.1 31 = .ok (.return_, 1) := by decide +kernel
theorem b_M_writesWord_0 {E : EV} {d : Nat} {Q : Option AV → St → Prop} {σ : St} (x1 : Int) (hF : Fix σ) (h : (WMi E m_M_wordFrom d [aP 42, aI x1] σ (fun v1 σ1 => WP E m_M_writesWord (d + 1) 6 [(0, aP 42), (2, aI v1)] [] σ1 Q))) : WP E m_M_writesWord (d + 1) 0 [(0, aP 42), (1, aI x1)] [] σ Q := by
  refine s_aload_n 0 d_M_writesWord_0 rfl rfl ?_
  refine s_iload_n 1 d_M_writesWord_1 rfl rfl ?_
  refine s_callV (as := [aI x1]) (ci := 10) d_M_writesWord_2 ok_M_wordFrom lk_M_337 io_M_wordFrom so_M_wordFrom (by decide) rfl rfl rfl (Nat.le_of_ble_eq_true rfl) rfl (sf_42 hF) (WM.mono h ?_)
  rintro _ σ1 ⟨v1, rfl, hp, h⟩
  show WP E m_M_writesWord (d + 1) 5 [(0, aP 42), (1, aI x1)] [aI v1] σ1 Q
  refine s_istore_n d_M_writesWord_5 rfl (by decide) rfl ?_
  refine wp_drop [1, 0] rfl ?_
  exact h
theorem e_M_writesWord {E : EV} {d : Nat} {Q : Option AV → St → Prop} {σ : St} (x1 : Int) (hF : Fix σ) (h : (WMi E m_M_wordFrom d [aP 42, aI x1] σ (fun v1 σ1 => WP E m_M_writesWord (d + 1) 6 [(0, aP 42), (2, aI v1)] [] σ1 Q))) : WM E m_M_writesWord (d + 1) [aP 42, aI x1] σ Q := s_meth (by decide) (Nat.le_of_ble_eq_true rfl) rfl (b_M_writesWord_0 x1 hF h)
theorem b_M_writesWord_6 {E : EV} {d : Nat} {Q : Option AV → St → Prop} {σ : St} (x2 : Int) (hF : Fix σ) (h : (0 ≤ x2 ∧ x2 < 29) ∧ (rI (σ.1 77 x2)) ∧ (((σ.1 77 x2) = 0 → Q none σ) ∧ (¬ (σ.1 77 x2) = 0 → (0 ≤ x2 ∧ x2 < 29) ∧ (WMv E m_M_writes d [aP 42, aI (σ.1 77 x2)] σ (fun σ4 => WP E m_M_writesWord (d + 1) 6 [(0, aP 42), (2, aI (x2 + 1))] [] σ4 Q))))) : WP E m_M_writesWord (d + 1) 6 [(0, aP 42), (2, aI x2)] [] σ Q := by
  refine s_aload_n 0 d_M_writesWord_6 rfl rfl ?_
  refine s_getF (v := 77) d_M_writesWord_7 fl_M_118 rfl (sf_42 hF) (ff_62 hF) ?_
  refine s_iload_n 1 d_M_writesWord_10 rfl rfl ?_
  obtain ⟨g1, h⟩ := h
  refine s_baloadv (v := σ.1 77 x2) (by decide) d_M_writesWord_11 ⟨_, sf_77 hF, g1.1, g1.2, by have := g1.2; omega⟩ rfl ?_
  obtain ⟨g2, h⟩ := h
  refine s_if_eq d_M_writesWord_12 rfl g2 (fun c => ?_) (fun c => ?_)
  · have h := h.1 c
    exact s_return d_M_writesWord_31 rfl h
  · have h := h.2 c
    refine s_aload_n 0 d_M_writesWord_15 rfl rfl ?_
    refine s_aload_n 0 d_M_writesWord_16 rfl rfl ?_
    refine s_getF (v := 77) d_M_writesWord_17 fl_M_118 rfl (sf_42 hF) (ff_62 hF) ?_
    refine s_iload_n 1 d_M_writesWord_20 rfl rfl ?_
    obtain ⟨g3, h⟩ := h
    refine s_baloadv (v := σ.1 77 x2) (by decide) d_M_writesWord_21 ⟨_, sf_77 hF, g3.1, g3.2, by have := g3.2; omega⟩ rfl ?_
    refine s_callV (as := [aI (σ.1 77 x2)]) (ci := 10) d_M_writesWord_22 ok_M_writes lk_M_334 io_M_writes so_M_writes (by decide) rfl rfl rfl (Nat.le_of_ble_eq_true rfl) rfl (sf_42 hF) (WM.mono h ?_)
    rintro _ σ4 ⟨rfl, hp, h⟩
    show WP E m_M_writesWord (d + 1) 25 [(0, aP 42), (2, aI x2)] [] σ4 Q
    refine s_iinc 1 d_M_writesWord_25 rfl (by decide) rfl ?_
    refine s_goto d_M_writesWord_28 rfl ?_
    refine wp_drop [1, 0] rfl ?_
    exact h
theorem d_M_wordFrom_0 : decode m_M_wordFrom.2.1 0 = .ok (.iconst 0, 1) := by decide +kernel
theorem d_M_wordFrom_1 : decode m_M_wordFrom.2.1 1 = .ok (.istore_n 2, 1) := by decide +kernel
theorem d_M_wordFrom_2 : decode m_M_wordFrom.2.1 2 = .ok (.iload_n 1, 1) := by decide +kernel
theorem d_M_wordFrom_3 : decode m_M_wordFrom.2.1 3 = .ok (.istore_n 3, 1) := by decide +kernel
theorem d_M_wordFrom_4 : decode m_M_wordFrom.2.1 4 = .ok (.iload_n 3, 1) := by decide +kernel
theorem d_M_wordFrom_5 : decode m_M_wordFrom.2.1 5 = .ok (.ifCond .le 21, 3) := by decide +kernel
theorem d_M_wordFrom_8 : decode m_M_wordFrom.2.1 8 = .ok (.aload_n 0, 1) := by decide +kernel
theorem d_M_wordFrom_9 : decode m_M_wordFrom.2.1 9 = .ok (.getfield 118, 3) := by decide +kernel
theorem d_M_wordFrom_12 : decode m_M_wordFrom.2.1 12 = .ok (.iload_n 2, 1) := by decide +kernel
theorem d_M_wordFrom_13 : decode m_M_wordFrom.2.1 13 = .ok (.baload, 1) := by decide +kernel
theorem d_M_wordFrom_14 : decode m_M_wordFrom.2.1 14 = .ok (.ifCond .ne 6, 3) := by decide +kernel
theorem d_M_wordFrom_17 : decode m_M_wordFrom.2.1 17 = .ok (.iinc 3 (-1), 3) := by decide +kernel
theorem d_M_wordFrom_20 : decode m_M_wordFrom.2.1 20 = .ok (.iinc 2 1, 3) := by decide +kernel
theorem d_M_wordFrom_23 : decode m_M_wordFrom.2.1 23 = .ok (.goto (-19), 3) := by decide +kernel
theorem d_M_wordFrom_26 : decode m_M_wordFrom.2.1 26 = .ok (.iload_n 2, 1) := by decide +kernel
theorem d_M_wordFrom_27 : decode m_M_wordFrom.2.1 27 = .ok (.ireturn, 1) := by decide +kernel
theorem b_M_wordFrom_0 {E : EV} {d : Nat} {Q : Option AV → St → Prop} {σ : St} (x1 : Int) (h : WP E m_M_wordFrom d 4 [(0, aP 42), (2, aI 0), (3, aI x1)] [] σ Q) : WP E m_M_wordFrom d 0 [(0, aP 42), (1, aI x1)] [] σ Q := by
  refine s_iconst d_M_wordFrom_0 ?_
  refine s_istore_n d_M_wordFrom_1 rfl (by decide) rfl ?_
  refine s_iload_n 2 d_M_wordFrom_2 rfl rfl ?_
  refine s_istore_n d_M_wordFrom_3 rfl (by decide) rfl ?_
  refine wp_drop [2, 1, 0] rfl ?_
  exact h
theorem e_M_wordFrom {E : EV} {d : Nat} {Q : Option AV → St → Prop} {σ : St} (x1 : Int) (h : WP E m_M_wordFrom d 4 [(0, aP 42), (2, aI 0), (3, aI x1)] [] σ Q) : WM E m_M_wordFrom d [aP 42, aI x1] σ Q := s_meth (by decide) (Nat.le_of_ble_eq_true rfl) rfl (b_M_wordFrom_0 x1 h)
theorem b_M_wordFrom_4 {E : EV} {d : Nat} {Q : Option AV → St → Prop} {σ : St} (x2 x3 : Int) (hF : Fix σ) (h : (rI x3) ∧ ((x3 ≤ 0 → Q (some (aI x2)) σ) ∧ (¬ x3 ≤ 0 → (0 ≤ x2 ∧ x2 < 29) ∧ (rI (σ.1 77 x2)) ∧ ((¬ (σ.1 77 x2) = 0 → WP E m_M_wordFrom d 20 [(0, aP 42), (2, aI x2), (3, aI x3)] [] σ Q) ∧ ((σ.1 77 x2) = 0 → WP E m_M_wordFrom d 20 [(0, aP 42), (2, aI x2), (3, aI (x3 + (-1)))] [] σ Q))))) : WP E m_M_wordFrom d 4 [(0, aP 42), (2, aI x2), (3, aI x3)] [] σ Q := by
  refine s_iload_n 2 d_M_wordFrom_4 rfl rfl ?_
  obtain ⟨g1, h⟩ := h
  refine s_if_le d_M_wordFrom_5 rfl g1 (fun c => ?_) (fun c => ?_)
  · have h := h.1 c
    refine s_iload_n 1 d_M_wordFrom_26 rfl rfl ?_
    exact s_ireturn d_M_wordFrom_27 rfl h
  · have h := h.2 c
    refine s_aload_n 0 d_M_wordFrom_8 rfl rfl ?_
    refine s_getF (v := 77) d_M_wordFrom_9 fl_M_118 rfl (sf_42 hF) (ff_62 hF) ?_
    refine s_iload_n 1 d_M_wordFrom_12 rfl rfl ?_
    obtain ⟨g2, h⟩ := h
    refine s_baloadv (v := σ.1 77 x2) (by decide) d_M_wordFrom_13 ⟨_, sf_77 hF, g2.1, g2.2, by have := g2.2; omega⟩ rfl ?_
    obtain ⟨g3, h⟩ := h
    refine s_if_ne d_M_wordFrom_14 rfl g3 (fun c => ?_) (fun c => ?_)
    · have h := h.1 c
      exact h
    · have h := h.2 c
      refine s_iinc 2 d_M_wordFrom_17 rfl (by decide) rfl ?_
      refine wp_drop [1, 2, 0] rfl ?_
      exact h
theorem b_M_wordFrom_20 {E : EV} {d : Nat} {Q : Option AV → St → Prop} {σ : St} (x2 x3 : Int) (h : WP E m_M_wordFrom d 4 [(0, aP 42), (2, aI (x2 + 1)), (3, aI x3)] [] σ Q) : WP E m_M_wordFrom d 20 [(0, aP 42), (2, aI x2), (3, aI x3)] [] σ Q := by
  refine s_iinc 1 d_M_wordFrom_20 rfl (by decide) rfl ?_
  refine s_goto d_M_wordFrom_23 rfl ?_
  refine wp_drop [1, 0, 2] rfl ?_
  exact h
theorem d_M_writes_0 : decode m_M_writes.2.1 0 = .ok (.aload_n 0, 1) := by decide +kernel
theorem d_M_writes_1 : decode m_M_writes.2.1 1 = .ok (.getfield 78, 3) := by decide +kernel
theorem d_M_writes_4 : decode m_M_writes.2.1 4 = .ok (.aload_n 0, 1) := by decide +kernel
theorem d_M_writes_5 : decode m_M_writes.2.1 5 = .ok (.getfield 331, 3) := by decide +kernel
theorem d_M_writes_8 : decode m_M_writes.2.1 8 = .ok (.iload_n 1, 1) := by decide +kernel
theorem d_M_writes_9 : decode m_M_writes.2.1 9 = .ok (.iastore, 1) := by decide +kernel
theorem d_M_writes_10 : decode m_M_writes.2.1 10 = .ok (.aload_n 0, 1) := by decide +kernel
theorem d_M_writes_11 : decode m_M_writes.2.1 11 = .ok (.dup, 1) := by decide +kernel
theorem d_M_writes_12 : decode m_M_writes.2.1 12 = .ok (.getfield 331, 3) := by decide +kernel
theorem d_M_writes_15 : decode m_M_writes.2.1 15 = .ok (.iconst 1, 1) := by decide +kernel
theorem d_M_writes_16 : decode m_M_writes.2.1 16 = .ok (.iadd, 1) := by decide +kernel
theorem d_M_writes_17 : decode m_M_writes.2.1 17 = .ok (.putfield 331, 3) := by decide +kernel
theorem d_M_writes_20 : decode m_M_writes.2.1 20 = .ok (.return_, 1) := by decide +kernel
theorem b_M_writes_0 {E : EV} {d : Nat} {Q : Option AV → St → Prop} {σ : St} (x1 : Int) (hF : Fix σ) (h : (0 ≤ (σ.1 42 29) ∧ (σ.1 42 29) < 2600) ∧ Q none (wr (wr σ 64 (σ.1 42 29) x1) 42 29 ((σ.1 42 29) + 1))) : WP E m_M_writes d 0 [(0, aP 42), (1, aI x1)] [] σ Q := by
  refine s_aload_n 0 d_M_writes_0 rfl rfl ?_
  refine s_getF (v := 64) d_M_writes_1 fl_M_78 rfl (sf_42 hF) (ff_49 hF) ?_
  refine s_aload_n 0 d_M_writes_4 rfl rfl ?_
  refine s_getF (v := σ.1 42 29) d_M_writes_5 fl_M_331 rfl (sf_42 hF) rfl ?_
  refine s_iload_n 1 d_M_writes_8 rfl rfl ?_
  obtain ⟨g1, h⟩ := h
  refine s_iastore d_M_writes_9 ⟨_, sf_64 hF, g1.1, g1.2, by have := g1.2; omega⟩ ?_
  refine s_aload_n 0 d_M_writes_10 rfl rfl ?_
  refine s_dup d_M_writes_11 (Nat.ne_of_beq_eq_false rfl) ?_
  refine s_getF (v := σ.1 42 29) d_M_writes_12 fl_M_331 rfl (sf_42 (hF.wa (a := 64) (by decide))) rfl ?_
  refine s_iconst d_M_writes_15 ?_
  refine s_iadd d_M_writes_16 ?_
  refine s_putf 29 rfl d_M_writes_17 fl_M_331 (fun C T h => by cases h; exact Or.inl rfl) rfl (Or.inl rfl) (fun h => nomatch h) (sf_42 (hF.wa (a := 64) (by decide))) ?_
  exact s_return d_M_writes_20 rfl h
theorem e_M_writes {E : EV} {d : Nat} {Q : Option AV → St → Prop} {σ : St} (x1 : Int) (hF : Fix σ) (h : (0 ≤ (σ.1 42 29) ∧ (σ.1 42 29) < 2600) ∧ Q none (wr (wr σ 64 (σ.1 42 29) x1) 42 29 ((σ.1 42 29) + 1))) : WM E m_M_writes d [aP 42, aI x1] σ Q := s_meth (by decide) (Nat.le_of_ble_eq_true rfl) rfl (b_M_writes_0 x1 hF h)
theorem d_M_writesNumber_0 : decode m_M_writesNumber.2.1 0 = .ok (.aload_n 0, 1) := by decide +kernel
theorem d_M_writesNumber_1 : decode m_M_writesNumber.2.1 1 = .ok (.bipush 32, 2) := by decide +kernel
theorem d_M_writesNumber_3 : decode m_M_writesNumber.2.1 3 = .ok (.invokevirtual 334, 3) := by decide +kernel
theorem d_M_writesNumber_6 : decode m_M_writesNumber.2.1 6 = .ok (.iload_n 1, 1) := by decide +kernel
theorem d_M_writesNumber_7 : decode m_M_writesNumber.2.1 7 = .ok (.bipush 9, 2) := by decide +kernel
theorem d_M_writesNumber_9 : decode m_M_writesNumber.2.1 9 = .ok (.if_icmp .le 14, 3) := by decide +kernel
theorem d_M_writesNumber_12 : decode m_M_writesNumber.2.1 12 = .ok (.aload_n 0, 1) := by decide +kernel
theorem d_M_writesNumber_13 : decode m_M_writesNumber.2.1 13 = .ok (.bipush 48, 2) := by decide +kernel
theorem d_M_writesNumber_15 : decode m_M_writesNumber.2.1 15 = .ok (.iload_n 1, 1) := by decide +kernel
theorem d_M_writesNumber_16 : decode m_M_writesNumber.2.1 16 = .ok (.bipush 10, 2) := by decide +kernel
theorem d_M_writesNumber_18 : decode m_M_writesNumber.2.1 18 = .ok (.idiv, 1) := by decide +kernel
theorem d_M_writesNumber_19 : decode m_M_writesNumber.2.1 19 = .ok (.iadd, 1) := by decide +kernel
theorem d_M_writesNumber_20 : decode m_M_writesNumber.2.1 20 = .ok (.invokevirtual 334, 3) := by decide +kernel
theorem d_M_writesNumber_23 : decode m_M_writesNumber.2.1 23 = .ok (.aload_n 0, 1) := by decide +kernel
theorem d_M_writesNumber_24 : decode m_M_writesNumber.2.1 24 = .ok (.bipush 48, 2) := by decide +kernel
theorem d_M_writesNumber_26 : decode m_M_writesNumber.2.1 26 = .ok (.iload_n 1, 1) := by decide +kernel
theorem d_M_writesNumber_27 : decode m_M_writesNumber.2.1 27 = .ok (.bipush 10, 2) := by decide +kernel
theorem d_M_writesNumber_29 : decode m_M_writesNumber.2.1 29 = .ok (.irem, 1) := by decide +kernel
theorem d_M_writesNumber_30 : decode m_M_writesNumber.2.1 30 = .ok (.iadd, 1) := by decide +kernel
theorem d_M_writesNumber_31 : decode m_M_writesNumber.2.1 31 = .ok (.invokevirtual 334, 3) := by decide +kernel
theorem d_M_writesNumber_34 : decode m_M_writesNumber.2.1 34 = .ok (.return_, 1) := by decide +kernel
theorem b_M_writesNumber_0 {E : EV} {d : Nat} {Q : Option AV → St → Prop} {σ : St} (x1 : Int) (hF : Fix σ) (h : (WMv E m_M_writes d [aP 42, aI 32] σ (fun σ1 => Fix σ1 ∧ (rI x1) ∧ ((x1 ≤ 9 → WP E m_M_writesNumber (d + 1) 23 [(0, aP 42), (1, aI x1)] [] σ1 Q) ∧ (¬ x1 ≤ 9 → (0 ≤ x1 ∧ x1 ≤ 2147483647) ∧ (WMv E m_M_writes d [aP 42, aI (48 + (x1 / 10))] σ1 (fun σ4 => WP E m_M_writesNumber (d + 1) 23 [(0, aP 42), (1, aI x1)] [] σ4 Q))))))) : WP E m_M_writesNumber (d + 1) 0 [(0, aP 42), (1, aI x1)] [] σ Q := by
  refine s_aload_n 0 d_M_writesNumber_0 rfl rfl ?_
  refine s_bipush d_M_writesNumber_1 (by decide) ?_
  refine s_callV (as := [aI 32]) (ci := 10) d_M_writesNumber_3 ok_M_writes lk_M_334 io_M_writes so_M_writes (by decide) rfl rfl rfl (Nat.le_of_ble_eq_true rfl) rfl (sf_42 hF) (WM.mono h ?_)
  rintro _ σ1 ⟨rfl, hp, h⟩
  obtain ⟨hF1, h⟩ := h
  show WP E m_M_writesNumber (d + 1) 6 [(0, aP 42), (1, aI x1)] [] σ1 Q
  refine s_iload_n 1 d_M_writesNumber_6 rfl rfl ?_
  refine s_bipush d_M_writesNumber_7 (by decide) ?_
  obtain ⟨g2, h⟩ := h
  refine s_icmp_le d_M_writesNumber_9 rfl g2 (by decide) (fun c => ?_) (fun c => ?_)
  · have h := h.1 c
    exact h
  · have h := h.2 c
    refine s_aload_n 0 d_M_writesNumber_12 rfl rfl ?_
    refine s_bipush d_M_writesNumber_13 (by decide) ?_
    refine s_iload_n 1 d_M_writesNumber_15 rfl rfl ?_
    refine s_bipush d_M_writesNumber_16 (by decide) ?_
    obtain ⟨g3, h⟩ := h
    refine s_idiv d_M_writesNumber_18 ⟨g3, by decide, by decide⟩ ?_
    refine s_iadd d_M_writesNumber_19 ?_
    refine s_callV (as := [aI (48 + (x1 / 10))]) (ci := 10) d_M_writesNumber_20 ok_M_writes lk_M_334 io_M_writes so_M_writes (by decide) rfl rfl rfl (Nat.le_of_ble_eq_true rfl) rfl (sf_42 hF1) (WM.mono h ?_)
    rintro _ σ4 ⟨rfl, hp, h⟩
    show WP E m_M_writesNumber (d + 1) 23 [(0, aP 42), (1, aI x1)] [] σ4 Q
    exact h
theorem e_M_writesNumber {E : EV} {d : Nat} {Q : Option AV → St → Prop} {σ : St} (x1 : Int) (hF : Fix σ) (h : (WMv E m_M_writes d [aP 42, aI 32] σ (fun σ1 => Fix σ1 ∧ (rI x1) ∧ ((x1 ≤ 9 → WP E m_M_writesNumber (d + 1) 23 [(0, aP 42), (1, aI x1)] [] σ1 Q) ∧ (¬ x1 ≤ 9 → (0 ≤ x1 ∧ x1 ≤ 2147483647) ∧ (WMv E m_M_writes d [aP 42, aI (48 + (x1 / 10))] σ1 (fun σ4 => WP E m_M_writesNumber (d + 1) 23 [(0, aP 42), (1, aI x1)] [] σ4 Q))))))) : WM E m_M_writesNumber (d + 1) [aP 42, aI x1] σ Q := s_meth (by decide) (Nat.le_of_ble_eq_true rfl) rfl (b_M_writesNumber_0 x1 hF h)
theorem b_M_writesNumber_23 {E : EV} {d : Nat} {Q : Option AV → St → Prop} {σ : St} (x1 : Int) (hF : Fix σ) (h : (0 ≤ x1 ∧ x1 ≤ 2147483647) ∧ (WMv E m_M_writes d [aP 42, aI (48 + (x1 % 10))] σ (fun σ2 => Q none σ2))) : WP E m_M_writesNumber (d + 1) 23 [(0, aP 42), (1, aI x1)] [] σ Q := by
  refine s_aload_n 0 d_M_writesNumber_23 rfl rfl ?_
  refine s_bipush d_M_writesNumber_24 (by decide) ?_
  refine s_iload_n 1 d_M_writesNumber_26 rfl rfl ?_
  refine s_bipush d_M_writesNumber_27 (by decide) ?_
  obtain ⟨g1, h⟩ := h
  refine s_irem d_M_writesNumber_29 ⟨g1, by decide, by decide⟩ ?_
  refine s_iadd d_M_writesNumber_30 ?_
  refine s_callV (as := [aI (48 + (x1 % 10))]) (ci := 10) d_M_writesNumber_31 ok_M_writes lk_M_334 io_M_writes so_M_writes (by decide) rfl rfl rfl (Nat.le_of_ble_eq_true rfl) rfl (sf_42 hF) (WM.mono h ?_)
  rintro _ σ2 ⟨rfl, hp, h⟩
  show WP E m_M_writesNumber (d + 1) 34 [(0, aP 42), (1, aI x1)] [] σ2 Q
  exact s_return d_M_writesNumber_34 rfl h
theorem d_M_writesLine_0 : decode m_M_writesLine.2.1 0 = .ok (.aload_n 0, 1) := by decide +kernel
theorem d_M_writesLine_1 : decode m_M_writesLine.2.1 1 = .ok (.iconst 4, 1) := by decide +kernel
theorem d_M_writesLine_2 : decode m_M_writesLine.2.1 2 = .ok (.invokevirtual 340, 3) := by decide +kernel
theorem d_M_writesLine_5 : decode m_M_writesLine.2.1 5 = .ok (.aload_n 0, 1) := by decide +kernel
theorem d_M_writesLine_6 : decode m_M_writesLine.2.1 6 = .ok (.iload_n 1, 1) := by decide +kernel
theorem d_M_writesLine_7 : decode m_M_writesLine.2.1 7 = .ok (.invokevirtual 266, 3) := by decide +kernel
theorem d_M_writesLine_10 : decode m_M_writesLine.2.1 10 = .ok (.ifCond .eq 14, 3) := by decide +kernel
theorem d_M_writesLine_13 : decode m_M_writesLine.2.1 13 = .ok (.aload_n 0, 1) := by decide +kernel
theorem d_M_writesLine_14 : decode m_M_writesLine.2.1 14 = .ok (.bipush 32, 2) := by decide +kernel
theorem d_M_writesLine_16 : decode m_M_writesLine.2.1 16 = .ok (.invokevirtual 334, 3) := by decide +kernel
theorem d_M_writesLine_19 : decode m_M_writesLine.2.1 19 = .ok (.aload_n 0, 1) := by decide +kernel
theorem d_M_writesLine_20 : decode m_M_writesLine.2.1 20 = .ok (.iconst 5, 1) := by decide +kernel
theorem d_M_writesLine_21 : decode m_M_writesLine.2.1 21 = .ok (.invokevirtual 340, 3) := by decide +kernel
theorem d_M_writesLine_24 : decode m_M_writesLine.2.1 24 = .ok (.iconst 0, 1) := by decide +kernel
theorem d_M_writesLine_25 : decode m_M_writesLine.2.1 25 = .ok (.istore_n 2, 1) := by decide +kernel
theorem d_M_writesLine_26 : decode m_M_writesLine.2.1 26 = .ok (.iload_n 2, 1) := by decide +kernel
theorem d_M_writesLine_27 : decode m_M_writesLine.2.1 27 = .ok (.aload_n 0, 1) := by decide +kernel
theorem d_M_writesLine_28 : decode m_M_writesLine.2.1 28 = .ok (.iload_n 1, 1) := by decide +kernel
theorem d_M_writesLine_29 : decode m_M_writesLine.2.1 29 = .ok (.invokevirtual 178, 3) := by decide +kernel
theorem d_M_writesLine_32 : decode m_M_writesLine.2.1 32 = .ok (.if_icmp .ge 45, 3) := by decide +kernel
theorem d_M_writesLine_35 : decode m_M_writesLine.2.1 35 = .ok (.aload_n 0, 1) := by decide +kernel
theorem d_M_writesLine_36 : decode m_M_writesLine.2.1 36 = .ok (.iload_n 1, 1) := by decide +kernel
theorem d_M_writesLine_37 : decode m_M_writesLine.2.1 37 = .ok (.iload_n 2, 1) := by decide +kernel
theorem d_M_writesLine_38 : decode m_M_writesLine.2.1 38 = .ok (.invokevirtual 210, 3) := by decide +kernel
theorem d_M_writesLine_41 : decode m_M_writesLine.2.1 41 = .ok (.iload_n 2, 1) := by decide +kernel
theorem d_M_writesLine_42 : decode m_M_writesLine.2.1 42 = .ok (.ifCond .le 12, 3) := by decide +kernel
theorem d_M_writesLine_45 : decode m_M_writesLine.2.1 45 = .ok (.aload_n 0, 1) := by decide +kernel
theorem d_M_writesLine_46 : decode m_M_writesLine.2.1 46 = .ok (.bipush 45, 2) := by decide +kernel
theorem d_M_writesLine_48 : decode m_M_writesLine.2.1 48 = .ok (.invokevirtual 334, 3) := by decide +kernel
theorem d_M_writesLine_51 : decode m_M_writesLine.2.1 51 = .ok (.goto 16, 3) := by decide +kernel
theorem d_M_writesLine_54 : decode m_M_writesLine.2.1 54 = .ok (.aload_n 0, 1) := by decide +kernel
theorem d_M_writesLine_55 : decode m_M_writesLine.2.1 55 = .ok (.invokevirtual 343, 3) := by decide +kernel
theorem d_M_writesLine_58 : decode m_M_writesLine.2.1 58 = .ok (.ifCond .eq 9, 3) := by decide +kernel
theorem d_M_writesLine_61 : decode m_M_writesLine.2.1 61 = .ok (.aload_n 0, 1) := by decide +kernel
theorem d_M_writesLine_62 : decode m_M_writesLine.2.1 62 = .ok (.bipush 32, 2) := by decide +kernel
theorem d_M_writesLine_64 : decode m_M_writesLine.2.1 64 = .ok (.invokevirtual 334, 3) := by decide +kernel
theorem d_M_writesLine_67 : decode m_M_writesLine.2.1 67 = .ok (.aload_n 0, 1) := by decide +kernel
theorem d_M_writesLine_68 : decode m_M_writesLine.2.1 68 = .ok (.invokevirtual 347, 3) := by decide +kernel
theorem d_M_writesLine_71 : decode m_M_writesLine.2.1 71 = .ok (.iinc 2 1, 3) := by decide +kernel
theorem d_M_writesLine_74 : decode m_M_writesLine.2.1 74 = .ok (.goto (-48), 3) := by decide +kernel
theorem d_M_writesLine_77 : decode m_M_writesLine.2.1 77 = .ok (.aload_n 0, 1) := by decide +kernel
theorem d_M_writesLine_78 : decode m_M_writesLine.2.1 78 = .ok (.bipush 59, 2) := by decide +kernel
theorem d_M_writesLine_80 : decode m_M_writesLine.2.1 80 = .ok (.invokevirtual 334, 3) := by decide +kernel
theorem d_M_writesLine_83 : decode m_M_writesLine.2.1 83 = .ok (.return_, 1) := by decide +kernel
theorem b_M_writesLine_0 {E : EV} {d : Nat} {Q : Option AV → St → Prop} {σ : St} (x1 : Int) (hF : Fix σ) (h : (WMv E m_M_writesWord d [aP 42, aI 4] σ (fun σ1 => Fix σ1 ∧ (WMi E m_M_isLeft d [aP 42, aI x1] σ1 (fun v2 σ2 => Fix σ2 ∧ (rI v2) ∧ ((v2 = 0 → WP E m_M_writesLine (d + 1) 24 [(0, aP 42), (1, aI x1)] [] σ2 Q) ∧ (¬ v2 = 0 → (WMv E m_M_writes d [aP 42, aI 32] σ2 (fun σ4 => Fix σ4 ∧ (WMv E m_M_writesWord d [aP 42, aI 5] σ4 (fun σ5 => WP E m_M_writesLine (d + 1) 24 [(0, aP 42), (1, aI x1)] [] σ5 Q))))))))))) : WP E m_M_writesLine (d + 1) 0 [(0, aP 42), (1, aI x1)] [] σ Q := by
  refine s_aload_n 0 d_M_writesLine_0 rfl rfl ?_
  refine s_iconst d_M_writesLine_1 ?_
  refine s_callV (as := [aI 4]) (ci := 10) d_M_writesLine_2 ok_M_writesWord lk_M_340 io_M_writesWord so_M_writesWord (by decide) rfl rfl rfl (Nat.le_of_ble_eq_true rfl) rfl (sf_42 hF) (WM.mono h ?_)
  rintro _ σ1 ⟨rfl, hp, h⟩
  obtain ⟨hF1, h⟩ := h
  show WP E m_M_writesLine (d + 1) 5 [(0, aP 42), (1, aI x1)] [] σ1 Q
  refine s_aload_n 0 d_M_writesLine_5 rfl rfl ?_
  refine s_iload_n 1 d_M_writesLine_6 rfl rfl ?_
  refine s_callV (as := [aI x1]) (ci := 10) d_M_writesLine_7 ok_M_isLeft lk_M_266 io_M_isLeft so_M_isLeft (by decide) rfl rfl rfl (Nat.le_of_ble_eq_true rfl) rfl (sf_42 hF1) (WM.mono h ?_)
  rintro _ σ2 ⟨v2, rfl, hp, h⟩
  obtain ⟨hF2, h⟩ := h
  show WP E m_M_writesLine (d + 1) 10 [(0, aP 42), (1, aI x1)] [aI v2] σ2 Q
  obtain ⟨g3, h⟩ := h
  refine s_if_eq d_M_writesLine_10 rfl g3 (fun c => ?_) (fun c => ?_)
  · have h := h.1 c
    exact h
  · have h := h.2 c
    refine s_aload_n 0 d_M_writesLine_13 rfl rfl ?_
    refine s_bipush d_M_writesLine_14 (by decide) ?_
    refine s_callV (as := [aI 32]) (ci := 10) d_M_writesLine_16 ok_M_writes lk_M_334 io_M_writes so_M_writes (by decide) rfl rfl rfl (Nat.le_of_ble_eq_true rfl) rfl (sf_42 hF2) (WM.mono h ?_)
    rintro _ σ4 ⟨rfl, hp, h⟩
    obtain ⟨hF4, h⟩ := h
    show WP E m_M_writesLine (d + 1) 19 [(0, aP 42), (1, aI x1)] [] σ4 Q
    refine s_aload_n 0 d_M_writesLine_19 rfl rfl ?_
    refine s_iconst d_M_writesLine_20 ?_
    refine s_callV (as := [aI 5]) (ci := 10) d_M_writesLine_21 ok_M_writesWord lk_M_340 io_M_writesWord so_M_writesWord (by decide) rfl rfl rfl (Nat.le_of_ble_eq_true rfl) rfl (sf_42 hF4) (WM.mono h ?_)
    rintro _ σ5 ⟨rfl, hp, h⟩
    show WP E m_M_writesLine (d + 1) 24 [(0, aP 42), (1, aI x1)] [] σ5 Q
    exact h
theorem e_M_writesLine {E : EV} {d : Nat} {Q : Option AV → St → Prop} {σ : St} (x1 : Int) (hF : Fix σ) (h : (WMv E m_M_writesWord d [aP 42, aI 4] σ (fun σ1 => Fix σ1 ∧ (WMi E m_M_isLeft d [aP 42, aI x1] σ1 (fun v2 σ2 => Fix σ2 ∧ (rI v2) ∧ ((v2 = 0 → WP E m_M_writesLine (d + 1) 24 [(0, aP 42), (1, aI x1)] [] σ2 Q) ∧ (¬ v2 = 0 → (WMv E m_M_writes d [aP 42, aI 32] σ2 (fun σ4 => Fix σ4 ∧ (WMv E m_M_writesWord d [aP 42, aI 5] σ4 (fun σ5 => WP E m_M_writesLine (d + 1) 24 [(0, aP 42), (1, aI x1)] [] σ5 Q))))))))))) : WM E m_M_writesLine (d + 1) [aP 42, aI x1] σ Q := s_meth (by decide) (Nat.le_of_ble_eq_true rfl) rfl (b_M_writesLine_0 x1 hF h)
theorem b_M_writesLine_24 {E : EV} {d : Nat} {Q : Option AV → St → Prop} {σ : St} (x1 : Int) (h : WP E m_M_writesLine (d + 1) 26 [(0, aP 42), (1, aI x1), (2, aI 0)] [] σ Q) : WP E m_M_writesLine (d + 1) 24 [(0, aP 42), (1, aI x1)] [] σ Q := by
  refine s_iconst d_M_writesLine_24 ?_
  refine s_istore_n d_M_writesLine_25 rfl (by decide) rfl ?_
  refine wp_drop [1, 2, 0] rfl ?_
  exact h
theorem b_M_writesLine_26 {E : EV} {d : Nat} {Q : Option AV → St → Prop} {σ : St} (x1 x2 : Int) (hF : Fix σ) (h : (WMi E m_M_squaresOf d [aP 42, aI x1] σ (fun v1 σ1 => Fix σ1 ∧ (rI x2) ∧ (rI v1) ∧ ((v1 ≤ x2 → (WMv E m_M_writes d [aP 42, aI 59] σ1 (fun σ4 => Q none σ4))) ∧ (¬ v1 ≤ x2 → (WMv E m_M_takes d [aP 42, aI x1, aI x2] σ1 (fun σ5 => Fix σ5 ∧ (rI x2) ∧ ((x2 ≤ 0 → (WMi E m_M_isLetterFirst d [aP 42] σ5 (fun v7 σ7 => Fix σ7 ∧ (rI v7) ∧ ((v7 = 0 → WP E m_M_writesLine (d + 1) 67 [(0, aP 42), (1, aI x1), (2, aI x2)] [] σ7 Q) ∧ (¬ v7 = 0 → (WMv E m_M_writes d [aP 42, aI 32] σ7 (fun σ9 => WP E m_M_writesLine (d + 1) 67 [(0, aP 42), (1, aI x1), (2, aI x2)] [] σ9 Q))))))) ∧ (¬ x2 ≤ 0 → (WMv E m_M_writes d [aP 42, aI 45] σ5 (fun σ10 => WP E m_M_writesLine (d + 1) 67 [(0, aP 42), (1, aI x1), (2, aI x2)] [] σ10 Q))))))))))) : WP E m_M_writesLine (d + 1) 26 [(0, aP 42), (1, aI x1), (2, aI x2)] [] σ Q := by
  refine s_iload_n 2 d_M_writesLine_26 rfl rfl ?_
  refine s_aload_n 0 d_M_writesLine_27 rfl rfl ?_
  refine s_iload_n 1 d_M_writesLine_28 rfl rfl ?_
  refine s_callV (as := [aI x1]) (ci := 10) d_M_writesLine_29 ok_M_squaresOf lk_M_178 io_M_squaresOf so_M_squaresOf (by decide) rfl rfl rfl (Nat.le_of_ble_eq_true rfl) rfl (sf_42 hF) (WM.mono h ?_)
  rintro _ σ1 ⟨v1, rfl, hp, h⟩
  obtain ⟨hF1, h⟩ := h
  show WP E m_M_writesLine (d + 1) 32 [(0, aP 42), (1, aI x1), (2, aI x2)] [aI v1, aI x2] σ1 Q
  obtain ⟨g2, h⟩ := h
  obtain ⟨g3, h⟩ := h
  refine s_icmp_ge d_M_writesLine_32 rfl g2 g3 (fun c => ?_) (fun c => ?_)
  · have h := h.1 c
    refine s_aload_n 0 d_M_writesLine_77 rfl rfl ?_
    refine s_bipush d_M_writesLine_78 (by decide) ?_
    refine s_callV (as := [aI 59]) (ci := 10) d_M_writesLine_80 ok_M_writes lk_M_334 io_M_writes so_M_writes (by decide) rfl rfl rfl (Nat.le_of_ble_eq_true rfl) rfl (sf_42 hF1) (WM.mono h ?_)
    rintro _ σ4 ⟨rfl, hp, h⟩
    show WP E m_M_writesLine (d + 1) 83 [(0, aP 42), (1, aI x1), (2, aI x2)] [] σ4 Q
    exact s_return d_M_writesLine_83 rfl h
  · have h := h.2 c
    refine s_aload_n 0 d_M_writesLine_35 rfl rfl ?_
    refine s_iload_n 1 d_M_writesLine_36 rfl rfl ?_
    refine s_iload_n 2 d_M_writesLine_37 rfl rfl ?_
    refine s_callV (as := [aI x1, aI x2]) (ci := 10) d_M_writesLine_38 ok_M_takes lk_M_210 io_M_takes so_M_takes (by decide) rfl rfl rfl (Nat.le_of_ble_eq_true rfl) rfl (sf_42 hF1) (WM.mono h ?_)
    rintro _ σ5 ⟨rfl, hp, h⟩
    obtain ⟨hF5, h⟩ := h
    show WP E m_M_writesLine (d + 1) 41 [(0, aP 42), (1, aI x1), (2, aI x2)] [] σ5 Q
    refine s_iload_n 2 d_M_writesLine_41 rfl rfl ?_
    obtain ⟨g6, h⟩ := h
    refine s_if_le d_M_writesLine_42 rfl g6 (fun c => ?_) (fun c => ?_)
    · have h := h.1 c
      refine s_aload_n 0 d_M_writesLine_54 rfl rfl ?_
      refine s_callV (as := []) (ci := 10) d_M_writesLine_55 ok_M_isLetterFirst lk_M_343 io_M_isLetterFirst so_M_isLetterFirst (by decide) rfl rfl rfl (Nat.le_of_ble_eq_true rfl) rfl (sf_42 hF5) (WM.mono h ?_)
      rintro _ σ7 ⟨v7, rfl, hp, h⟩
      obtain ⟨hF7, h⟩ := h
      show WP E m_M_writesLine (d + 1) 58 [(0, aP 42), (1, aI x1), (2, aI x2)] [aI v7] σ7 Q
      obtain ⟨g8, h⟩ := h
      refine s_if_eq d_M_writesLine_58 rfl g8 (fun c => ?_) (fun c => ?_)
      · have h := h.1 c
        exact h
      · have h := h.2 c
        refine s_aload_n 0 d_M_writesLine_61 rfl rfl ?_
        refine s_bipush d_M_writesLine_62 (by decide) ?_
        refine s_callV (as := [aI 32]) (ci := 10) d_M_writesLine_64 ok_M_writes lk_M_334 io_M_writes so_M_writes (by decide) rfl rfl rfl (Nat.le_of_ble_eq_true rfl) rfl (sf_42 hF7) (WM.mono h ?_)
        rintro _ σ9 ⟨rfl, hp, h⟩
        show WP E m_M_writesLine (d + 1) 67 [(0, aP 42), (1, aI x1), (2, aI x2)] [] σ9 Q
        exact h
    · have h := h.2 c
      refine s_aload_n 0 d_M_writesLine_45 rfl rfl ?_
      refine s_bipush d_M_writesLine_46 (by decide) ?_
      refine s_callV (as := [aI 45]) (ci := 10) d_M_writesLine_48 ok_M_writes lk_M_334 io_M_writes so_M_writes (by decide) rfl rfl rfl (Nat.le_of_ble_eq_true rfl) rfl (sf_42 hF5) (WM.mono h ?_)
      rintro _ σ10 ⟨rfl, hp, h⟩
      show WP E m_M_writesLine (d + 1) 51 [(0, aP 42), (1, aI x1), (2, aI x2)] [] σ10 Q
      refine s_goto d_M_writesLine_51 rfl ?_
      exact h
theorem b_M_writesLine_67 {E : EV} {d : Nat} {Q : Option AV → St → Prop} {σ : St} (x1 x2 : Int) (hF : Fix σ) (h : (WMv E m_M_writesRow d [aP 42] σ (fun σ1 => WP E m_M_writesLine (d + 1) 26 [(0, aP 42), (1, aI x1), (2, aI (x2 + 1))] [] σ1 Q))) : WP E m_M_writesLine (d + 1) 67 [(0, aP 42), (1, aI x1), (2, aI x2)] [] σ Q := by
  refine s_aload_n 0 d_M_writesLine_67 rfl rfl ?_
  refine s_callV (as := []) (ci := 10) d_M_writesLine_68 ok_M_writesRow lk_M_347 io_M_writesRow so_M_writesRow (by decide) rfl rfl rfl (Nat.le_of_ble_eq_true rfl) rfl (sf_42 hF) (WM.mono h ?_)
  rintro _ σ1 ⟨rfl, hp, h⟩
  show WP E m_M_writesLine (d + 1) 71 [(0, aP 42), (1, aI x1), (2, aI x2)] [] σ1 Q
  refine s_iinc 2 d_M_writesLine_71 rfl (by decide) rfl ?_
  refine s_goto d_M_writesLine_74 rfl ?_
  refine wp_drop [1, 2, 0] rfl ?_
  exact h
theorem d_M_isLetterFirst_0 : decode m_M_isLetterFirst.2.1 0 = .ok (.iconst 0, 1) := by decide +kernel
theorem d_M_isLetterFirst_1 : decode m_M_isLetterFirst.2.1 1 = .ok (.istore_n 1, 1) := by decide +kernel
theorem d_M_isLetterFirst_2 : decode m_M_isLetterFirst.2.1 2 = .ok (.iconst 0, 1) := by decide +kernel
theorem d_M_isLetterFirst_3 : decode m_M_isLetterFirst.2.1 3 = .ok (.istore_n 2, 1) := by decide +kernel
theorem d_M_isLetterFirst_4 : decode m_M_isLetterFirst.2.1 4 = .ok (.aload_n 0, 1) := by decide +kernel
theorem d_M_isLetterFirst_5 : decode m_M_isLetterFirst.2.1 5 = .ok (.getfield 35, 3) := by decide +kernel
theorem d_M_isLetterFirst_8 : decode m_M_isLetterFirst.2.1 8 = .ok (.iload_n 2, 1) := by decide +kernel
theorem d_M_isLetterFirst_9 : decode m_M_isLetterFirst.2.1 9 = .ok (.iaload, 1) := by decide +kernel
theorem d_M_isLetterFirst_10 : decode m_M_isLetterFirst.2.1 10 = .ok (.invokestatic 199, 3) := by decide +kernel
theorem d_M_isLetterFirst_13 : decode m_M_isLetterFirst.2.1 13 = .ok (.ifCond .ne 45, 3) := by decide +kernel
theorem d_M_isLetterFirst_16 : decode m_M_isLetterFirst.2.1 16 = .ok (.aload_n 0, 1) := by decide +kernel
theorem d_M_isLetterFirst_17 : decode m_M_isLetterFirst.2.1 17 = .ok (.getfield 35, 3) := by decide +kernel
theorem d_M_isLetterFirst_20 : decode m_M_isLetterFirst.2.1 20 = .ok (.iload_n 2, 1) := by decide +kernel
theorem d_M_isLetterFirst_21 : decode m_M_isLetterFirst.2.1 21 = .ok (.iaload, 1) := by decide +kernel
theorem d_M_isLetterFirst_22 : decode m_M_isLetterFirst.2.1 22 = .ok (.sipush 300, 3) := by decide +kernel
theorem d_M_isLetterFirst_25 : decode m_M_isLetterFirst.2.1 25 = .ok (.if_icmp .lt 9, 3) := by decide +kernel
theorem d_M_isLetterFirst_28 : decode m_M_isLetterFirst.2.1 28 = .ok (.iload_n 1, 1) := by decide +kernel
theorem d_M_isLetterFirst_29 : decode m_M_isLetterFirst.2.1 29 = .ok (.ifCond .eq 5, 3) := by decide +kernel
theorem d_M_isLetterFirst_32 : decode m_M_isLetterFirst.2.1 32 = .ok (.iconst 0, 1) := by decide +kernel
theorem d_M_isLetterFirst_33 : decode m_M_isLetterFirst.2.1 33 = .ok (.ireturn, 1) := by decide +kernel
theorem d_M_isLetterFirst_34 : decode m_M_isLetterFirst.2.1 34 = .ok (.aload_n 0, 1) := by decide +kernel
theorem d_M_isLetterFirst_35 : decode m_M_isLetterFirst.2.1 35 = .ok (.getfield 35, 3) := by decide +kernel
theorem d_M_isLetterFirst_38 : decode m_M_isLetterFirst.2.1 38 = .ok (.iload_n 2, 1) := by decide +kernel
theorem d_M_isLetterFirst_39 : decode m_M_isLetterFirst.2.1 39 = .ok (.iaload, 1) := by decide +kernel
theorem d_M_isLetterFirst_40 : decode m_M_isLetterFirst.2.1 40 = .ok (.sipush 300, 3) := by decide +kernel
theorem d_M_isLetterFirst_43 : decode m_M_isLetterFirst.2.1 43 = .ok (.if_icmp .ge 7, 3) := by decide +kernel
theorem d_M_isLetterFirst_46 : decode m_M_isLetterFirst.2.1 46 = .ok (.iconst 1, 1) := by decide +kernel
theorem d_M_isLetterFirst_47 : decode m_M_isLetterFirst.2.1 47 = .ok (.goto 4, 3) := by decide +kernel
theorem d_M_isLetterFirst_50 : decode m_M_isLetterFirst.2.1 50 = .ok (.iconst 0, 1) := by decide +kernel
theorem d_M_isLetterFirst_51 : decode m_M_isLetterFirst.2.1 51 = .ok (.istore_n 1, 1) := by decide +kernel
theorem d_M_isLetterFirst_52 : decode m_M_isLetterFirst.2.1 52 = .ok (.iinc 2 1, 3) := by decide +kernel
theorem d_M_isLetterFirst_55 : decode m_M_isLetterFirst.2.1 55 = .ok (.goto (-51), 3) := by decide +kernel
theorem d_M_isLetterFirst_58 : decode m_M_isLetterFirst.2.1 58 = .ok (.iconst 1, 1) := by decide +kernel
theorem d_M_isLetterFirst_59 : decode m_M_isLetterFirst.2.1 59 = .ok (.ireturn, 1) := by decide +kernel
theorem b_M_isLetterFirst_0 {E : EV} {d : Nat} {Q : Option AV → St → Prop} {σ : St} (h : WP E m_M_isLetterFirst (d + 1) 4 [(0, aP 42), (1, aI 0), (2, aI 0)] [] σ Q) : WP E m_M_isLetterFirst (d + 1) 0 [(0, aP 42)] [] σ Q := by
  refine s_iconst d_M_isLetterFirst_0 ?_
  refine s_istore_n d_M_isLetterFirst_1 rfl (by decide) rfl ?_
  refine s_iconst d_M_isLetterFirst_2 ?_
  refine s_istore_n d_M_isLetterFirst_3 rfl (by decide) rfl ?_
  refine wp_drop [2, 1, 0] rfl ?_
  exact h
theorem e_M_isLetterFirst {E : EV} {d : Nat} {Q : Option AV → St → Prop} {σ : St} (h : WP E m_M_isLetterFirst (d + 1) 4 [(0, aP 42), (1, aI 0), (2, aI 0)] [] σ Q) : WM E m_M_isLetterFirst (d + 1) [aP 42] σ Q := s_meth (by decide) (Nat.le_of_ble_eq_true rfl) rfl (b_M_isLetterFirst_0 h)
theorem b_M_isLetterFirst_4 {E : EV} {d : Nat} {Q : Option AV → St → Prop} {σ : St} (x1 x2 : Int) (hF : Fix σ) (h : (0 ≤ x2 ∧ x2 < 24) ∧ (WMi E m_M_isSign d [aI (σ.1 50 x2)] σ (fun v2 σ2 => Fix σ2 ∧ (rI v2) ∧ ((¬ v2 = 0 → Q (some (aI 1)) σ2) ∧ (v2 = 0 → (0 ≤ x2 ∧ x2 < 24) ∧ (rI (σ2.1 50 x2)) ∧ (((σ2.1 50 x2) < 300 → WP E m_M_isLetterFirst (d + 1) 34 [(0, aP 42), (2, aI x2)] [] σ2 Q) ∧ (¬ (σ2.1 50 x2) < 300 → (rI x1) ∧ ((x1 = 0 → WP E m_M_isLetterFirst (d + 1) 34 [(0, aP 42), (2, aI x2)] [] σ2 Q) ∧ (¬ x1 = 0 → Q (some (aI 0)) σ2))))))))) : WP E m_M_isLetterFirst (d + 1) 4 [(0, aP 42), (1, aI x1), (2, aI x2)] [] σ Q := by
  refine s_aload_n 0 d_M_isLetterFirst_4 rfl rfl ?_
  refine s_getF (v := 50) d_M_isLetterFirst_5 fl_M_35 rfl (sf_42 hF) (ff_35 hF) ?_
  refine s_iload_n 2 d_M_isLetterFirst_8 rfl rfl ?_
  obtain ⟨g1, h⟩ := h
  refine s_ialoadv (v := σ.1 50 x2) d_M_isLetterFirst_9 ⟨_, sf_50 hF, g1.1, g1.2, by have := g1.2; omega⟩ rfl ?_
  refine s_callS (as := [aI (σ.1 50 x2)]) d_M_isLetterFirst_10 ok_M_isSign lk_M_199 to_M_isSign rfl (Nat.le_of_ble_eq_true rfl) rfl (WM.mono h ?_)
  rintro _ σ2 ⟨v2, rfl, hp, h⟩
  obtain ⟨hF2, h⟩ := h
  show WP E m_M_isLetterFirst (d + 1) 13 [(0, aP 42), (1, aI x1), (2, aI x2)] [aI v2] σ2 Q
  obtain ⟨g3, h⟩ := h
  refine s_if_ne d_M_isLetterFirst_13 rfl g3 (fun c => ?_) (fun c => ?_)
  · have h := h.1 c
    refine s_iconst d_M_isLetterFirst_58 ?_
    exact s_zreturn d_M_isLetterFirst_59 rfl (by decide) h
  · have h := h.2 c
    refine s_aload_n 0 d_M_isLetterFirst_16 rfl rfl ?_
    refine s_getF (v := 50) d_M_isLetterFirst_17 fl_M_35 rfl (sf_42 hF2) (ff_35 hF2) ?_
    refine s_iload_n 2 d_M_isLetterFirst_20 rfl rfl ?_
    obtain ⟨g4, h⟩ := h
    refine s_ialoadv (v := σ2.1 50 x2) d_M_isLetterFirst_21 ⟨_, sf_50 hF2, g4.1, g4.2, by have := g4.2; omega⟩ rfl ?_
    refine s_sipush d_M_isLetterFirst_22 (by decide) ?_
    obtain ⟨g5, h⟩ := h
    refine s_icmp_lt d_M_isLetterFirst_25 rfl g5 (by decide) (fun c => ?_) (fun c => ?_)
    · have h := h.1 c
      refine wp_drop [0, 2] rfl ?_
      exact h
    · have h := h.2 c
      refine s_iload_n 1 d_M_isLetterFirst_28 rfl rfl ?_
      obtain ⟨g6, h⟩ := h
      refine s_if_eq d_M_isLetterFirst_29 rfl g6 (fun c => ?_) (fun c => ?_)
      · have h := h.1 c
        refine wp_drop [0, 2] rfl ?_
        exact h
      · have h := h.2 c
        refine s_iconst d_M_isLetterFirst_32 ?_
        exact s_zreturn d_M_isLetterFirst_33 rfl (by decide) h
theorem b_M_isLetterFirst_34 {E : EV} {d : Nat} {Q : Option AV → St → Prop} {σ : St} (x2 : Int) (hF : Fix σ) (h : (0 ≤ x2 ∧ x2 < 24) ∧ (rI (σ.1 50 x2)) ∧ ((300 ≤ (σ.1 50 x2) → WP E m_M_isLetterFirst (d + 1) 51 [(0, aP 42), (2, aI x2)] [aI 0] σ Q) ∧ (¬ 300 ≤ (σ.1 50 x2) → WP E m_M_isLetterFirst (d + 1) 51 [(0, aP 42), (2, aI x2)] [aI 1] σ Q))) : WP E m_M_isLetterFirst (d + 1) 34 [(0, aP 42), (2, aI x2)] [] σ Q := by
  refine s_aload_n 0 d_M_isLetterFirst_34 rfl rfl ?_
  refine s_getF (v := 50) d_M_isLetterFirst_35 fl_M_35 rfl (sf_42 hF) (ff_35 hF) ?_
  refine s_iload_n 1 d_M_isLetterFirst_38 rfl rfl ?_
  obtain ⟨g1, h⟩ := h
  refine s_ialoadv (v := σ.1 50 x2) d_M_isLetterFirst_39 ⟨_, sf_50 hF, g1.1, g1.2, by have := g1.2; omega⟩ rfl ?_
  refine s_sipush d_M_isLetterFirst_40 (by decide) ?_
  obtain ⟨g2, h⟩ := h
  refine s_icmp_ge d_M_isLetterFirst_43 rfl g2 (by decide) (fun c => ?_) (fun c => ?_)
  · have h := h.1 c
    refine s_iconst d_M_isLetterFirst_50 ?_
    exact h
  · have h := h.2 c
    refine s_iconst d_M_isLetterFirst_46 ?_
    refine s_goto d_M_isLetterFirst_47 rfl ?_
    exact h
theorem b_M_isLetterFirst_51 {E : EV} {d : Nat} {Q : Option AV → St → Prop} {σ : St} (x2 s0 : Int) (h : WP E m_M_isLetterFirst (d + 1) 4 [(0, aP 42), (1, aI s0), (2, aI (x2 + 1))] [] σ Q) : WP E m_M_isLetterFirst (d + 1) 51 [(0, aP 42), (2, aI x2)] [aI s0] σ Q := by
  refine s_istore_n d_M_isLetterFirst_51 rfl (by decide) rfl ?_
  refine s_iinc 2 d_M_isLetterFirst_52 rfl (by decide) rfl ?_
  refine s_goto d_M_isLetterFirst_55 rfl ?_
  refine wp_drop [2, 1, 0] rfl ?_
  exact h
theorem d_M_writesRow_0 : decode m_M_writesRow.2.1 0 = .ok (.iconst (-1), 1) := by decide +kernel
theorem d_M_writesRow_1 : decode m_M_writesRow.2.1 1 = .ok (.istore_n 1, 1) := by decide +kernel
theorem d_M_writesRow_2 : decode m_M_writesRow.2.1 2 = .ok (.iconst 0, 1) := by decide +kernel
theorem d_M_writesRow_3 : decode m_M_writesRow.2.1 3 = .ok (.istore_n 2, 1) := by decide +kernel
theorem d_M_writesRow_4 : decode m_M_writesRow.2.1 4 = .ok (.iload_n 2, 1) := by decide +kernel
theorem d_M_writesRow_5 : decode m_M_writesRow.2.1 5 = .ok (.aload_n 0, 1) := by decide +kernel
theorem d_M_writesRow_6 : decode m_M_writesRow.2.1 6 = .ok (.getfield 189, 3) := by decide +kernel
theorem d_M_writesRow_9 : decode m_M_writesRow.2.1 9 = .ok (.if_icmp .ge 313, 3) := by decide +kernel
theorem d_M_writesRow_12 : decode m_M_writesRow.2.1 12 = .ok (.iload_n 1, 1) := by decide +kernel
theorem d_M_writesRow_13 : decode m_M_writesRow.2.1 13 = .ok (.ifCond .lt 22, 3) := by decide +kernel
theorem d_M_writesRow_16 : decode m_M_writesRow.2.1 16 = .ok (.aload_n 0, 1) := by decide +kernel
theorem d_M_writesRow_17 : decode m_M_writesRow.2.1 17 = .ok (.getfield 90, 3) := by decide +kernel
theorem d_M_writesRow_20 : decode m_M_writesRow.2.1 20 = .ok (.iload_n 1, 1) := by decide +kernel
theorem d_M_writesRow_21 : decode m_M_writesRow.2.1 21 = .ok (.baload, 1) := by decide +kernel
theorem d_M_writesRow_22 : decode m_M_writesRow.2.1 22 = .ok (.ifCond .eq 13, 3) := by decide +kernel
theorem d_M_writesRow_25 : decode m_M_writesRow.2.1 25 = .ok (.aload_n 0, 1) := by decide +kernel
theorem d_M_writesRow_26 : decode m_M_writesRow.2.1 26 = .ok (.aload_n 0, 1) := by decide +kernel
theorem d_M_writesRow_27 : decode m_M_writesRow.2.1 27 = .ok (.getfield 81, 3) := by decide +kernel
theorem d_M_writesRow_30 : decode m_M_writesRow.2.1 30 = .ok (.iload_n 1, 1) := by decide +kernel
theorem d_M_writesRow_31 : decode m_M_writesRow.2.1 31 = .ok (.iaload, 1) := by decide +kernel
theorem d_M_writesRow_32 : decode m_M_writesRow.2.1 32 = .ok (.invokevirtual 334, 3) := by decide +kernel
theorem d_M_writesRow_35 : decode m_M_writesRow.2.1 35 = .ok (.aload_n 0, 1) := by decide +kernel
theorem d_M_writesRow_36 : decode m_M_writesRow.2.1 36 = .ok (.getfield 35, 3) := by decide +kernel
theorem d_M_writesRow_39 : decode m_M_writesRow.2.1 39 = .ok (.iload_n 2, 1) := by decide +kernel
theorem d_M_writesRow_40 : decode m_M_writesRow.2.1 40 = .ok (.iaload, 1) := by decide +kernel
theorem d_M_writesRow_41 : decode m_M_writesRow.2.1 41 = .ok (.invokestatic 199, 3) := by decide +kernel
theorem d_M_writesRow_44 : decode m_M_writesRow.2.1 44 = .ok (.ifCond .eq 19, 3) := by decide +kernel
theorem d_M_writesRow_47 : decode m_M_writesRow.2.1 47 = .ok (.aload_n 0, 1) := by decide +kernel
theorem d_M_writesRow_48 : decode m_M_writesRow.2.1 48 = .ok (.bipush 97, 2) := by decide +kernel
theorem d_M_writesRow_50 : decode m_M_writesRow.2.1 50 = .ok (.aload_n 0, 1) := by decide +kernel
theorem d_M_writesRow_51 : decode m_M_writesRow.2.1 51 = .ok (.getfield 35, 3) := by decide +kernel
theorem d_M_writesRow_54 : decode m_M_writesRow.2.1 54 = .ok (.iload_n 2, 1) := by decide +kernel
theorem d_M_writesRow_55 : decode m_M_writesRow.2.1 55 = .ok (.iaload, 1) := by decide +kernel
theorem d_M_writesRow_56 : decode m_M_writesRow.2.1 56 = .ok (.invokestatic 217, 3) := by decide +kernel
theorem d_M_writesRow_59 : decode m_M_writesRow.2.1 59 = .ok (.iadd, 1) := by decide +kernel
theorem d_M_writesRow_60 : decode m_M_writesRow.2.1 60 = .ok (.invokevirtual 334, 3) := by decide +kernel
theorem d_M_writesRow_63 : decode m_M_writesRow.2.1 63 = .ok (.aload_n 0, 1) := by decide +kernel
theorem d_M_writesRow_64 : decode m_M_writesRow.2.1 64 = .ok (.getfield 35, 3) := by decide +kernel
theorem d_M_writesRow_67 : decode m_M_writesRow.2.1 67 = .ok (.iload_n 2, 1) := by decide +kernel
theorem d_M_writesRow_68 : decode m_M_writesRow.2.1 68 = .ok (.iaload, 1) := by decide +kernel
theorem d_M_writesRow_69 : decode m_M_writesRow.2.1 69 = .ok (.bipush 100, 2) := by decide +kernel
theorem d_M_writesRow_71 : decode m_M_writesRow.2.1 71 = .ok (.if_icmp .lt 171, 3) := by decide +kernel
theorem d_M_writesRow_74 : decode m_M_writesRow.2.1 74 = .ok (.aload_n 0, 1) := by decide +kernel
theorem d_M_writesRow_75 : decode m_M_writesRow.2.1 75 = .ok (.getfield 35, 3) := by decide +kernel
theorem d_M_writesRow_78 : decode m_M_writesRow.2.1 78 = .ok (.iload_n 2, 1) := by decide +kernel
theorem d_M_writesRow_79 : decode m_M_writesRow.2.1 79 = .ok (.iaload, 1) := by decide +kernel
theorem d_M_writesRow_80 : decode m_M_writesRow.2.1 80 = .ok (.sipush 300, 3) := by decide +kernel
theorem d_M_writesRow_83 : decode m_M_writesRow.2.1 83 = .ok (.if_icmp .lt 7, 3) := by decide +kernel
theorem d_M_writesRow_86 : decode m_M_writesRow.2.1 86 = .ok (.iconst 1, 1) := by decide +kernel
theorem d_M_writesRow_87 : decode m_M_writesRow.2.1 87 = .ok (.goto 4, 3) := by decide +kernel
theorem d_M_writesRow_90 : decode m_M_writesRow.2.1 90 = .ok (.iconst 0, 1) := by decide +kernel
theorem d_M_writesRow_91 : decode m_M_writesRow.2.1 91 = .ok (.istore_n 3, 1) := by decide +kernel
theorem d_M_writesRow_92 : decode m_M_writesRow.2.1 92 = .ok (.iload_n 3, 1) := by decide +kernel
theorem d_M_writesRow_93 : decode m_M_writesRow.2.1 93 = .ok (.ifCond .eq 22, 3) := by decide +kernel
theorem d_M_writesRow_96 : decode m_M_writesRow.2.1 96 = .ok (.iload_n 1, 1) := by decide +kernel
theorem d_M_writesRow_97 : decode m_M_writesRow.2.1 97 = .ok (.ifCond .lt 18, 3) := by decide +kernel
theorem d_M_writesRow_100 : decode m_M_writesRow.2.1 100 = .ok (.aload_n 0, 1) := by decide +kernel
theorem d_M_writesRow_101 : decode m_M_writesRow.2.1 101 = .ok (.getfield 81, 3) := by decide +kernel
theorem d_M_writesRow_104 : decode m_M_writesRow.2.1 104 = .ok (.iload_n 1, 1) := by decide +kernel
theorem d_M_writesRow_105 : decode m_M_writesRow.2.1 105 = .ok (.iaload, 1) := by decide +kernel
theorem d_M_writesRow_106 : decode m_M_writesRow.2.1 106 = .ok (.bipush 42, 2) := by decide +kernel
theorem d_M_writesRow_108 : decode m_M_writesRow.2.1 108 = .ok (.if_icmp .ne 7, 3) := by decide +kernel
theorem d_M_writesRow_111 : decode m_M_writesRow.2.1 111 = .ok (.iconst 1, 1) := by decide +kernel
theorem d_M_writesRow_112 : decode m_M_writesRow.2.1 112 = .ok (.goto 4, 3) := by decide +kernel
theorem d_M_writesRow_115 : decode m_M_writesRow.2.1 115 = .ok (.iconst 0, 1) := by decide +kernel
theorem d_M_writesRow_116 : decode m_M_writesRow.2.1 116 = .ok (.istore 4, 2) := by decide +kernel
theorem d_M_writesRow_118 : decode m_M_writesRow.2.1 118 = .ok (.aload_n 0, 1) := by decide +kernel
theorem d_M_writesRow_119 : decode m_M_writesRow.2.1 119 = .ok (.getfield 35, 3) := by decide +kernel
theorem d_M_writesRow_122 : decode m_M_writesRow.2.1 122 = .ok (.iload_n 2, 1) := by decide +kernel
theorem d_M_writesRow_123 : decode m_M_writesRow.2.1 123 = .ok (.iaload, 1) := by decide +kernel
theorem d_M_writesRow_124 : decode m_M_writesRow.2.1 124 = .ok (.sipush 200, 3) := by decide +kernel
theorem d_M_writesRow_127 : decode m_M_writesRow.2.1 127 = .ok (.if_icmp .ge 9, 3) := by decide +kernel
theorem d_M_writesRow_130 : decode m_M_writesRow.2.1 130 = .ok (.aload_n 0, 1) := by decide +kernel
theorem d_M_writesRow_131 : decode m_M_writesRow.2.1 131 = .ok (.bipush 60, 2) := by decide +kernel
theorem d_M_writesRow_133 : decode m_M_writesRow.2.1 133 = .ok (.invokevirtual 334, 3) := by decide +kernel
theorem d_M_writesRow_136 : decode m_M_writesRow.2.1 136 = .ok (.iload 4, 2) := by decide +kernel
theorem d_M_writesRow_138 : decode m_M_writesRow.2.1 138 = .ok (.ifCond .eq 9, 3) := by decide +kernel
theorem d_M_writesRow_141 : decode m_M_writesRow.2.1 141 = .ok (.aload_n 0, 1) := by decide +kernel
theorem d_M_writesRow_142 : decode m_M_writesRow.2.1 142 = .ok (.bipush 40, 2) := by decide +kernel
theorem d_M_writesRow_144 : decode m_M_writesRow.2.1 144 = .ok (.invokevirtual 334, 3) := by decide +kernel
theorem d_M_writesRow_147 : decode m_M_writesRow.2.1 147 = .ok (.iinc 1 1, 3) := by decide +kernel
theorem d_M_writesRow_150 : decode m_M_writesRow.2.1 150 = .ok (.aload_n 0, 1) := by decide +kernel
theorem d_M_writesRow_151 : decode m_M_writesRow.2.1 151 = .ok (.getfield 81, 3) := by decide +kernel
theorem d_M_writesRow_154 : decode m_M_writesRow.2.1 154 = .ok (.iload_n 1, 1) := by decide +kernel
theorem d_M_writesRow_155 : decode m_M_writesRow.2.1 155 = .ok (.aload_n 0, 1) := by decide +kernel
theorem d_M_writesRow_156 : decode m_M_writesRow.2.1 156 = .ok (.getfield 35, 3) := by decide +kernel
theorem d_M_writesRow_159 : decode m_M_writesRow.2.1 159 = .ok (.iload_n 2, 1) := by decide +kernel
theorem d_M_writesRow_160 : decode m_M_writesRow.2.1 160 = .ok (.iaload, 1) := by decide +kernel
theorem d_M_writesRow_161 : decode m_M_writesRow.2.1 161 = .ok (.sipush 200, 3) := by decide +kernel
theorem d_M_writesRow_164 : decode m_M_writesRow.2.1 164 = .ok (.if_icmp .ge 7, 3) := by decide +kernel
theorem d_M_writesRow_167 : decode m_M_writesRow.2.1 167 = .ok (.iconst 0, 1) := by decide +kernel
theorem d_M_writesRow_168 : decode m_M_writesRow.2.1 168 = .ok (.goto 14, 3) := by decide +kernel
theorem d_M_writesRow_171 : decode m_M_writesRow.2.1 171 = .ok (.iload_n 3, 1) := by decide +kernel
theorem d_M_writesRow_172 : decode m_M_writesRow.2.1 172 = .ok (.ifCond .eq 8, 3) := by decide +kernel
theorem d_M_writesRow_175 : decode m_M_writesRow.2.1 175 = .ok (.bipush 58, 2) := by decide +kernel
theorem d_M_writesRow_177 : decode m_M_writesRow.2.1 177 = .ok (.goto 5, 3) := by decide +kernel
theorem d_M_writesRow_180 : decode m_M_writesRow.2.1 180 = .ok (.bipush 42, 2) := by decide +kernel
theorem d_M_writesRow_182 : decode m_M_writesRow.2.1 182 = .ok (.iastore, 1) := by decide +kernel
theorem d_M_writesRow_183 : decode m_M_writesRow.2.1 183 = .ok (.aload_n 0, 1) := by decide +kernel
theorem d_M_writesRow_184 : decode m_M_writesRow.2.1 184 = .ok (.getfield 84, 3) := by decide +kernel
theorem d_M_writesRow_187 : decode m_M_writesRow.2.1 187 = .ok (.iload_n 1, 1) := by decide +kernel
theorem d_M_writesRow_188 : decode m_M_writesRow.2.1 188 = .ok (.aload_n 0, 1) := by decide +kernel
theorem d_M_writesRow_189 : decode m_M_writesRow.2.1 189 = .ok (.getfield 35, 3) := by decide +kernel
theorem d_M_writesRow_192 : decode m_M_writesRow.2.1 192 = .ok (.iload_n 2, 1) := by decide +kernel
theorem d_M_writesRow_193 : decode m_M_writesRow.2.1 193 = .ok (.iaload, 1) := by decide +kernel
theorem d_M_writesRow_194 : decode m_M_writesRow.2.1 194 = .ok (.invokestatic 182, 3) := by decide +kernel
theorem d_M_writesRow_197 : decode m_M_writesRow.2.1 197 = .ok (.iastore, 1) := by decide +kernel
theorem d_M_writesRow_198 : decode m_M_writesRow.2.1 198 = .ok (.aload_n 0, 1) := by decide +kernel
theorem d_M_writesRow_199 : decode m_M_writesRow.2.1 199 = .ok (.getfield 87, 3) := by decide +kernel
theorem d_M_writesRow_202 : decode m_M_writesRow.2.1 202 = .ok (.iload_n 1, 1) := by decide +kernel
theorem d_M_writesRow_203 : decode m_M_writesRow.2.1 203 = .ok (.aload_n 0, 1) := by decide +kernel
theorem d_M_writesRow_204 : decode m_M_writesRow.2.1 204 = .ok (.getfield 35, 3) := by decide +kernel
theorem d_M_writesRow_207 : decode m_M_writesRow.2.1 207 = .ok (.iload_n 2, 1) := by decide +kernel
theorem d_M_writesRow_208 : decode m_M_writesRow.2.1 208 = .ok (.iaload, 1) := by decide +kernel
theorem d_M_writesRow_209 : decode m_M_writesRow.2.1 209 = .ok (.sipush 200, 3) := by decide +kernel
theorem d_M_writesRow_212 : decode m_M_writesRow.2.1 212 = .ok (.if_icmp .ge 8, 3) := by decide +kernel
theorem d_M_writesRow_215 : decode m_M_writesRow.2.1 215 = .ok (.bipush 62, 2) := by decide +kernel
theorem d_M_writesRow_217 : decode m_M_writesRow.2.1 217 = .ok (.goto 14, 3) := by decide +kernel
theorem d_M_writesRow_220 : decode m_M_writesRow.2.1 220 = .ok (.iload 4, 2) := by decide +kernel
theorem d_M_writesRow_222 : decode m_M_writesRow.2.1 222 = .ok (.ifCond .eq 8, 3) := by decide +kernel
theorem d_M_writesRow_225 : decode m_M_writesRow.2.1 225 = .ok (.bipush 41, 2) := by decide +kernel
theorem d_M_writesRow_227 : decode m_M_writesRow.2.1 227 = .ok (.goto 4, 3) := by decide +kernel
theorem d_M_writesRow_230 : decode m_M_writesRow.2.1 230 = .ok (.iconst 0, 1) := by decide +kernel
theorem d_M_writesRow_231 : decode m_M_writesRow.2.1 231 = .ok (.iastore, 1) := by decide +kernel
theorem d_M_writesRow_232 : decode m_M_writesRow.2.1 232 = .ok (.aload_n 0, 1) := by decide +kernel
theorem d_M_writesRow_233 : decode m_M_writesRow.2.1 233 = .ok (.getfield 90, 3) := by decide +kernel
theorem d_M_writesRow_236 : decode m_M_writesRow.2.1 236 = .ok (.iload_n 1, 1) := by decide +kernel
theorem d_M_writesRow_237 : decode m_M_writesRow.2.1 237 = .ok (.iconst 0, 1) := by decide +kernel
theorem d_M_writesRow_238 : decode m_M_writesRow.2.1 238 = .ok (.bastore, 1) := by decide +kernel
theorem d_M_writesRow_239 : decode m_M_writesRow.2.1 239 = .ok (.goto 77, 3) := by decide +kernel
theorem d_M_writesRow_242 : decode m_M_writesRow.2.1 242 = .ok (.iconst 1, 1) := by decide +kernel
theorem d_M_writesRow_243 : decode m_M_writesRow.2.1 243 = .ok (.istore_n 3, 1) := by decide +kernel
theorem d_M_writesRow_244 : decode m_M_writesRow.2.1 244 = .ok (.iload_n 3, 1) := by decide +kernel
theorem d_M_writesRow_245 : decode m_M_writesRow.2.1 245 = .ok (.ifCond .eq 71, 3) := by decide +kernel
theorem d_M_writesRow_248 : decode m_M_writesRow.2.1 248 = .ok (.iload_n 1, 1) := by decide +kernel
theorem d_M_writesRow_249 : decode m_M_writesRow.2.1 249 = .ok (.ifCond .lt 67, 3) := by decide +kernel
theorem d_M_writesRow_252 : decode m_M_writesRow.2.1 252 = .ok (.aload_n 0, 1) := by decide +kernel
theorem d_M_writesRow_253 : decode m_M_writesRow.2.1 253 = .ok (.getfield 84, 3) := by decide +kernel
theorem d_M_writesRow_256 : decode m_M_writesRow.2.1 256 = .ok (.iload_n 1, 1) := by decide +kernel
theorem d_M_writesRow_257 : decode m_M_writesRow.2.1 257 = .ok (.dup2, 1) := by decide +kernel
theorem d_M_writesRow_258 : decode m_M_writesRow.2.1 258 = .ok (.iaload, 1) := by decide +kernel
theorem d_M_writesRow_259 : decode m_M_writesRow.2.1 259 = .ok (.iconst 1, 1) := by decide +kernel
theorem d_M_writesRow_260 : decode m_M_writesRow.2.1 260 = .ok (.isub, 1) := by decide +kernel
theorem d_M_writesRow_261 : decode m_M_writesRow.2.1 261 = .ok (.iastore, 1) := by decide +kernel
theorem d_M_writesRow_262 : decode m_M_writesRow.2.1 262 = .ok (.aload_n 0, 1) := by decide +kernel
theorem d_M_writesRow_263 : decode m_M_writesRow.2.1 263 = .ok (.getfield 90, 3) := by decide +kernel
theorem d_M_writesRow_266 : decode m_M_writesRow.2.1 266 = .ok (.iload_n 1, 1) := by decide +kernel
theorem d_M_writesRow_267 : decode m_M_writesRow.2.1 267 = .ok (.iconst 1, 1) := by decide +kernel
theorem d_M_writesRow_268 : decode m_M_writesRow.2.1 268 = .ok (.bastore, 1) := by decide +kernel
theorem d_M_writesRow_269 : decode m_M_writesRow.2.1 269 = .ok (.aload_n 0, 1) := by decide +kernel
theorem d_M_writesRow_270 : decode m_M_writesRow.2.1 270 = .ok (.getfield 84, 3) := by decide +kernel
theorem d_M_writesRow_273 : decode m_M_writesRow.2.1 273 = .ok (.iload_n 1, 1) := by decide +kernel
theorem d_M_writesRow_274 : decode m_M_writesRow.2.1 274 = .ok (.iaload, 1) := by decide +kernel
theorem d_M_writesRow_275 : decode m_M_writesRow.2.1 275 = .ok (.ifCond .ne 7, 3) := by decide +kernel
theorem d_M_writesRow_278 : decode m_M_writesRow.2.1 278 = .ok (.iconst 1, 1) := by decide +kernel
theorem d_M_writesRow_279 : decode m_M_writesRow.2.1 279 = .ok (.goto 4, 3) := by decide +kernel
theorem d_M_writesRow_282 : decode m_M_writesRow.2.1 282 = .ok (.iconst 0, 1) := by decide +kernel
theorem d_M_writesRow_283 : decode m_M_writesRow.2.1 283 = .ok (.istore_n 3, 1) := by decide +kernel
theorem d_M_writesRow_284 : decode m_M_writesRow.2.1 284 = .ok (.iload_n 3, 1) := by decide +kernel
theorem d_M_writesRow_285 : decode m_M_writesRow.2.1 285 = .ok (.ifCond .ne 6, 3) := by decide +kernel
theorem d_M_writesRow_288 : decode m_M_writesRow.2.1 288 = .ok (.goto (-44), 3) := by decide +kernel
theorem d_M_writesRow_291 : decode m_M_writesRow.2.1 291 = .ok (.aload_n 0, 1) := by decide +kernel
theorem d_M_writesRow_292 : decode m_M_writesRow.2.1 292 = .ok (.getfield 87, 3) := by decide +kernel
theorem d_M_writesRow_295 : decode m_M_writesRow.2.1 295 = .ok (.iload_n 1, 1) := by decide +kernel
theorem d_M_writesRow_296 : decode m_M_writesRow.2.1 296 = .ok (.iaload, 1) := by decide +kernel
theorem d_M_writesRow_297 : decode m_M_writesRow.2.1 297 = .ok (.ifCond .eq 13, 3) := by decide +kernel
theorem d_M_writesRow_300 : decode m_M_writesRow.2.1 300 = .ok (.aload_n 0, 1) := by decide +kernel
theorem d_M_writesRow_301 : decode m_M_writesRow.2.1 301 = .ok (.aload_n 0, 1) := by decide +kernel
theorem d_M_writesRow_302 : decode m_M_writesRow.2.1 302 = .ok (.getfield 87, 3) := by decide +kernel
theorem d_M_writesRow_305 : decode m_M_writesRow.2.1 305 = .ok (.iload_n 1, 1) := by decide +kernel
theorem d_M_writesRow_306 : decode m_M_writesRow.2.1 306 = .ok (.iaload, 1) := by decide +kernel
theorem d_M_writesRow_307 : decode m_M_writesRow.2.1 307 = .ok (.invokevirtual 334, 3) := by decide +kernel
theorem d_M_writesRow_310 : decode m_M_writesRow.2.1 310 = .ok (.iinc 1 (-1), 3) := by decide +kernel
theorem d_M_writesRow_313 : decode m_M_writesRow.2.1 313 = .ok (.goto (-69), 3) := by decide +kernel
theorem d_M_writesRow_316 : decode m_M_writesRow.2.1 316 = .ok (.iinc 2 1, 3) := by decide +kernel
theorem d_M_writesRow_319 : decode m_M_writesRow.2.1 319 = .ok (.goto (-315), 3) := by decide +kernel
theorem d_M_writesRow_322 : decode m_M_writesRow.2.1 322 = .ok (.return_, 1) := by decide +kernel
theorem b_M_writesRow_0 {E : EV} {d : Nat} {Q : Option AV → St → Prop} {σ : St} (h : WP E m_M_writesRow (d + 1) 4 [(0, aP 42), (1, aI (-1)), (2, aI 0)] [] σ Q) : WP E m_M_writesRow (d + 1) 0 [(0, aP 42)] [] σ Q := by
  refine s_iconst d_M_writesRow_0 ?_
  refine s_istore_n d_M_writesRow_1 rfl (by decide) rfl ?_
  refine s_iconst d_M_writesRow_2 ?_
  refine s_istore_n d_M_writesRow_3 rfl (by decide) rfl ?_
  refine wp_drop [2, 1, 0] rfl ?_
  exact h
theorem e_M_writesRow {E : EV} {d : Nat} {Q : Option AV → St → Prop} {σ : St} (h : WP E m_M_writesRow (d + 1) 4 [(0, aP 42), (1, aI (-1)), (2, aI 0)] [] σ Q) : WM E m_M_writesRow (d + 1) [aP 42] σ Q := s_meth (by decide) (Nat.le_of_ble_eq_true rfl) rfl (b_M_writesRow_0 h)
theorem b_M_writesRow_4 {E : EV} {d : Nat} {Q : Option AV → St → Prop} {σ : St} (x1 x2 : Int) (hF : Fix σ) (h : (rI x2) ∧ (rI (σ.1 42 10)) ∧ (((σ.1 42 10) ≤ x2 → Q none σ) ∧ (¬ (σ.1 42 10) ≤ x2 → (rI x1) ∧ ((x1 < 0 → WP E m_M_writesRow (d + 1) 35 [(0, aP 42), (1, aI x1), (2, aI x2)] [] σ Q) ∧ (¬ x1 < 0 → (0 ≤ x1 ∧ x1 < 24) ∧ (rI (σ.1 68 x1)) ∧ (((σ.1 68 x1) = 0 → WP E m_M_writesRow (d + 1) 35 [(0, aP 42), (1, aI x1), (2, aI x2)] [] σ Q) ∧ (¬ (σ.1 68 x1) = 0 → (0 ≤ x1 ∧ x1 < 24) ∧ (WMv E m_M_writes d [aP 42, aI (σ.1 65 x1)] σ (fun σ7 => WP E m_M_writesRow (d + 1) 35 [(0, aP 42), (1, aI x1), (2, aI x2)] [] σ7 Q))))))))) : WP E m_M_writesRow (d + 1) 4 [(0, aP 42), (1, aI x1), (2, aI x2)] [] σ Q := by
  refine s_iload_n 2 d_M_writesRow_4 rfl rfl ?_
  refine s_aload_n 0 d_M_writesRow_5 rfl rfl ?_
  refine s_getF (v := σ.1 42 10) d_M_writesRow_6 fl_M_189 rfl (sf_42 hF) rfl ?_
  obtain ⟨g1, h⟩ := h
  obtain ⟨g2, h⟩ := h
  refine s_icmp_ge d_M_writesRow_9 rfl g1 g2 (fun c => ?_) (fun c => ?_)
  · have h := h.1 c
    exact s_return d_M_writesRow_322 rfl h
  · have h := h.2 c
    refine s_iload_n 1 d_M_writesRow_12 rfl rfl ?_
    obtain ⟨g3, h⟩ := h
    refine s_if_lt d_M_writesRow_13 rfl g3 (fun c => ?_) (fun c => ?_)
    · have h := h.1 c
      exact h
    · have h := h.2 c
      refine s_aload_n 0 d_M_writesRow_16 rfl rfl ?_
      refine s_getF (v := 68) d_M_writesRow_17 fl_M_90 rfl (sf_42 hF) (ff_53 hF) ?_
      refine s_iload_n 1 d_M_writesRow_20 rfl rfl ?_
      obtain ⟨g4, h⟩ := h
      refine s_baloadv (v := σ.1 68 x1) (by decide) d_M_writesRow_21 ⟨_, sf_68 hF, g4.1, g4.2, by have := g4.2; omega⟩ rfl ?_
      obtain ⟨g5, h⟩ := h
      refine s_if_eq d_M_writesRow_22 rfl g5 (fun c => ?_) (fun c => ?_)
      · have h := h.1 c
        exact h
      · have h := h.2 c
        refine s_aload_n 0 d_M_writesRow_25 rfl rfl ?_
        refine s_aload_n 0 d_M_writesRow_26 rfl rfl ?_
        refine s_getF (v := 65) d_M_writesRow_27 fl_M_81 rfl (sf_42 hF) (ff_50 hF) ?_
        refine s_iload_n 1 d_M_writesRow_30 rfl rfl ?_
        obtain ⟨g6, h⟩ := h
        refine s_ialoadv (v := σ.1 65 x1) d_M_writesRow_31 ⟨_, sf_65 hF, g6.1, g6.2, by have := g6.2; omega⟩ rfl ?_
        refine s_callV (as := [aI (σ.1 65 x1)]) (ci := 10) d_M_writesRow_32 ok_M_writes lk_M_334 io_M_writes so_M_writes (by decide) rfl rfl rfl (Nat.le_of_ble_eq_true rfl) rfl (sf_42 hF) (WM.mono h ?_)
        rintro _ σ7 ⟨rfl, hp, h⟩
        show WP E m_M_writesRow (d + 1) 35 [(0, aP 42), (1, aI x1), (2, aI x2)] [] σ7 Q
        exact h
theorem b_M_writesRow_35 {E : EV} {d : Nat} {Q : Option AV → St → Prop} {σ : St} (x1 x2 : Int) (hF : Fix σ) (h : (0 ≤ x2 ∧ x2 < 24) ∧ (WMi E m_M_isSign d [aI (σ.1 50 x2)] σ (fun v2 σ2 => Fix σ2 ∧ (rI v2) ∧ ((v2 = 0 → WP E m_M_writesRow (d + 1) 63 [(0, aP 42), (1, aI x1), (2, aI x2)] [] σ2 Q) ∧ (¬ v2 = 0 → (0 ≤ x2 ∧ x2 < 24) ∧ (WMi E m_M_letterOf d [aI (σ2.1 50 x2)] σ2 (fun v5 σ5 => Fix σ5 ∧ (WMv E m_M_writes d [aP 42, aI (97 + v5)] σ5 (fun σ6 => WP E m_M_writesRow (d + 1) 63 [(0, aP 42), (1, aI x1), (2, aI x2)] [] σ6 Q))))))))) : WP E m_M_writesRow (d + 1) 35 [(0, aP 42), (1, aI x1), (2, aI x2)] [] σ Q := by
  refine s_aload_n 0 d_M_writesRow_35 rfl rfl ?_
  refine s_getF (v := 50) d_M_writesRow_36 fl_M_35 rfl (sf_42 hF) (ff_35 hF) ?_
  refine s_iload_n 2 d_M_writesRow_39 rfl rfl ?_
  obtain ⟨g1, h⟩ := h
  refine s_ialoadv (v := σ.1 50 x2) d_M_writesRow_40 ⟨_, sf_50 hF, g1.1, g1.2, by have := g1.2; omega⟩ rfl ?_
  refine s_callS (as := [aI (σ.1 50 x2)]) d_M_writesRow_41 ok_M_isSign lk_M_199 to_M_isSign rfl (Nat.le_of_ble_eq_true rfl) rfl (WM.mono h ?_)
  rintro _ σ2 ⟨v2, rfl, hp, h⟩
  obtain ⟨hF2, h⟩ := h
  show WP E m_M_writesRow (d + 1) 44 [(0, aP 42), (1, aI x1), (2, aI x2)] [aI v2] σ2 Q
  obtain ⟨g3, h⟩ := h
  refine s_if_eq d_M_writesRow_44 rfl g3 (fun c => ?_) (fun c => ?_)
  · have h := h.1 c
    exact h
  · have h := h.2 c
    refine s_aload_n 0 d_M_writesRow_47 rfl rfl ?_
    refine s_bipush d_M_writesRow_48 (by decide) ?_
    refine s_aload_n 0 d_M_writesRow_50 rfl rfl ?_
    refine s_getF (v := 50) d_M_writesRow_51 fl_M_35 rfl (sf_42 hF2) (ff_35 hF2) ?_
    refine s_iload_n 2 d_M_writesRow_54 rfl rfl ?_
    obtain ⟨g4, h⟩ := h
    refine s_ialoadv (v := σ2.1 50 x2) d_M_writesRow_55 ⟨_, sf_50 hF2, g4.1, g4.2, by have := g4.2; omega⟩ rfl ?_
    refine s_callS (as := [aI (σ2.1 50 x2)]) d_M_writesRow_56 ok_M_letterOf lk_M_217 to_M_letterOf rfl (Nat.le_of_ble_eq_true rfl) rfl (WM.mono h ?_)
    rintro _ σ5 ⟨v5, rfl, hp, h⟩
    obtain ⟨hF5, h⟩ := h
    show WP E m_M_writesRow (d + 1) 59 [(0, aP 42), (1, aI x1), (2, aI x2)] [aI v5, aI 97, aP 42] σ5 Q
    refine s_iadd d_M_writesRow_59 ?_
    refine s_callV (as := [aI (97 + v5)]) (ci := 10) d_M_writesRow_60 ok_M_writes lk_M_334 io_M_writes so_M_writes (by decide) rfl rfl rfl (Nat.le_of_ble_eq_true rfl) rfl (sf_42 hF5) (WM.mono h ?_)
    rintro _ σ6 ⟨rfl, hp, h⟩
    show WP E m_M_writesRow (d + 1) 63 [(0, aP 42), (1, aI x1), (2, aI x2)] [] σ6 Q
    exact h
theorem b_M_writesRow_63 {E : EV} {d : Nat} {Q : Option AV → St → Prop} {σ : St} (x1 x2 : Int) (hF : Fix σ) (h : (0 ≤ x2 ∧ x2 < 24) ∧ (rI (σ.1 50 x2)) ∧ (((σ.1 50 x2) < 100 → WP E m_M_writesRow (d + 1) 244 [(0, aP 42), (1, aI x1), (2, aI x2), (3, aI 1)] [] σ Q) ∧ (¬ (σ.1 50 x2) < 100 → (0 ≤ x2 ∧ x2 < 24) ∧ (rI (σ.1 50 x2)) ∧ (((σ.1 50 x2) < 300 → WP E m_M_writesRow (d + 1) 91 [(0, aP 42), (1, aI x1), (2, aI x2)] [aI 0] σ Q) ∧ (¬ (σ.1 50 x2) < 300 → WP E m_M_writesRow (d + 1) 91 [(0, aP 42), (1, aI x1), (2, aI x2)] [aI 1] σ Q))))) : WP E m_M_writesRow (d + 1) 63 [(0, aP 42), (1, aI x1), (2, aI x2)] [] σ Q := by
  refine s_aload_n 0 d_M_writesRow_63 rfl rfl ?_
  refine s_getF (v := 50) d_M_writesRow_64 fl_M_35 rfl (sf_42 hF) (ff_35 hF) ?_
  refine s_iload_n 2 d_M_writesRow_67 rfl rfl ?_
  obtain ⟨g1, h⟩ := h
  refine s_ialoadv (v := σ.1 50 x2) d_M_writesRow_68 ⟨_, sf_50 hF, g1.1, g1.2, by have := g1.2; omega⟩ rfl ?_
  refine s_bipush d_M_writesRow_69 (by decide) ?_
  obtain ⟨g2, h⟩ := h
  refine s_icmp_lt d_M_writesRow_71 rfl g2 (by decide) (fun c => ?_) (fun c => ?_)
  · have h := h.1 c
    refine s_iconst d_M_writesRow_242 ?_
    refine s_istore_n d_M_writesRow_243 rfl (by decide) rfl ?_
    refine wp_drop [1, 2, 3, 0] rfl ?_
    exact h
  · have h := h.2 c
    refine s_aload_n 0 d_M_writesRow_74 rfl rfl ?_
    refine s_getF (v := 50) d_M_writesRow_75 fl_M_35 rfl (sf_42 hF) (ff_35 hF) ?_
    refine s_iload_n 2 d_M_writesRow_78 rfl rfl ?_
    obtain ⟨g3, h⟩ := h
    refine s_ialoadv (v := σ.1 50 x2) d_M_writesRow_79 ⟨_, sf_50 hF, g3.1, g3.2, by have := g3.2; omega⟩ rfl ?_
    refine s_sipush d_M_writesRow_80 (by decide) ?_
    obtain ⟨g4, h⟩ := h
    refine s_icmp_lt d_M_writesRow_83 rfl g4 (by decide) (fun c => ?_) (fun c => ?_)
    · have h := h.1 c
      refine s_iconst d_M_writesRow_90 ?_
      exact h
    · have h := h.2 c
      refine s_iconst d_M_writesRow_86 ?_
      refine s_goto d_M_writesRow_87 rfl ?_
      exact h
theorem b_M_writesRow_91 {E : EV} {d : Nat} {Q : Option AV → St → Prop} {σ : St} (x1 x2 s0 : Int) (hF : Fix σ) (h : (rI s0) ∧ ((s0 = 0 → WP E m_M_writesRow (d + 1) 115 [(0, aP 42), (1, aI x1), (2, aI x2), (3, aI s0)] [] σ Q) ∧ (¬ s0 = 0 → (rI x1) ∧ ((x1 < 0 → WP E m_M_writesRow (d + 1) 115 [(0, aP 42), (1, aI x1), (2, aI x2), (3, aI s0)] [] σ Q) ∧ (¬ x1 < 0 → (0 ≤ x1 ∧ x1 < 24) ∧ (rI (σ.1 65 x1)) ∧ ((¬ (σ.1 65 x1) = 42 → WP E m_M_writesRow (d + 1) 115 [(0, aP 42), (1, aI x1), (2, aI x2), (3, aI s0)] [] σ Q) ∧ ((σ.1 65 x1) = 42 → WP E m_M_writesRow (d + 1) 116 [(0, aP 42), (1, aI x1), (2, aI x2), (3, aI s0)] [aI 1] σ Q))))))) : WP E m_M_writesRow (d + 1) 91 [(0, aP 42), (1, aI x1), (2, aI x2)] [aI s0] σ Q := by
  refine s_istore_n d_M_writesRow_91 rfl (by decide) rfl ?_
  refine s_iload_n 0 d_M_writesRow_92 rfl rfl ?_
  obtain ⟨g1, h⟩ := h
  refine s_if_eq d_M_writesRow_93 rfl g1 (fun c => ?_) (fun c => ?_)
  · have h := h.1 c
    refine wp_drop [1, 2, 3, 0] rfl ?_
    exact h
  · have h := h.2 c
    refine s_iload_n 2 d_M_writesRow_96 rfl rfl ?_
    obtain ⟨g2, h⟩ := h
    refine s_if_lt d_M_writesRow_97 rfl g2 (fun c => ?_) (fun c => ?_)
    · have h := h.1 c
      refine wp_drop [1, 2, 3, 0] rfl ?_
      exact h
    · have h := h.2 c
      refine s_aload_n 1 d_M_writesRow_100 rfl rfl ?_
      refine s_getF (v := 65) d_M_writesRow_101 fl_M_81 rfl (sf_42 hF) (ff_50 hF) ?_
      refine s_iload_n 2 d_M_writesRow_104 rfl rfl ?_
      obtain ⟨g3, h⟩ := h
      refine s_ialoadv (v := σ.1 65 x1) d_M_writesRow_105 ⟨_, sf_65 hF, g3.1, g3.2, by have := g3.2; omega⟩ rfl ?_
      refine s_bipush d_M_writesRow_106 (by decide) ?_
      obtain ⟨g4, h⟩ := h
      refine s_icmp_ne d_M_writesRow_108 rfl g4 (by decide) (fun c => ?_) (fun c => ?_)
      · have h := h.1 c
        refine wp_drop [1, 2, 3, 0] rfl ?_
        exact h
      · have h := h.2 c
        refine s_iconst d_M_writesRow_111 ?_
        refine s_goto d_M_writesRow_112 rfl ?_
        refine wp_drop [1, 2, 3, 0] rfl ?_
        exact h
theorem b_M_writesRow_115 {E : EV} {d : Nat} {Q : Option AV → St → Prop} {σ : St} (x1 x2 x3 : Int) (h : WP E m_M_writesRow (d + 1) 116 [(0, aP 42), (1, aI x1), (2, aI x2), (3, aI x3)] [aI 0] σ Q) : WP E m_M_writesRow (d + 1) 115 [(0, aP 42), (1, aI x1), (2, aI x2), (3, aI x3)] [] σ Q := by
  refine s_iconst d_M_writesRow_115 ?_
  exact h
theorem b_M_writesRow_116 {E : EV} {d : Nat} {Q : Option AV → St → Prop} {σ : St} (x1 x2 x3 s0 : Int) (hF : Fix σ) (h : (0 ≤ x2 ∧ x2 < 24) ∧ (rI (σ.1 50 x2)) ∧ ((200 ≤ (σ.1 50 x2) → WP E m_M_writesRow (d + 1) 136 [(0, aP 42), (1, aI x1), (2, aI x2), (3, aI x3), (4, aI s0)] [] σ Q) ∧ (¬ 200 ≤ (σ.1 50 x2) → (WMv E m_M_writes d [aP 42, aI 60] σ (fun σ3 => WP E m_M_writesRow (d + 1) 136 [(0, aP 42), (1, aI x1), (2, aI x2), (3, aI x3), (4, aI s0)] [] σ3 Q))))) : WP E m_M_writesRow (d + 1) 116 [(0, aP 42), (1, aI x1), (2, aI x2), (3, aI x3)] [aI s0] σ Q := by
  refine s_istore d_M_writesRow_116 (by decide) rfl ?_
  refine s_aload_n 1 d_M_writesRow_118 rfl rfl ?_
  refine s_getF (v := 50) d_M_writesRow_119 fl_M_35 rfl (sf_42 hF) (ff_35 hF) ?_
  refine s_iload_n 3 d_M_writesRow_122 rfl rfl ?_
  obtain ⟨g1, h⟩ := h
  refine s_ialoadv (v := σ.1 50 x2) d_M_writesRow_123 ⟨_, sf_50 hF, g1.1, g1.2, by have := g1.2; omega⟩ rfl ?_
  refine s_sipush d_M_writesRow_124 (by decide) ?_
  obtain ⟨g2, h⟩ := h
  refine s_icmp_ge d_M_writesRow_127 rfl g2 (by decide) (fun c => ?_) (fun c => ?_)
  · have h := h.1 c
    refine wp_drop [1, 2, 3, 4, 0] rfl ?_
    exact h
  · have h := h.2 c
    refine s_aload_n 1 d_M_writesRow_130 rfl rfl ?_
    refine s_bipush d_M_writesRow_131 (by decide) ?_
    refine s_callV (as := [aI 60]) (ci := 10) d_M_writesRow_133 ok_M_writes lk_M_334 io_M_writes so_M_writes (by decide) rfl rfl rfl (Nat.le_of_ble_eq_true rfl) rfl (sf_42 hF) (WM.mono h ?_)
    rintro _ σ3 ⟨rfl, hp, h⟩
    show WP E m_M_writesRow (d + 1) 136 [(4, aI s0), (0, aP 42), (1, aI x1), (2, aI x2), (3, aI x3)] [] σ3 Q
    refine wp_drop [1, 2, 3, 4, 0] rfl ?_
    exact h
theorem b_M_writesRow_136 {E : EV} {d : Nat} {Q : Option AV → St → Prop} {σ : St} (x1 x2 x3 x4 : Int) (hF : Fix σ) (h : (rI x4) ∧ ((x4 = 0 → WP E m_M_writesRow (d + 1) 147 [(0, aP 42), (1, aI x1), (2, aI x2), (3, aI x3), (4, aI x4)] [] σ Q) ∧ (¬ x4 = 0 → (WMv E m_M_writes d [aP 42, aI 40] σ (fun σ2 => WP E m_M_writesRow (d + 1) 147 [(0, aP 42), (1, aI x1), (2, aI x2), (3, aI x3), (4, aI x4)] [] σ2 Q))))) : WP E m_M_writesRow (d + 1) 136 [(0, aP 42), (1, aI x1), (2, aI x2), (3, aI x3), (4, aI x4)] [] σ Q := by
  refine s_iload 4 d_M_writesRow_136 rfl ?_
  obtain ⟨g1, h⟩ := h
  refine s_if_eq d_M_writesRow_138 rfl g1 (fun c => ?_) (fun c => ?_)
  · have h := h.1 c
    exact h
  · have h := h.2 c
    refine s_aload_n 0 d_M_writesRow_141 rfl rfl ?_
    refine s_bipush d_M_writesRow_142 (by decide) ?_
    refine s_callV (as := [aI 40]) (ci := 10) d_M_writesRow_144 ok_M_writes lk_M_334 io_M_writes so_M_writes (by decide) rfl rfl rfl (Nat.le_of_ble_eq_true rfl) rfl (sf_42 hF) (WM.mono h ?_)
    rintro _ σ2 ⟨rfl, hp, h⟩
    show WP E m_M_writesRow (d + 1) 147 [(0, aP 42), (1, aI x1), (2, aI x2), (3, aI x3), (4, aI x4)] [] σ2 Q
    exact h
theorem b_M_writesRow_147 {E : EV} {d : Nat} {Q : Option AV → St → Prop} {σ : St} (x1 x2 x3 x4 : Int) (hF : Fix σ) (h : (0 ≤ x2 ∧ x2 < 24) ∧ (rI (σ.1 50 x2)) ∧ ((200 ≤ (σ.1 50 x2) → (rI x3) ∧ ((x3 = 0 → WP E m_M_writesRow (d + 1) 182 [(0, aP 42), (1, aI (x1 + 1)), (2, aI x2), (4, aI x4)] [aI 42, aI (x1 + 1), aP 65] σ Q) ∧ (¬ x3 = 0 → WP E m_M_writesRow (d + 1) 182 [(0, aP 42), (1, aI (x1 + 1)), (2, aI x2), (4, aI x4)] [aI 58, aI (x1 + 1), aP 65] σ Q))) ∧ (¬ 200 ≤ (σ.1 50 x2) → WP E m_M_writesRow (d + 1) 182 [(0, aP 42), (1, aI (x1 + 1)), (2, aI x2), (4, aI x4)] [aI 0, aI (x1 + 1), aP 65] σ Q))) : WP E m_M_writesRow (d + 1) 147 [(0, aP 42), (1, aI x1), (2, aI x2), (3, aI x3), (4, aI x4)] [] σ Q := by
  refine s_iinc 1 d_M_writesRow_147 rfl (by decide) rfl ?_
  refine s_aload_n 1 d_M_writesRow_150 rfl rfl ?_
  refine s_getF (v := 65) d_M_writesRow_151 fl_M_81 rfl (sf_42 hF) (ff_50 hF) ?_
  refine s_iload_n 0 d_M_writesRow_154 rfl rfl ?_
  refine s_aload_n 1 d_M_writesRow_155 rfl rfl ?_
  refine s_getF (v := 50) d_M_writesRow_156 fl_M_35 rfl (sf_42 hF) (ff_35 hF) ?_
  refine s_iload_n 2 d_M_writesRow_159 rfl rfl ?_
  obtain ⟨g1, h⟩ := h
  refine s_ialoadv (v := σ.1 50 x2) d_M_writesRow_160 ⟨_, sf_50 hF, g1.1, g1.2, by have := g1.2; omega⟩ rfl ?_
  refine s_sipush d_M_writesRow_161 (by decide) ?_
  obtain ⟨g2, h⟩ := h
  refine s_icmp_ge d_M_writesRow_164 rfl g2 (by decide) (fun c => ?_) (fun c => ?_)
  · have h := h.1 c
    refine s_iload_n 3 d_M_writesRow_171 rfl rfl ?_
    obtain ⟨g3, h⟩ := h
    refine s_if_eq d_M_writesRow_172 rfl g3 (fun c => ?_) (fun c => ?_)
    · have h := h.1 c
      refine s_bipush d_M_writesRow_180 (by decide) ?_
      refine wp_drop [1, 0, 2, 4] rfl ?_
      exact h
    · have h := h.2 c
      refine s_bipush d_M_writesRow_175 (by decide) ?_
      refine s_goto d_M_writesRow_177 rfl ?_
      refine wp_drop [1, 0, 2, 4] rfl ?_
      exact h
  · have h := h.2 c
    refine s_iconst d_M_writesRow_167 ?_
    refine s_goto d_M_writesRow_168 rfl ?_
    refine wp_drop [1, 0, 2, 4] rfl ?_
    exact h
theorem b_M_writesRow_182 {E : EV} {d : Nat} {Q : Option AV → St → Prop} {σ : St} (x1 x2 x4 s0 s1 s2 : Int) (h : (inb σ s0 20 s1) ∧ (sh (wr σ s0 s1 s2) 42 = some (10, 74)) ∧ (sh (wr σ s0 s1 s2) 42 = some (10, 74)) ∧ (inb (wr σ s0 s1 s2) ((wr σ s0 s1 s2).1 42 9) 20 x2) ∧ (WMi E m_M_partsOf d [aI ((wr σ s0 s1 s2).1 ((wr σ s0 s1 s2).1 42 9) x2)] (wr σ s0 s1 s2) (fun v5 σ5 => (inb σ5 ((wr σ s0 s1 s2).1 42 31) 20 x1) ∧ (sh (wr σ5 ((wr σ s0 s1 s2).1 42 31) x1 v5) 42 = some (10, 74)) ∧ (sh (wr σ5 ((wr σ s0 s1 s2).1 42 31) x1 v5) 42 = some (10, 74)) ∧ (inb (wr σ5 ((wr σ s0 s1 s2).1 42 31) x1 v5) ((wr σ5 ((wr σ s0 s1 s2).1 42 31) x1 v5).1 42 9) 20 x2) ∧ (rI ((wr σ5 ((wr σ s0 s1 s2).1 42 31) x1 v5).1 ((wr σ5 ((wr σ s0 s1 s2).1 42 31) x1 v5).1 42 9) x2)) ∧ ((200 ≤ ((wr σ5 ((wr σ s0 s1 s2).1 42 31) x1 v5).1 ((wr σ5 ((wr σ s0 s1 s2).1 42 31) x1 v5).1 42 9) x2) → (rI x4) ∧ ((x4 = 0 → WP E m_M_writesRow (d + 1) 231 [(0, aP 42), (1, aI x1), (2, aI x2)] [aI 0, aI x1, aP ((wr σ5 ((wr σ s0 s1 s2).1 42 31) x1 v5).1 42 32)] (wr σ5 ((wr σ s0 s1 s2).1 42 31) x1 v5) Q) ∧ (¬ x4 = 0 → WP E m_M_writesRow (d + 1) 231 [(0, aP 42), (1, aI x1), (2, aI x2)] [aI 41, aI x1, aP ((wr σ5 ((wr σ s0 s1 s2).1 42 31) x1 v5).1 42 32)] (wr σ5 ((wr σ s0 s1 s2).1 42 31) x1 v5) Q))) ∧ (¬ 200 ≤ ((wr σ5 ((wr σ s0 s1 s2).1 42 31) x1 v5).1 ((wr σ5 ((wr σ s0 s1 s2).1 42 31) x1 v5).1 42 9) x2) → WP E m_M_writesRow (d + 1) 231 [(0, aP 42), (1, aI x1), (2, aI x2)] [aI 62, aI x1, aP ((wr σ5 ((wr σ s0 s1 s2).1 42 31) x1 v5).1 42 32)] (wr σ5 ((wr σ s0 s1 s2).1 42 31) x1 v5) Q))))) : WP E m_M_writesRow (d + 1) 182 [(0, aP 42), (1, aI x1), (2, aI x2), (4, aI x4)] [aI s2, aI s1, aP s0] σ Q := by
  obtain ⟨g1, h⟩ := h
  refine s_iastore d_M_writesRow_182 g1 ?_
  refine s_aload_n 0 d_M_writesRow_183 rfl rfl ?_
  obtain ⟨g2, h⟩ := h
  refine s_getF (v := (wr σ s0 s1 s2).1 42 31) d_M_writesRow_184 fl_M_84 rfl g2 rfl ?_
  refine s_iload_n 1 d_M_writesRow_187 rfl rfl ?_
  refine s_aload_n 0 d_M_writesRow_188 rfl rfl ?_
  obtain ⟨g3, h⟩ := h
  refine s_getF (v := (wr σ s0 s1 s2).1 42 9) d_M_writesRow_189 fl_M_35 rfl g3 rfl ?_
  refine s_iload_n 2 d_M_writesRow_192 rfl rfl ?_
  obtain ⟨g4, h⟩ := h
  refine s_ialoadv (v := (wr σ s0 s1 s2).1 ((wr σ s0 s1 s2).1 42 9) x2) d_M_writesRow_193 g4 rfl ?_
  refine s_callS (as := [aI ((wr σ s0 s1 s2).1 ((wr σ s0 s1 s2).1 42 9) x2)]) d_M_writesRow_194 ok_M_partsOf lk_M_182 to_M_partsOf rfl (Nat.le_of_ble_eq_true rfl) rfl (WM.mono h ?_)
  rintro _ σ5 ⟨v5, rfl, hp, h⟩
  show WP E m_M_writesRow (d + 1) 197 [(0, aP 42), (1, aI x1), (2, aI x2), (4, aI x4)] [aI v5, aI x1, aP ((wr σ s0 s1 s2).1 42 31)] σ5 Q
  obtain ⟨g6, h⟩ := h
  refine s_iastore d_M_writesRow_197 g6 ?_
  refine s_aload_n 0 d_M_writesRow_198 rfl rfl ?_
  obtain ⟨g7, h⟩ := h
  refine s_getF (v := (wr σ5 ((wr σ s0 s1 s2).1 42 31) x1 v5).1 42 32) d_M_writesRow_199 fl_M_87 rfl g7 rfl ?_
  refine s_iload_n 1 d_M_writesRow_202 rfl rfl ?_
  refine s_aload_n 0 d_M_writesRow_203 rfl rfl ?_
  obtain ⟨g8, h⟩ := h
  refine s_getF (v := (wr σ5 ((wr σ s0 s1 s2).1 42 31) x1 v5).1 42 9) d_M_writesRow_204 fl_M_35 rfl g8 rfl ?_
  refine s_iload_n 2 d_M_writesRow_207 rfl rfl ?_
  obtain ⟨g9, h⟩ := h
  refine s_ialoadv (v := (wr σ5 ((wr σ s0 s1 s2).1 42 31) x1 v5).1 ((wr σ5 ((wr σ s0 s1 s2).1 42 31) x1 v5).1 42 9) x2) d_M_writesRow_208 g9 rfl ?_
  refine s_sipush d_M_writesRow_209 (by decide) ?_
  obtain ⟨g10, h⟩ := h
  refine s_icmp_ge d_M_writesRow_212 rfl g10 (by decide) (fun c => ?_) (fun c => ?_)
  · have h := h.1 c
    refine s_iload 3 d_M_writesRow_220 rfl ?_
    obtain ⟨g11, h⟩ := h
    refine s_if_eq d_M_writesRow_222 rfl g11 (fun c => ?_) (fun c => ?_)
    · have h := h.1 c
      refine s_iconst d_M_writesRow_230 ?_
      refine wp_drop [0, 1, 2] rfl ?_
      exact h
    · have h := h.2 c
      refine s_bipush d_M_writesRow_225 (by decide) ?_
      refine s_goto d_M_writesRow_227 rfl ?_
      refine wp_drop [0, 1, 2] rfl ?_
      exact h
  · have h := h.2 c
    refine s_bipush d_M_writesRow_215 (by decide) ?_
    refine s_goto d_M_writesRow_217 rfl ?_
    refine wp_drop [0, 1, 2] rfl ?_
    exact h
theorem b_M_writesRow_231 {E : EV} {d : Nat} {Q : Option AV → St → Prop} {σ : St} (x1 x2 s0 s1 s2 : Int) (h : (inb σ s0 20 s1) ∧ (sh (wr σ s0 s1 s2) 42 = some (10, 74)) ∧ (inb (wr σ s0 s1 s2) ((wr σ s0 s1 s2).1 42 33) 23 x1) ∧ WP E m_M_writesRow (d + 1) 316 [(0, aP 42), (1, aI x1), (2, aI x2)] [] (wr (wr σ s0 s1 s2) ((wr σ s0 s1 s2).1 42 33) x1 0) Q) : WP E m_M_writesRow (d + 1) 231 [(0, aP 42), (1, aI x1), (2, aI x2)] [aI s2, aI s1, aP s0] σ Q := by
  obtain ⟨g1, h⟩ := h
  refine s_iastore d_M_writesRow_231 g1 ?_
  refine s_aload_n 0 d_M_writesRow_232 rfl rfl ?_
  obtain ⟨g2, h⟩ := h
  refine s_getF (v := (wr σ s0 s1 s2).1 42 33) d_M_writesRow_233 fl_M_90 rfl g2 rfl ?_
  refine s_iload_n 1 d_M_writesRow_236 rfl rfl ?_
  refine s_iconst d_M_writesRow_237 ?_
  obtain ⟨g3, h⟩ := h
  refine s_bastore (Or.inr ⟨rfl, (by decide)⟩) d_M_writesRow_238 g3 ?_
  refine s_goto d_M_writesRow_239 rfl ?_
  exact h
theorem b_M_writesRow_244 {E : EV} {d : Nat} {Q : Option AV → St → Prop} {σ : St} (x1 x2 x3 : Int) (hF : Fix σ) (h : (rI x3) ∧ ((x3 = 0 → WP E m_M_writesRow (d + 1) 316 [(0, aP 42), (1, aI x1), (2, aI x2)] [] σ Q) ∧ (¬ x3 = 0 → (rI x1) ∧ ((x1 < 0 → WP E m_M_writesRow (d + 1) 316 [(0, aP 42), (1, aI x1), (2, aI x2)] [] σ Q) ∧ (¬ x1 < 0 → (0 ≤ x1 ∧ x1 < 24) ∧ (0 ≤ x1 ∧ x1 < 24) ∧ (0 ≤ x1 ∧ x1 < 24) ∧ (0 ≤ x1 ∧ x1 < 24) ∧ (rI ((wr σ 66 x1 ((σ.1 66 x1) - 1)).1 66 x1)) ∧ ((¬ ((wr σ 66 x1 ((σ.1 66 x1) - 1)).1 66 x1) = 0 → WP E m_M_writesRow (d + 1) 283 [(0, aP 42), (1, aI x1), (2, aI x2)] [aI 0] (wr (wr σ 66 x1 ((σ.1 66 x1) - 1)) 68 x1 1) Q) ∧ (((wr σ 66 x1 ((σ.1 66 x1) - 1)).1 66 x1) = 0 → WP E m_M_writesRow (d + 1) 283 [(0, aP 42), (1, aI x1), (2, aI x2)] [aI 1] (wr (wr σ 66 x1 ((σ.1 66 x1) - 1)) 68 x1 1) Q))))))) : WP E m_M_writesRow (d + 1) 244 [(0, aP 42), (1, aI x1), (2, aI x2), (3, aI x3)] [] σ Q := by
  refine s_iload_n 3 d_M_writesRow_244 rfl rfl ?_
  obtain ⟨g1, h⟩ := h
  refine s_if_eq d_M_writesRow_245 rfl g1 (fun c => ?_) (fun c => ?_)
  · have h := h.1 c
    refine wp_drop [0, 1, 2] rfl ?_
    exact h
  · have h := h.2 c
    refine s_iload_n 1 d_M_writesRow_248 rfl rfl ?_
    obtain ⟨g2, h⟩ := h
    refine s_if_lt d_M_writesRow_249 rfl g2 (fun c => ?_) (fun c => ?_)
    · have h := h.1 c
      refine wp_drop [0, 1, 2] rfl ?_
      exact h
    · have h := h.2 c
      refine s_aload_n 0 d_M_writesRow_252 rfl rfl ?_
      refine s_getF (v := 66) d_M_writesRow_253 fl_M_84 rfl (sf_42 hF) (ff_51 hF) ?_
      refine s_iload_n 1 d_M_writesRow_256 rfl rfl ?_
      refine s_dup2 d_M_writesRow_257 (Nat.ne_of_beq_eq_false rfl) (Nat.ne_of_beq_eq_false rfl) ?_
      obtain ⟨g3, h⟩ := h
      refine s_ialoadv (v := σ.1 66 x1) d_M_writesRow_258 ⟨_, sf_66 hF, g3.1, g3.2, by have := g3.2; omega⟩ rfl ?_
      refine s_iconst d_M_writesRow_259 ?_
      refine s_isub d_M_writesRow_260 ?_
      obtain ⟨g4, h⟩ := h
      refine s_iastore d_M_writesRow_261 ⟨_, sf_66 hF, g4.1, g4.2, by have := g4.2; omega⟩ ?_
      refine s_aload_n 0 d_M_writesRow_262 rfl rfl ?_
      refine s_getF (v := 68) d_M_writesRow_263 fl_M_90 rfl (sf_42 (hF.wa (a := 66) (by decide))) (ff_53 (hF.wa (a := 66) (by decide))) ?_
      refine s_iload_n 1 d_M_writesRow_266 rfl rfl ?_
      refine s_iconst d_M_writesRow_267 ?_
      obtain ⟨g5, h⟩ := h
      refine s_bastore (Or.inr ⟨rfl, (by decide)⟩) d_M_writesRow_268 ⟨_, sf_68 (hF.wa (a := 66) (by decide)), g5.1, g5.2, by have := g5.2; omega⟩ ?_
      refine s_aload_n 0 d_M_writesRow_269 rfl rfl ?_
      refine s_getF (v := 66) d_M_writesRow_270 fl_M_84 rfl (sf_42 ((hF.wa (a := 66) (by decide)).wa (a := 68) (by decide))) (ff_51 ((hF.wa (a := 66) (by decide)).wa (a := 68) (by decide))) ?_
      refine s_iload_n 1 d_M_writesRow_273 rfl rfl ?_
      obtain ⟨g6, h⟩ := h
      refine s_ialoadv (v := (wr σ 66 x1 ((σ.1 66 x1) - 1)).1 66 x1) d_M_writesRow_274 ⟨_, sf_66 ((hF.wa (a := 66) (by decide)).wa (a := 68) (by decide)), g6.1, g6.2, by have := g6.2; omega⟩ rfl ?_
      obtain ⟨g7, h⟩ := h
      refine s_if_ne d_M_writesRow_275 rfl g7 (fun c => ?_) (fun c => ?_)
      · have h := h.1 c
        refine s_iconst d_M_writesRow_282 ?_
        refine wp_drop [0, 1, 2] rfl ?_
        exact h
      · have h := h.2 c
        refine s_iconst d_M_writesRow_278 ?_
        refine s_goto d_M_writesRow_279 rfl ?_
        refine wp_drop [0, 1, 2] rfl ?_
        exact h
theorem b_M_writesRow_283 {E : EV} {d : Nat} {Q : Option AV → St → Prop} {σ : St} (x1 x2 s0 : Int) (hF : Fix σ) (h : (rI s0) ∧ ((¬ s0 = 0 → (0 ≤ x1 ∧ x1 < 24) ∧ (rI (σ.1 67 x1)) ∧ (((σ.1 67 x1) = 0 → WP E m_M_writesRow (d + 1) 310 [(0, aP 42), (1, aI x1), (2, aI x2), (3, aI s0)] [] σ Q) ∧ (¬ (σ.1 67 x1) = 0 → (0 ≤ x1 ∧ x1 < 24) ∧ (WMv E m_M_writes d [aP 42, aI (σ.1 67 x1)] σ (fun σ5 => WP E m_M_writesRow (d + 1) 310 [(0, aP 42), (1, aI x1), (2, aI x2), (3, aI s0)] [] σ5 Q))))) ∧ (s0 = 0 → WP E m_M_writesRow (d + 1) 244 [(0, aP 42), (1, aI x1), (2, aI x2), (3, aI s0)] [] σ Q))) : WP E m_M_writesRow (d + 1) 283 [(0, aP 42), (1, aI x1), (2, aI x2)] [aI s0] σ Q := by
  refine s_istore_n d_M_writesRow_283 rfl (by decide) rfl ?_
  refine s_iload_n 0 d_M_writesRow_284 rfl rfl ?_
  obtain ⟨g1, h⟩ := h
  refine s_if_ne d_M_writesRow_285 rfl g1 (fun c => ?_) (fun c => ?_)
  · have h := h.1 c
    refine s_aload_n 1 d_M_writesRow_291 rfl rfl ?_
    refine s_getF (v := 67) d_M_writesRow_292 fl_M_87 rfl (sf_42 hF) (ff_52 hF) ?_
    refine s_iload_n 2 d_M_writesRow_295 rfl rfl ?_
    obtain ⟨g2, h⟩ := h
    refine s_ialoadv (v := σ.1 67 x1) d_M_writesRow_296 ⟨_, sf_67 hF, g2.1, g2.2, by have := g2.2; omega⟩ rfl ?_
    obtain ⟨g3, h⟩ := h
    refine s_if_eq d_M_writesRow_297 rfl g3 (fun c => ?_) (fun c => ?_)
    · have h := h.1 c
      refine wp_drop [1, 2, 3, 0] rfl ?_
      exact h
    · have h := h.2 c
      refine s_aload_n 1 d_M_writesRow_300 rfl rfl ?_
      refine s_aload_n 1 d_M_writesRow_301 rfl rfl ?_
      refine s_getF (v := 67) d_M_writesRow_302 fl_M_87 rfl (sf_42 hF) (ff_52 hF) ?_
      refine s_iload_n 2 d_M_writesRow_305 rfl rfl ?_
      obtain ⟨g4, h⟩ := h
      refine s_ialoadv (v := σ.1 67 x1) d_M_writesRow_306 ⟨_, sf_67 hF, g4.1, g4.2, by have := g4.2; omega⟩ rfl ?_
      refine s_callV (as := [aI (σ.1 67 x1)]) (ci := 10) d_M_writesRow_307 ok_M_writes lk_M_334 io_M_writes so_M_writes (by decide) rfl rfl rfl (Nat.le_of_ble_eq_true rfl) rfl (sf_42 hF) (WM.mono h ?_)
      rintro _ σ5 ⟨rfl, hp, h⟩
      show WP E m_M_writesRow (d + 1) 310 [(3, aI s0), (0, aP 42), (1, aI x1), (2, aI x2)] [] σ5 Q
      refine wp_drop [1, 2, 3, 0] rfl ?_
      exact h
  · have h := h.2 c
    refine s_goto d_M_writesRow_288 rfl ?_
    refine wp_drop [1, 2, 3, 0] rfl ?_
    exact h
theorem b_M_writesRow_310 {E : EV} {d : Nat} {Q : Option AV → St → Prop} {σ : St} (x1 x2 x3 : Int) (h : WP E m_M_writesRow (d + 1) 244 [(0, aP 42), (1, aI (x1 + (-1))), (2, aI x2), (3, aI x3)] [] σ Q) : WP E m_M_writesRow (d + 1) 310 [(0, aP 42), (1, aI x1), (2, aI x2), (3, aI x3)] [] σ Q := by
  refine s_iinc 1 d_M_writesRow_310 rfl (by decide) rfl ?_
  refine s_goto d_M_writesRow_313 rfl ?_
  refine wp_drop [1, 0, 2, 3] rfl ?_
  exact h
theorem b_M_writesRow_316 {E : EV} {d : Nat} {Q : Option AV → St → Prop} {σ : St} (x1 x2 : Int) (h : WP E m_M_writesRow (d + 1) 4 [(0, aP 42), (1, aI x1), (2, aI (x2 + 1))] [] σ Q) : WP E m_M_writesRow (d + 1) 316 [(0, aP 42), (1, aI x1), (2, aI x2)] [] σ Q := by
  refine s_iinc 2 d_M_writesRow_316 rfl (by decide) rfl ?_
  refine s_goto d_M_writesRow_319 rfl ?_
  refine wp_drop [1, 2, 0] rfl ?_
  exact h
theorem d_M_told_0 : decode m_M_told.2.1 0 = .ok (.iload_n 1, 1) := by decide +kernel
theorem d_M_told_1 : decode m_M_told.2.1 1 = .ok (.iconst (-1), 1) := by decide +kernel
theorem d_M_told_2 : decode m_M_told.2.1 2 = .ok (.if_icmp .ne 10, 3) := by decide +kernel
theorem d_M_told_5 : decode m_M_told.2.1 5 = .ok (.aload_n 0, 1) := by decide +kernel
theorem d_M_told_6 : decode m_M_told.2.1 6 = .ok (.getfield 331, 3) := by decide +kernel
theorem d_M_told_9 : decode m_M_told.2.1 9 = .ok (.goto 21, 3) := by decide +kernel
theorem d_M_told_12 : decode m_M_told.2.1 12 = .ok (.iload_n 1, 1) := by decide +kernel
theorem d_M_told_13 : decode m_M_told.2.1 13 = .ok (.aload_n 0, 1) := by decide +kernel
theorem d_M_told_14 : decode m_M_told.2.1 14 = .ok (.getfield 331, 3) := by decide +kernel
theorem d_M_told_17 : decode m_M_told.2.1 17 = .ok (.if_icmp .ge 12, 3) := by decide +kernel
theorem d_M_told_20 : decode m_M_told.2.1 20 = .ok (.aload_n 0, 1) := by decide +kernel
theorem d_M_told_21 : decode m_M_told.2.1 21 = .ok (.getfield 78, 3) := by decide +kernel
theorem d_M_told_24 : decode m_M_told.2.1 24 = .ok (.iload_n 1, 1) := by decide +kernel
theorem d_M_told_25 : decode m_M_told.2.1 25 = .ok (.iaload, 1) := by decide +kernel
theorem d_M_told_26 : decode m_M_told.2.1 26 = .ok (.goto 4, 3) := by decide +kernel
theorem d_M_told_29 : decode m_M_told.2.1 29 = .ok (.iconst (-1), 1) := by decide +kernel
theorem d_M_told_30 : decode m_M_told.2.1 30 = .ok (.ireturn, 1) := by decide +kernel
theorem b_M_told_0 {E : EV} {d : Nat} {Q : Option AV → St → Prop} {σ : St} (x1 : Int) (hF : Fix σ) (h : (rI x1) ∧ ((¬ x1 = (-1) → (rI x1) ∧ (rI (σ.1 42 29)) ∧ (((σ.1 42 29) ≤ x1 → Q (some (aI (-1))) σ) ∧ (¬ (σ.1 42 29) ≤ x1 → (0 ≤ x1 ∧ x1 < 2600) ∧ Q (some (aI (σ.1 64 x1))) σ))) ∧ (x1 = (-1) → Q (some (aI (σ.1 42 29))) σ))) : WP E m_M_told d 0 [(0, aP 42), (1, aI x1)] [] σ Q := by
  refine s_iload_n 1 d_M_told_0 rfl rfl ?_
  refine s_iconst d_M_told_1 ?_
  obtain ⟨g1, h⟩ := h
  refine s_icmp_ne d_M_told_2 rfl g1 (by decide) (fun c => ?_) (fun c => ?_)
  · have h := h.1 c
    refine s_iload_n 1 d_M_told_12 rfl rfl ?_
    refine s_aload_n 0 d_M_told_13 rfl rfl ?_
    refine s_getF (v := σ.1 42 29) d_M_told_14 fl_M_331 rfl (sf_42 hF) rfl ?_
    obtain ⟨g2, h⟩ := h
    obtain ⟨g3, h⟩ := h
    refine s_icmp_ge d_M_told_17 rfl g2 g3 (fun c => ?_) (fun c => ?_)
    · have h := h.1 c
      refine s_iconst d_M_told_29 ?_
      exact s_ireturn d_M_told_30 rfl h
    · have h := h.2 c
      refine s_aload_n 0 d_M_told_20 rfl rfl ?_
      refine s_getF (v := 64) d_M_told_21 fl_M_78 rfl (sf_42 hF) (ff_49 hF) ?_
      refine s_iload_n 1 d_M_told_24 rfl rfl ?_
      obtain ⟨g4, h⟩ := h
      refine s_ialoadv (v := σ.1 64 x1) d_M_told_25 ⟨_, sf_64 hF, g4.1, g4.2, by have := g4.2; omega⟩ rfl ?_
      refine s_goto d_M_told_26 rfl ?_
      exact s_ireturn d_M_told_30 rfl h
  · have h := h.2 c
    refine s_aload_n 0 d_M_told_5 rfl rfl ?_
    refine s_getF (v := σ.1 42 29) d_M_told_6 fl_M_331 rfl (sf_42 hF) rfl ?_
    refine s_goto d_M_told_9 rfl ?_
    exact s_ireturn d_M_told_30 rfl h
theorem e_M_told {E : EV} {d : Nat} {Q : Option AV → St → Prop} {σ : St} (x1 : Int) (hF : Fix σ) (h : (rI x1) ∧ ((¬ x1 = (-1) → (rI x1) ∧ (rI (σ.1 42 29)) ∧ (((σ.1 42 29) ≤ x1 → Q (some (aI (-1))) σ) ∧ (¬ (σ.1 42 29) ≤ x1 → (0 ≤ x1 ∧ x1 < 2600) ∧ Q (some (aI (σ.1 64 x1))) σ))) ∧ (x1 = (-1) → Q (some (aI (σ.1 42 29))) σ))) : WM E m_M_told d [aP 42, aI x1] σ Q := s_meth (by decide) (Nat.le_of_ble_eq_true rfl) rfl (b_M_told_0 x1 hF h)
theorem d_M_arrange_0 : decode m_M_arrange.2.1 0 = .ok (.aload_n 0, 1) := by decide +kernel
theorem d_M_arrange_1 : decode m_M_arrange.2.1 1 = .ok (.iload_n 1, 1) := by decide +kernel
theorem d_M_arrange_2 : decode m_M_arrange.2.1 2 = .ok (.iload_n 2, 1) := by decide +kernel
theorem d_M_arrange_3 : decode m_M_arrange.2.1 3 = .ok (.invokevirtual 206, 3) := by decide +kernel
theorem d_M_arrange_6 : decode m_M_arrange.2.1 6 = .ok (.ifCond .eq 12, 3) := by decide +kernel
theorem d_M_arrange_9 : decode m_M_arrange.2.1 9 = .ok (.aload_n 0, 1) := by decide +kernel
theorem d_M_arrange_10 : decode m_M_arrange.2.1 10 = .ok (.iload_n 1, 1) := by decide +kernel
theorem d_M_arrange_11 : decode m_M_arrange.2.1 11 = .ok (.iload_n 2, 1) := by decide +kernel
theorem d_M_arrange_12 : decode m_M_arrange.2.1 12 = .ok (.invokevirtual 406, 3) := by decide +kernel
theorem d_M_arrange_15 : decode m_M_arrange.2.1 15 = .ok (.ifCond .ne 5, 3) := by decide +kernel
theorem d_M_arrange_18 : decode m_M_arrange.2.1 18 = .ok (.iconst 0, 1) := by decide +kernel
theorem d_M_arrange_19 : decode m_M_arrange.2.1 19 = .ok (.ireturn, 1) := by decide +kernel
theorem d_M_arrange_20 : decode m_M_arrange.2.1 20 = .ok (.aload_n 0, 1) := by decide +kernel
theorem d_M_arrange_21 : decode m_M_arrange.2.1 21 = .ok (.iload_n 1, 1) := by decide +kernel
theorem d_M_arrange_22 : decode m_M_arrange.2.1 22 = .ok (.iload_n 2, 1) := by decide +kernel
theorem d_M_arrange_23 : decode m_M_arrange.2.1 23 = .ok (.invokevirtual 210, 3) := by decide +kernel
theorem d_M_arrange_26 : decode m_M_arrange.2.1 26 = .ok (.aload_n 0, 1) := by decide +kernel
theorem d_M_arrange_27 : decode m_M_arrange.2.1 27 = .ok (.getfield 189, 3) := by decide +kernel
theorem d_M_arrange_30 : decode m_M_arrange.2.1 30 = .ok (.aload_n 0, 1) := by decide +kernel
theorem d_M_arrange_31 : decode m_M_arrange.2.1 31 = .ok (.getfield 376, 3) := by decide +kernel
theorem d_M_arrange_34 : decode m_M_arrange.2.1 34 = .ok (.if_icmp .ne 7, 3) := by decide +kernel
theorem d_M_arrange_37 : decode m_M_arrange.2.1 37 = .ok (.iconst 1, 1) := by decide +kernel
theorem d_M_arrange_38 : decode m_M_arrange.2.1 38 = .ok (.goto 4, 3) := by decide +kernel
theorem d_M_arrange_41 : decode m_M_arrange.2.1 41 = .ok (.iconst 0, 1) := by decide +kernel
theorem d_M_arrange_42 : decode m_M_arrange.2.1 42 = .ok (.istore_n 3, 1) := by decide +kernel
theorem d_M_arrange_43 : decode m_M_arrange.2.1 43 = .ok (.iconst 0, 1) := by decide +kernel
theorem d_M_arrange_44 : decode m_M_arrange.2.1 44 = .ok (.istore 4, 2) := by decide +kernel
theorem d_M_arrange_46 : decode m_M_arrange.2.1 46 = .ok (.iload 4, 2) := by decide +kernel
theorem d_M_arrange_48 : decode m_M_arrange.2.1 48 = .ok (.aload_n 0, 1) := by decide +kernel
theorem d_M_arrange_49 : decode m_M_arrange.2.1 49 = .ok (.getfield 189, 3) := by decide +kernel
theorem d_M_arrange_52 : decode m_M_arrange.2.1 52 = .ok (.if_icmp .ge 36, 3) := by decide +kernel
theorem d_M_arrange_55 : decode m_M_arrange.2.1 55 = .ok (.iload_n 3, 1) := by decide +kernel
theorem d_M_arrange_56 : decode m_M_arrange.2.1 56 = .ok (.ifCond .eq 32, 3) := by decide +kernel
theorem d_M_arrange_59 : decode m_M_arrange.2.1 59 = .ok (.aload_n 0, 1) := by decide +kernel
theorem d_M_arrange_60 : decode m_M_arrange.2.1 60 = .ok (.getfield 35, 3) := by decide +kernel
theorem d_M_arrange_63 : decode m_M_arrange.2.1 63 = .ok (.iload 4, 2) := by decide +kernel
theorem d_M_arrange_65 : decode m_M_arrange.2.1 65 = .ok (.iaload, 1) := by decide +kernel
theorem d_M_arrange_66 : decode m_M_arrange.2.1 66 = .ok (.aload_n 0, 1) := by decide +kernel
theorem d_M_arrange_67 : decode m_M_arrange.2.1 67 = .ok (.getfield 109, 3) := by decide +kernel
theorem d_M_arrange_70 : decode m_M_arrange.2.1 70 = .ok (.iload 4, 2) := by decide +kernel
theorem d_M_arrange_72 : decode m_M_arrange.2.1 72 = .ok (.iaload, 1) := by decide +kernel
theorem d_M_arrange_73 : decode m_M_arrange.2.1 73 = .ok (.if_icmp .ne 7, 3) := by decide +kernel
theorem d_M_arrange_76 : decode m_M_arrange.2.1 76 = .ok (.iconst 1, 1) := by decide +kernel
theorem d_M_arrange_77 : decode m_M_arrange.2.1 77 = .ok (.goto 4, 3) := by decide +kernel
theorem d_M_arrange_80 : decode m_M_arrange.2.1 80 = .ok (.iconst 0, 1) := by decide +kernel
theorem d_M_arrange_81 : decode m_M_arrange.2.1 81 = .ok (.istore_n 3, 1) := by decide +kernel
theorem d_M_arrange_82 : decode m_M_arrange.2.1 82 = .ok (.iinc 4 1, 3) := by decide +kernel
theorem d_M_arrange_85 : decode m_M_arrange.2.1 85 = .ok (.goto (-39), 3) := by decide +kernel
theorem d_M_arrange_88 : decode m_M_arrange.2.1 88 = .ok (.iload_n 3, 1) := by decide +kernel
theorem d_M_arrange_89 : decode m_M_arrange.2.1 89 = .ok (.ifCond .eq 5, 3) := by decide +kernel
theorem d_M_arrange_92 : decode m_M_arrange.2.1 92 = .ok (.iconst 0, 1) := by decide +kernel
theorem d_M_arrange_93 : decode m_M_arrange.2.1 93 = .ok (.ireturn, 1) := by decide +kernel
theorem d_M_arrange_94 : decode m_M_arrange.2.1 94 = .ok (.aload_n 0, 1) := by decide +kernel
theorem d_M_arrange_95 : decode m_M_arrange.2.1 95 = .ok (.invokevirtual 290, 3) := by decide +kernel
theorem d_M_arrange_98 : decode m_M_arrange.2.1 98 = .ok (.aload_n 0, 1) := by decide +kernel
theorem d_M_arrange_99 : decode m_M_arrange.2.1 99 = .ok (.invokevirtual 293, 3) := by decide +kernel
theorem d_M_arrange_102 : decode m_M_arrange.2.1 102 = .ok (.aload_n 0, 1) := by decide +kernel
theorem d_M_arrange_103 : decode m_M_arrange.2.1 103 = .ok (.aload_n 0, 1) := by decide +kernel
theorem d_M_arrange_104 : decode m_M_arrange.2.1 104 = .ok (.getfield 109, 3) := by decide +kernel
theorem d_M_arrange_107 : decode m_M_arrange.2.1 107 = .ok (.iconst 0, 1) := by decide +kernel
theorem d_M_arrange_108 : decode m_M_arrange.2.1 108 = .ok (.aload_n 0, 1) := by decide +kernel
theorem d_M_arrange_109 : decode m_M_arrange.2.1 109 = .ok (.getfield 376, 3) := by decide +kernel
theorem d_M_arrange_112 : decode m_M_arrange.2.1 112 = .ok (.invokevirtual 300, 3) := by decide +kernel
theorem d_M_arrange_115 : decode m_M_arrange.2.1 115 = .ok (.aload_n 0, 1) := by decide +kernel
theorem d_M_arrange_116 : decode m_M_arrange.2.1 116 = .ok (.iload_n 1, 1) := by decide +kernel
theorem d_M_arrange_117 : decode m_M_arrange.2.1 117 = .ok (.iload_n 2, 1) := by decide +kernel
theorem d_M_arrange_118 : decode m_M_arrange.2.1 118 = .ok (.invokevirtual 304, 3) := by decide +kernel
theorem d_M_arrange_121 : decode m_M_arrange.2.1 121 = .ok (.iconst 1, 1) := by decide +kernel
theorem d_M_arrange_122 : decode m_M_arrange.2.1 122 = .ok (.ireturn, 1) := by decide +kernel
theorem b_M_arrange_0 {E : EV} {d : Nat} {Q : Option AV → St → Prop} {σ : St} (x1 x2 : Int) (hF : Fix σ) (h : (WMi E m_M_isSquare d [aP 42, aI x1, aI x2] σ (fun v1 σ1 => Fix σ1 ∧ (rI v1) ∧ ((v1 = 0 → Q (some (aI 0)) σ1) ∧ (¬ v1 = 0 → (WMi E m_M_laysBest d [aP 42, aI x1, aI x2] σ1 (fun v3 σ3 => Fix σ3 ∧ (rI v3) ∧ ((¬ v3 = 0 → (WMv E m_M_takes d [aP 42, aI x1, aI x2] σ3 (fun σ5 => Fix σ5 ∧ (rI (σ5.1 42 10)) ∧ (rI (σ5.1 42 41)) ∧ ((¬ (σ5.1 42 10) = (σ5.1 42 41) → WP E m_M_arrange (d + 1) 42 [(0, aP 42), (1, aI x1), (2, aI x2)] [aI 0] σ5 Q) ∧ ((σ5.1 42 10) = (σ5.1 42 41) → WP E m_M_arrange (d + 1) 42 [(0, aP 42), (1, aI x1), (2, aI x2)] [aI 1] σ5 Q))))) ∧ (v3 = 0 → Q (some (aI 0)) σ3))))))))) : WP E m_M_arrange (d + 1) 0 [(0, aP 42), (1, aI x1), (2, aI x2)] [] σ Q := by
  refine s_aload_n 0 d_M_arrange_0 rfl rfl ?_
  refine s_iload_n 1 d_M_arrange_1 rfl rfl ?_
  refine s_iload_n 2 d_M_arrange_2 rfl rfl ?_
  refine s_callV (as := [aI x1, aI x2]) (ci := 10) d_M_arrange_3 ok_M_isSquare lk_M_206 io_M_isSquare so_M_isSquare (by decide) rfl rfl rfl (Nat.le_of_ble_eq_true rfl) rfl (sf_42 hF) (WM.mono h ?_)
  rintro _ σ1 ⟨v1, rfl, hp, h⟩
  obtain ⟨hF1, h⟩ := h
  show WP E m_M_arrange (d + 1) 6 [(0, aP 42), (1, aI x1), (2, aI x2)] [aI v1] σ1 Q
  obtain ⟨g2, h⟩ := h
  refine s_if_eq d_M_arrange_6 rfl g2 (fun c => ?_) (fun c => ?_)
  · have h := h.1 c
    refine s_iconst d_M_arrange_18 ?_
    exact s_zreturn d_M_arrange_19 rfl (by decide) h
  · have h := h.2 c
    refine s_aload_n 0 d_M_arrange_9 rfl rfl ?_
    refine s_iload_n 1 d_M_arrange_10 rfl rfl ?_
    refine s_iload_n 2 d_M_arrange_11 rfl rfl ?_
    refine s_callV (as := [aI x1, aI x2]) (ci := 10) d_M_arrange_12 ok_M_laysBest lk_M_406 io_M_laysBest so_M_laysBest (by decide) rfl rfl rfl (Nat.le_of_ble_eq_true rfl) rfl (sf_42 hF1) (WM.mono h ?_)
    rintro _ σ3 ⟨v3, rfl, hp, h⟩
    obtain ⟨hF3, h⟩ := h
    show WP E m_M_arrange (d + 1) 15 [(0, aP 42), (1, aI x1), (2, aI x2)] [aI v3] σ3 Q
    obtain ⟨g4, h⟩ := h
    refine s_if_ne d_M_arrange_15 rfl g4 (fun c => ?_) (fun c => ?_)
    · have h := h.1 c
      refine s_aload_n 0 d_M_arrange_20 rfl rfl ?_
      refine s_iload_n 1 d_M_arrange_21 rfl rfl ?_
      refine s_iload_n 2 d_M_arrange_22 rfl rfl ?_
      refine s_callV (as := [aI x1, aI x2]) (ci := 10) d_M_arrange_23 ok_M_takes lk_M_210 io_M_takes so_M_takes (by decide) rfl rfl rfl (Nat.le_of_ble_eq_true rfl) rfl (sf_42 hF3) (WM.mono h ?_)
      rintro _ σ5 ⟨rfl, hp, h⟩
      obtain ⟨hF5, h⟩ := h
      show WP E m_M_arrange (d + 1) 26 [(0, aP 42), (1, aI x1), (2, aI x2)] [] σ5 Q
      refine s_aload_n 0 d_M_arrange_26 rfl rfl ?_
      refine s_getF (v := σ5.1 42 10) d_M_arrange_27 fl_M_189 rfl (sf_42 hF5) rfl ?_
      refine s_aload_n 0 d_M_arrange_30 rfl rfl ?_
      refine s_getF (v := σ5.1 42 41) d_M_arrange_31 fl_M_376 rfl (sf_42 hF5) rfl ?_
      obtain ⟨g6, h⟩ := h
      obtain ⟨g7, h⟩ := h
      refine s_icmp_ne d_M_arrange_34 rfl g6 g7 (fun c => ?_) (fun c => ?_)
      · have h := h.1 c
        refine s_iconst d_M_arrange_41 ?_
        exact h
      · have h := h.2 c
        refine s_iconst d_M_arrange_37 ?_
        refine s_goto d_M_arrange_38 rfl ?_
        exact h
    · have h := h.2 c
      refine s_iconst d_M_arrange_18 ?_
      exact s_zreturn d_M_arrange_19 rfl (by decide) h
theorem e_M_arrange {E : EV} {d : Nat} {Q : Option AV → St → Prop} {σ : St} (x1 x2 : Int) (hF : Fix σ) (h : (WMi E m_M_isSquare d [aP 42, aI x1, aI x2] σ (fun v1 σ1 => Fix σ1 ∧ (rI v1) ∧ ((v1 = 0 → Q (some (aI 0)) σ1) ∧ (¬ v1 = 0 → (WMi E m_M_laysBest d [aP 42, aI x1, aI x2] σ1 (fun v3 σ3 => Fix σ3 ∧ (rI v3) ∧ ((¬ v3 = 0 → (WMv E m_M_takes d [aP 42, aI x1, aI x2] σ3 (fun σ5 => Fix σ5 ∧ (rI (σ5.1 42 10)) ∧ (rI (σ5.1 42 41)) ∧ ((¬ (σ5.1 42 10) = (σ5.1 42 41) → WP E m_M_arrange (d + 1) 42 [(0, aP 42), (1, aI x1), (2, aI x2)] [aI 0] σ5 Q) ∧ ((σ5.1 42 10) = (σ5.1 42 41) → WP E m_M_arrange (d + 1) 42 [(0, aP 42), (1, aI x1), (2, aI x2)] [aI 1] σ5 Q))))) ∧ (v3 = 0 → Q (some (aI 0)) σ3))))))))) : WM E m_M_arrange (d + 1) [aP 42, aI x1, aI x2] σ Q := s_meth (by decide) (Nat.le_of_ble_eq_true rfl) rfl (b_M_arrange_0 x1 x2 hF h)
theorem b_M_arrange_42 {E : EV} {d : Nat} {Q : Option AV → St → Prop} {σ : St} (x1 x2 s0 : Int) (h : WP E m_M_arrange (d + 1) 46 [(0, aP 42), (1, aI x1), (2, aI x2), (3, aI s0), (4, aI 0)] [] σ Q) : WP E m_M_arrange (d + 1) 42 [(0, aP 42), (1, aI x1), (2, aI x2)] [aI s0] σ Q := by
  refine s_istore_n d_M_arrange_42 rfl (by decide) rfl ?_
  refine s_iconst d_M_arrange_43 ?_
  refine s_istore d_M_arrange_44 (by decide) rfl ?_
  refine wp_drop [2, 3, 4, 1, 0] rfl ?_
  exact h
theorem b_M_arrange_46 {E : EV} {d : Nat} {Q : Option AV → St → Prop} {σ : St} (x1 x2 x3 x4 : Int) (hF : Fix σ) (h : (rI x4) ∧ (rI (σ.1 42 10)) ∧ (((σ.1 42 10) ≤ x4 → WP E m_M_arrange (d + 1) 88 [(0, aP 42), (1, aI x1), (2, aI x2), (3, aI x3)] [] σ Q) ∧ (¬ (σ.1 42 10) ≤ x4 → (rI x3) ∧ ((x3 = 0 → WP E m_M_arrange (d + 1) 88 [(0, aP 42), (1, aI x1), (2, aI x2), (3, aI x3)] [] σ Q) ∧ (¬ x3 = 0 → (0 ≤ x4 ∧ x4 < 24) ∧ (0 ≤ x4 ∧ x4 < 24) ∧ (rI (σ.1 50 x4)) ∧ (rI (σ.1 74 x4)) ∧ ((¬ (σ.1 50 x4) = (σ.1 74 x4) → WP E m_M_arrange (d + 1) 81 [(0, aP 42), (1, aI x1), (2, aI x2), (4, aI x4)] [aI 0] σ Q) ∧ ((σ.1 50 x4) = (σ.1 74 x4) → WP E m_M_arrange (d + 1) 81 [(0, aP 42), (1, aI x1), (2, aI x2), (4, aI x4)] [aI 1] σ Q))))))) : WP E m_M_arrange (d + 1) 46 [(0, aP 42), (1, aI x1), (2, aI x2), (3, aI x3), (4, aI x4)] [] σ Q := by
  refine s_iload 4 d_M_arrange_46 rfl ?_
  refine s_aload_n 0 d_M_arrange_48 rfl rfl ?_
  refine s_getF (v := σ.1 42 10) d_M_arrange_49 fl_M_189 rfl (sf_42 hF) rfl ?_
  obtain ⟨g1, h⟩ := h
  obtain ⟨g2, h⟩ := h
  refine s_icmp_ge d_M_arrange_52 rfl g1 g2 (fun c => ?_) (fun c => ?_)
  · have h := h.1 c
    refine wp_drop [0, 1, 2, 3] rfl ?_
    exact h
  · have h := h.2 c
    refine s_iload_n 3 d_M_arrange_55 rfl rfl ?_
    obtain ⟨g3, h⟩ := h
    refine s_if_eq d_M_arrange_56 rfl g3 (fun c => ?_) (fun c => ?_)
    · have h := h.1 c
      refine wp_drop [0, 1, 2, 3] rfl ?_
      exact h
    · have h := h.2 c
      refine s_aload_n 0 d_M_arrange_59 rfl rfl ?_
      refine s_getF (v := 50) d_M_arrange_60 fl_M_35 rfl (sf_42 hF) (ff_35 hF) ?_
      refine s_iload 4 d_M_arrange_63 rfl ?_
      obtain ⟨g4, h⟩ := h
      refine s_ialoadv (v := σ.1 50 x4) d_M_arrange_65 ⟨_, sf_50 hF, g4.1, g4.2, by have := g4.2; omega⟩ rfl ?_
      refine s_aload_n 0 d_M_arrange_66 rfl rfl ?_
      refine s_getF (v := 74) d_M_arrange_67 fl_M_109 rfl (sf_42 hF) (ff_59 hF) ?_
      refine s_iload 4 d_M_arrange_70 rfl ?_
      obtain ⟨g5, h⟩ := h
      refine s_ialoadv (v := σ.1 74 x4) d_M_arrange_72 ⟨_, sf_74 hF, g5.1, g5.2, by have := g5.2; omega⟩ rfl ?_
      obtain ⟨g6, h⟩ := h
      obtain ⟨g7, h⟩ := h
      refine s_icmp_ne d_M_arrange_73 rfl g6 g7 (fun c => ?_) (fun c => ?_)
      · have h := h.1 c
        refine s_iconst d_M_arrange_80 ?_
        refine wp_drop [0, 1, 2, 4] rfl ?_
        exact h
      · have h := h.2 c
        refine s_iconst d_M_arrange_76 ?_
        refine s_goto d_M_arrange_77 rfl ?_
        refine wp_drop [0, 1, 2, 4] rfl ?_
        exact h
theorem b_M_arrange_81 {E : EV} {d : Nat} {Q : Option AV → St → Prop} {σ : St} (x1 x2 x4 s0 : Int) (h : WP E m_M_arrange (d + 1) 46 [(0, aP 42), (1, aI x1), (2, aI x2), (3, aI s0), (4, aI (x4 + 1))] [] σ Q) : WP E m_M_arrange (d + 1) 81 [(0, aP 42), (1, aI x1), (2, aI x2), (4, aI x4)] [aI s0] σ Q := by
  refine s_istore_n d_M_arrange_81 rfl (by decide) rfl ?_
  refine s_iinc 4 d_M_arrange_82 rfl (by decide) rfl ?_
  refine s_goto d_M_arrange_85 rfl ?_
  refine wp_drop [2, 3, 4, 1, 0] rfl ?_
  exact h
theorem b_M_arrange_88 {E : EV} {d : Nat} {Q : Option AV → St → Prop} {σ : St} (x1 x2 x3 : Int) (hF : Fix σ) (h : (rI x3) ∧ ((x3 = 0 → (WMv E m_M_keeps d [aP 42] σ (fun σ2 => Fix σ2 ∧ (WMv E m_M_opens d [aP 42] σ2 (fun σ3 => Fix σ3 ∧ (WMv E m_M_addsAll d [aP 42, aP 74, aI 0, aI (σ3.1 42 41)] σ3 (fun σ4 => Fix σ4 ∧ (WMv E m_M_lays d [aP 42, aI x1, aI x2] σ4 (fun σ5 => Q (some (aI 1)) σ5))))))))) ∧ (¬ x3 = 0 → Q (some (aI 0)) σ))) : WP E m_M_arrange (d + 1) 88 [(0, aP 42), (1, aI x1), (2, aI x2), (3, aI x3)] [] σ Q := by
  refine s_iload_n 3 d_M_arrange_88 rfl rfl ?_
  obtain ⟨g1, h⟩ := h
  refine s_if_eq d_M_arrange_89 rfl g1 (fun c => ?_) (fun c => ?_)
  · have h := h.1 c
    refine s_aload_n 0 d_M_arrange_94 rfl rfl ?_
    refine s_callV (as := []) (ci := 10) d_M_arrange_95 ok_M_keeps lk_M_290 io_M_keeps so_M_keeps (by decide) rfl rfl rfl (Nat.le_of_ble_eq_true rfl) rfl (sf_42 hF) (WM.mono h ?_)
    rintro _ σ2 ⟨rfl, hp, h⟩
    obtain ⟨hF2, h⟩ := h
    show WP E m_M_arrange (d + 1) 98 [(0, aP 42), (1, aI x1), (2, aI x2), (3, aI x3)] [] σ2 Q
    refine s_aload_n 0 d_M_arrange_98 rfl rfl ?_
    refine s_callV (as := []) (ci := 10) d_M_arrange_99 ok_M_opens lk_M_293 io_M_opens so_M_opens (by decide) rfl rfl rfl (Nat.le_of_ble_eq_true rfl) rfl (sf_42 hF2) (WM.mono h ?_)
    rintro _ σ3 ⟨rfl, hp, h⟩
    obtain ⟨hF3, h⟩ := h
    show WP E m_M_arrange (d + 1) 102 [(0, aP 42), (1, aI x1), (2, aI x2), (3, aI x3)] [] σ3 Q
    refine s_aload_n 0 d_M_arrange_102 rfl rfl ?_
    refine s_aload_n 0 d_M_arrange_103 rfl rfl ?_
    refine s_getF (v := 74) d_M_arrange_104 fl_M_109 rfl (sf_42 hF3) (ff_59 hF3) ?_
    refine s_iconst d_M_arrange_107 ?_
    refine s_aload_n 0 d_M_arrange_108 rfl rfl ?_
    refine s_getF (v := σ3.1 42 41) d_M_arrange_109 fl_M_376 rfl (sf_42 hF3) rfl ?_
    refine s_callV (as := [aP 74, aI 0, aI (σ3.1 42 41)]) (ci := 10) d_M_arrange_112 ok_M_addsAll lk_M_300 io_M_addsAll so_M_addsAll (by decide) rfl rfl rfl (Nat.le_of_ble_eq_true rfl) rfl (sf_42 hF3) (WM.mono h ?_)
    rintro _ σ4 ⟨rfl, hp, h⟩
    obtain ⟨hF4, h⟩ := h
    show WP E m_M_arrange (d + 1) 115 [(0, aP 42), (1, aI x1), (2, aI x2), (3, aI x3)] [] σ4 Q
    refine s_aload_n 0 d_M_arrange_115 rfl rfl ?_
    refine s_iload_n 1 d_M_arrange_116 rfl rfl ?_
    refine s_iload_n 2 d_M_arrange_117 rfl rfl ?_
    refine s_callV (as := [aI x1, aI x2]) (ci := 10) d_M_arrange_118 ok_M_lays lk_M_304 io_M_lays so_M_lays (by decide) rfl rfl rfl (Nat.le_of_ble_eq_true rfl) rfl (sf_42 hF4) (WM.mono h ?_)
    rintro _ σ5 ⟨rfl, hp, h⟩
    show WP E m_M_arrange (d + 1) 121 [(0, aP 42), (1, aI x1), (2, aI x2), (3, aI x3)] [] σ5 Q
    refine s_iconst d_M_arrange_121 ?_
    exact s_zreturn d_M_arrange_122 rfl (by decide) h
  · have h := h.2 c
    refine s_iconst d_M_arrange_92 ?_
    exact s_zreturn d_M_arrange_93 rfl (by decide) h
