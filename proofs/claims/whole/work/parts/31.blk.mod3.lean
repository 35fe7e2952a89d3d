theorem d_M_laysBest_0 : decode m_M_laysBest.2.1 0 = .ok (.aload_n 0, 1) := by decide +kernel
theorem d_M_laysBest_1 : decode m_M_laysBest.2.1 1 = .ok (.invokevirtual 394, 3) := by decide +kernel
theorem d_M_laysBest_4 : decode m_M_laysBest.2.1 4 = .ok (.aload_n 0, 1) := by decide +kernel
theorem d_M_laysBest_5 : decode m_M_laysBest.2.1 5 = .ok (.iload_n 1, 1) := by decide +kernel
theorem d_M_laysBest_6 : decode m_M_laysBest.2.1 6 = .ok (.iload_n 2, 1) := by decide +kernel
theorem d_M_laysBest_7 : decode m_M_laysBest.2.1 7 = .ok (.invokevirtual 210, 3) := by decide +kernel
theorem d_M_laysBest_10 : decode m_M_laysBest.2.1 10 = .ok (.aload_n 0, 1) := by decide +kernel
theorem d_M_laysBest_11 : decode m_M_laysBest.2.1 11 = .ok (.invokevirtual 397, 3) := by decide +kernel
theorem d_M_laysBest_14 : decode m_M_laysBest.2.1 14 = .ok (.aload_n 0, 1) := by decide +kernel
theorem d_M_laysBest_15 : decode m_M_laysBest.2.1 15 = .ok (.getfield 373, 3) := by decide +kernel
theorem d_M_laysBest_18 : decode m_M_laysBest.2.1 18 = .ok (.bipush 6, 2) := by decide +kernel
theorem d_M_laysBest_20 : decode m_M_laysBest.2.1 20 = .ok (.if_icmp .le 5, 3) := by decide +kernel
theorem d_M_laysBest_23 : decode m_M_laysBest.2.1 23 = .ok (.iconst 0, 1) := by decide +kernel
theorem d_M_laysBest_24 : decode m_M_laysBest.2.1 24 = .ok (.ireturn, 1) := by decide +kernel
theorem d_M_laysBest_25 : decode m_M_laysBest.2.1 25 = .ok (.aload_n 0, 1) := by decide +kernel
theorem d_M_laysBest_26 : decode m_M_laysBest.2.1 26 = .ok (.iconst 0, 1) := by decide +kernel
theorem d_M_laysBest_27 : decode m_M_laysBest.2.1 27 = .ok (.putfield 376, 3) := by decide +kernel
theorem d_M_laysBest_30 : decode m_M_laysBest.2.1 30 = .ok (.aload_n 0, 1) := by decide +kernel
theorem d_M_laysBest_31 : decode m_M_laysBest.2.1 31 = .ok (.getfield 373, 3) := by decide +kernel
theorem d_M_laysBest_34 : decode m_M_laysBest.2.1 34 = .ok (.iconst 1, 1) := by decide +kernel
theorem d_M_laysBest_35 : decode m_M_laysBest.2.1 35 = .ok (.if_icmp .ne 7, 3) := by decide +kernel
theorem d_M_laysBest_38 : decode m_M_laysBest.2.1 38 = .ok (.iconst 1, 1) := by decide +kernel
theorem d_M_laysBest_39 : decode m_M_laysBest.2.1 39 = .ok (.goto 12, 3) := by decide +kernel
theorem d_M_laysBest_42 : decode m_M_laysBest.2.1 42 = .ok (.aload_n 0, 1) := by decide +kernel
theorem d_M_laysBest_43 : decode m_M_laysBest.2.1 43 = .ok (.getfield 97, 3) := by decide +kernel
theorem d_M_laysBest_46 : decode m_M_laysBest.2.1 46 = .ok (.aload_n 0, 1) := by decide +kernel
theorem d_M_laysBest_47 : decode m_M_laysBest.2.1 47 = .ok (.getfield 373, 3) := by decide +kernel
theorem d_M_laysBest_50 : decode m_M_laysBest.2.1 50 = .ok (.iaload, 1) := by decide +kernel
theorem d_M_laysBest_51 : decode m_M_laysBest.2.1 51 = .ok (.istore_n 3, 1) := by decide +kernel
theorem d_M_laysBest_52 : decode m_M_laysBest.2.1 52 = .ok (.iconst 0, 1) := by decide +kernel
theorem d_M_laysBest_53 : decode m_M_laysBest.2.1 53 = .ok (.istore 4, 2) := by decide +kernel
theorem d_M_laysBest_55 : decode m_M_laysBest.2.1 55 = .ok (.iload 4, 2) := by decide +kernel
theorem d_M_laysBest_57 : decode m_M_laysBest.2.1 57 = .ok (.iload_n 3, 1) := by decide +kernel
theorem d_M_laysBest_58 : decode m_M_laysBest.2.1 58 = .ok (.if_icmp .ge 31, 3) := by decide +kernel
theorem d_M_laysBest_61 : decode m_M_laysBest.2.1 61 = .ok (.aload_n 0, 1) := by decide +kernel
theorem d_M_laysBest_62 : decode m_M_laysBest.2.1 62 = .ok (.iload 4, 2) := by decide +kernel
theorem d_M_laysBest_64 : decode m_M_laysBest.2.1 64 = .ok (.iconst 0, 1) := by decide +kernel
theorem d_M_laysBest_65 : decode m_M_laysBest.2.1 65 = .ok (.invokevirtual 400, 3) := by decide +kernel
theorem d_M_laysBest_68 : decode m_M_laysBest.2.1 68 = .ok (.aload_n 0, 1) := by decide +kernel
theorem d_M_laysBest_69 : decode m_M_laysBest.2.1 69 = .ok (.invokevirtual 403, 3) := by decide +kernel
theorem d_M_laysBest_72 : decode m_M_laysBest.2.1 72 = .ok (.aload_n 0, 1) := by decide +kernel
theorem d_M_laysBest_73 : decode m_M_laysBest.2.1 73 = .ok (.iload 4, 2) := by decide +kernel
theorem d_M_laysBest_75 : decode m_M_laysBest.2.1 75 = .ok (.iconst 1, 1) := by decide +kernel
theorem d_M_laysBest_76 : decode m_M_laysBest.2.1 76 = .ok (.invokevirtual 400, 3) := by decide +kernel
theorem d_M_laysBest_79 : decode m_M_laysBest.2.1 79 = .ok (.aload_n 0, 1) := by decide +kernel
theorem d_M_laysBest_80 : decode m_M_laysBest.2.1 80 = .ok (.invokevirtual 403, 3) := by decide +kernel
theorem d_M_laysBest_83 : decode m_M_laysBest.2.1 83 = .ok (.iinc 4 1, 3) := by decide +kernel
theorem d_M_laysBest_86 : decode m_M_laysBest.2.1 86 = .ok (.goto (-31), 3) := by decide +kernel
theorem d_M_laysBest_89 : decode m_M_laysBest.2.1 89 = .ok (.iconst 1, 1) := by decide +kernel
theorem d_M_laysBest_90 : decode m_M_laysBest.2.1 90 = .ok (.ireturn, 1) := by decide +kernel
theorem b_M_laysBest_0 {E : EV} {d : Nat} {Q : Option AV → St → Prop} {σ : St} (x1 x2 : Int) (hF : Fix σ) (h : (WMv E m_M_laysAllForms d [aP 42] σ (fun σ1 => Fix σ1 ∧ (WMv E m_M_takes d [aP 42, aI x1, aI x2] σ1 (fun σ2 => Fix σ2 ∧ (WMv E m_M_laysItems d [aP 42] σ2 (fun σ3 => Fix σ3 ∧ (rI (σ3.1 42 39)) ∧ (((σ3.1 42 39) ≤ 6 → (rI (σ3.1 42 39)) ∧ ((¬ (σ3.1 42 39) = 1 → (0 ≤ (σ3.1 42 39) ∧ (σ3.1 42 39) < 7) ∧ WP E m_M_laysBest (d + 1) 51 [(0, aP 42)] [aI (σ3.1 70 (σ3.1 42 39))] (wr σ3 42 41 0) Q) ∧ ((σ3.1 42 39) = 1 → WP E m_M_laysBest (d + 1) 51 [(0, aP 42)] [aI 1] (wr σ3 42 41 0) Q))) ∧ (¬ (σ3.1 42 39) ≤ 6 → Q (some (aI 0)) σ3))))))))) : WP E m_M_laysBest (d + 1) 0 [(0, aP 42), (1, aI x1), (2, aI x2)] [] σ Q := by
  refine s_aload_n 0 d_M_laysBest_0 rfl rfl ?_
  refine s_callV (as := []) (ci := 10) d_M_laysBest_1 ok_M_laysAllForms lk_M_394 io_M_laysAllForms so_M_laysAllForms (by decide) rfl rfl rfl (Nat.le_of_ble_eq_true rfl) rfl (sf_42 hF) (WM.mono h ?_)
  rintro _ σ1 ⟨rfl, hp, h⟩
  obtain ⟨hF1, h⟩ := h
  show WP E m_M_laysBest (d + 1) 4 [(0, aP 42), (1, aI x1), (2, aI x2)] [] σ1 Q
  refine s_aload_n 0 d_M_laysBest_4 rfl rfl ?_
  refine s_iload_n 1 d_M_laysBest_5 rfl rfl ?_
  refine s_iload_n 2 d_M_laysBest_6 rfl rfl ?_
  refine s_callV (as := [aI x1, aI x2]) (ci := 10) d_M_laysBest_7 ok_M_takes lk_M_210 io_M_takes so_M_takes (by decide) rfl rfl rfl (Nat.le_of_ble_eq_true rfl) rfl (sf_42 hF1) (WM.mono h ?_)
  rintro _ σ2 ⟨rfl, hp, h⟩
  obtain ⟨hF2, h⟩ := h
  show WP E m_M_laysBest (d + 1) 10 [(0, aP 42), (1, aI x1), (2, aI x2)] [] σ2 Q
  refine s_aload_n 0 d_M_laysBest_10 rfl rfl ?_
  refine s_callV (as := []) (ci := 10) d_M_laysBest_11 ok_M_laysItems lk_M_397 io_M_laysItems so_M_laysItems (by decide) rfl rfl rfl (Nat.le_of_ble_eq_true rfl) rfl (sf_42 hF2) (WM.mono h ?_)
  rintro _ σ3 ⟨rfl, hp, h⟩
  obtain ⟨hF3, h⟩ := h
  show WP E m_M_laysBest (d + 1) 14 [(0, aP 42), (1, aI x1), (2, aI x2)] [] σ3 Q
  refine s_aload_n 0 d_M_laysBest_14 rfl rfl ?_
  refine s_getF (v := σ3.1 42 39) d_M_laysBest_15 fl_M_373 rfl (sf_42 hF3) rfl ?_
  refine s_bipush d_M_laysBest_18 (by decide) ?_
  obtain ⟨g4, h⟩ := h
  refine s_icmp_le d_M_laysBest_20 rfl g4 (by decide) (fun c => ?_) (fun c => ?_)
  · have h := h.1 c
    refine s_aload_n 0 d_M_laysBest_25 rfl rfl ?_
    refine s_iconst d_M_laysBest_26 ?_
    refine s_putf 41 rfl d_M_laysBest_27 fl_M_376 (fun C T h => by cases h; exact Or.inl rfl) rfl (Or.inl rfl) (fun h => nomatch h) (sf_42 hF3) ?_
    refine s_aload_n 0 d_M_laysBest_30 rfl rfl ?_
    refine s_getF (v := σ3.1 42 39) d_M_laysBest_31 fl_M_373 rfl (sf_42 (hF3.wf (a := 42) (k := 41) (by decide))) rfl ?_
    refine s_iconst d_M_laysBest_34 ?_
    obtain ⟨g5, h⟩ := h
    refine s_icmp_ne d_M_laysBest_35 rfl g5 (by decide) (fun c => ?_) (fun c => ?_)
    · have h := h.1 c
      refine s_aload_n 0 d_M_laysBest_42 rfl rfl ?_
      refine s_getF (v := 70) d_M_laysBest_43 fl_M_97 rfl (sf_42 (hF3.wf (a := 42) (k := 41) (by decide))) (ff_55 (hF3.wf (a := 42) (k := 41) (by decide))) ?_
      refine s_aload_n 0 d_M_laysBest_46 rfl rfl ?_
      refine s_getF (v := σ3.1 42 39) d_M_laysBest_47 fl_M_373 rfl (sf_42 (hF3.wf (a := 42) (k := 41) (by decide))) rfl ?_
      obtain ⟨g6, h⟩ := h
      refine s_ialoadv (v := σ3.1 70 (σ3.1 42 39)) d_M_laysBest_50 ⟨_, sf_70 (hF3.wf (a := 42) (k := 41) (by decide)), g6.1, g6.2, by have := g6.2; omega⟩ rfl ?_
      refine wp_drop [0] rfl ?_
      exact h
    · have h := h.2 c
      refine s_iconst d_M_laysBest_38 ?_
      refine s_goto d_M_laysBest_39 rfl ?_
      refine wp_drop [0] rfl ?_
      exact h
  · have h := h.2 c
    refine s_iconst d_M_laysBest_23 ?_
    exact s_zreturn d_M_laysBest_24 rfl (by decide) h
theorem e_M_laysBest {E : EV} {d : Nat} {Q : Option AV → St → Prop} {σ : St} (x1 x2 : Int) (hF : Fix σ) (h : (WMv E m_M_laysAllForms d [aP 42] σ (fun σ1 => Fix σ1 ∧ (WMv E m_M_takes d [aP 42, aI x1, aI x2] σ1 (fun σ2 => Fix σ2 ∧ (WMv E m_M_laysItems d [aP 42] σ2 (fun σ3 => Fix σ3 ∧ (rI (σ3.1 42 39)) ∧ (((σ3.1 42 39) ≤ 6 → (rI (σ3.1 42 39)) ∧ ((¬ (σ3.1 42 39) = 1 → (0 ≤ (σ3.1 42 39) ∧ (σ3.1 42 39) < 7) ∧ WP E m_M_laysBest (d + 1) 51 [(0, aP 42)] [aI (σ3.1 70 (σ3.1 42 39))] (wr σ3 42 41 0) Q) ∧ ((σ3.1 42 39) = 1 → WP E m_M_laysBest (d + 1) 51 [(0, aP 42)] [aI 1] (wr σ3 42 41 0) Q))) ∧ (¬ (σ3.1 42 39) ≤ 6 → Q (some (aI 0)) σ3))))))))) : WM E m_M_laysBest (d + 1) [aP 42, aI x1, aI x2] σ Q := s_meth (by decide) (Nat.le_of_ble_eq_true rfl) rfl (b_M_laysBest_0 x1 x2 hF h)
theorem b_M_laysBest_51 {E : EV} {d : Nat} {Q : Option AV → St → Prop} {σ : St} (s0 : Int) (h : WP E m_M_laysBest (d + 1) 55 [(0, aP 42), (3, aI s0), (4, aI 0)] [] σ Q) : WP E m_M_laysBest (d + 1) 51 [(0, aP 42)] [aI s0] σ Q := by
  refine s_istore_n d_M_laysBest_51 rfl (by decide) rfl ?_
  refine s_iconst d_M_laysBest_52 ?_
  refine s_istore d_M_laysBest_53 (by decide) rfl ?_
  refine wp_drop [2, 1, 0] rfl ?_
  exact h
theorem b_M_laysBest_55 {E : EV} {d : Nat} {Q : Option AV → St → Prop} {σ : St} (x3 x4 : Int) (hF : Fix σ) (h : (rI x4) ∧ (rI x3) ∧ ((x3 ≤ x4 → Q (some (aI 1)) σ) ∧ (¬ x3 ≤ x4 → (WMv E m_M_forms d [aP 42, aI x4, aI 0] σ (fun σ3 => Fix σ3 ∧ (WMv E m_M_compares d [aP 42] σ3 (fun σ4 => Fix σ4 ∧ (WMv E m_M_forms d [aP 42, aI x4, aI 1] σ4 (fun σ5 => Fix σ5 ∧ (WMv E m_M_compares d [aP 42] σ5 (fun σ6 => WP E m_M_laysBest (d + 1) 55 [(0, aP 42), (3, aI x3), (4, aI (x4 + 1))] [] σ6 Q))))))))))) : WP E m_M_laysBest (d + 1) 55 [(0, aP 42), (3, aI x3), (4, aI x4)] [] σ Q := by
  refine s_iload 2 d_M_laysBest_55 rfl ?_
  refine s_iload_n 1 d_M_laysBest_57 rfl rfl ?_
  obtain ⟨g1, h⟩ := h
  obtain ⟨g2, h⟩ := h
  refine s_icmp_ge d_M_laysBest_58 rfl g1 g2 (fun c => ?_) (fun c => ?_)
  · have h := h.1 c
    refine s_iconst d_M_laysBest_89 ?_
    exact s_zreturn d_M_laysBest_90 rfl (by decide) h
  · have h := h.2 c
    refine s_aload_n 0 d_M_laysBest_61 rfl rfl ?_
    refine s_iload 2 d_M_laysBest_62 rfl ?_
    refine s_iconst d_M_laysBest_64 ?_
    refine s_callV (as := [aI x4, aI 0]) (ci := 10) d_M_laysBest_65 ok_M_forms lk_M_400 io_M_forms so_M_forms (by decide) rfl rfl rfl (Nat.le_of_ble_eq_true rfl) rfl (sf_42 hF) (WM.mono h ?_)
    rintro _ σ3 ⟨rfl, hp, h⟩
    obtain ⟨hF3, h⟩ := h
    show WP E m_M_laysBest (d + 1) 68 [(0, aP 42), (3, aI x3), (4, aI x4)] [] σ3 Q
    refine s_aload_n 0 d_M_laysBest_68 rfl rfl ?_
    refine s_callV (as := []) (ci := 10) d_M_laysBest_69 ok_M_compares lk_M_403 io_M_compares so_M_compares (by decide) rfl rfl rfl (Nat.le_of_ble_eq_true rfl) rfl (sf_42 hF3) (WM.mono h ?_)
    rintro _ σ4 ⟨rfl, hp, h⟩
    obtain ⟨hF4, h⟩ := h
    show WP E m_M_laysBest (d + 1) 72 [(0, aP 42), (3, aI x3), (4, aI x4)] [] σ4 Q
    refine s_aload_n 0 d_M_laysBest_72 rfl rfl ?_
    refine s_iload 2 d_M_laysBest_73 rfl ?_
    refine s_iconst d_M_laysBest_75 ?_
    refine s_callV (as := [aI x4, aI 1]) (ci := 10) d_M_laysBest_76 ok_M_forms lk_M_400 io_M_forms so_M_forms (by decide) rfl rfl rfl (Nat.le_of_ble_eq_true rfl) rfl (sf_42 hF4) (WM.mono h ?_)
    rintro _ σ5 ⟨rfl, hp, h⟩
    obtain ⟨hF5, h⟩ := h
    show WP E m_M_laysBest (d + 1) 79 [(0, aP 42), (3, aI x3), (4, aI x4)] [] σ5 Q
    refine s_aload_n 0 d_M_laysBest_79 rfl rfl ?_
    refine s_callV (as := []) (ci := 10) d_M_laysBest_80 ok_M_compares lk_M_403 io_M_compares so_M_compares (by decide) rfl rfl rfl (Nat.le_of_ble_eq_true rfl) rfl (sf_42 hF5) (WM.mono h ?_)
    rintro _ σ6 ⟨rfl, hp, h⟩
    show WP E m_M_laysBest (d + 1) 83 [(0, aP 42), (3, aI x3), (4, aI x4)] [] σ6 Q
    refine s_iinc 2 d_M_laysBest_83 rfl (by decide) rfl ?_
    refine s_goto d_M_laysBest_86 rfl ?_
    refine wp_drop [1, 2, 0] rfl ?_
    exact h
theorem d_M_laysAllForms_0 : decode m_M_laysAllForms.2.1 0 = .ok (.aload_n 0, 1) := by decide +kernel
theorem d_M_laysAllForms_1 : decode m_M_laysAllForms.2.1 1 = .ok (.getfield 97, 3) := by decide +kernel
theorem d_M_laysAllForms_4 : decode m_M_laysAllForms.2.1 4 = .ok (.iconst 2, 1) := by decide +kernel
theorem d_M_laysAllForms_5 : decode m_M_laysAllForms.2.1 5 = .ok (.iaload, 1) := by decide +kernel
theorem d_M_laysAllForms_6 : decode m_M_laysAllForms.2.1 6 = .ok (.ifCond .le 4, 3) := by decide +kernel
theorem d_M_laysAllForms_9 : decode m_M_laysAllForms.2.1 9 = .ok (.return_, 1) := by decide +kernel
theorem d_M_laysAllForms_10 : decode m_M_laysAllForms.2.1 10 = .ok (.iconst 2, 1) := by decide +kernel
theorem d_M_laysAllForms_11 : decode m_M_laysAllForms.2.1 11 = .ok (.istore_n 1, 1) := by decide +kernel
theorem d_M_laysAllForms_12 : decode m_M_laysAllForms.2.1 12 = .ok (.iload_n 1, 1) := by decide +kernel
theorem d_M_laysAllForms_13 : decode m_M_laysAllForms.2.1 13 = .ok (.bipush 6, 2) := by decide +kernel
theorem d_M_laysAllForms_15 : decode m_M_laysAllForms.2.1 15 = .ok (.if_icmp .gt 93, 3) := by decide +kernel
theorem d_M_laysAllForms_18 : decode m_M_laysAllForms.2.1 18 = .ok (.aload_n 0, 1) := by decide +kernel
theorem d_M_laysAllForms_19 : decode m_M_laysAllForms.2.1 19 = .ok (.getfield 100, 3) := by decide +kernel
theorem d_M_laysAllForms_22 : decode m_M_laysAllForms.2.1 22 = .ok (.iload_n 1, 1) := by decide +kernel
theorem d_M_laysAllForms_23 : decode m_M_laysAllForms.2.1 23 = .ok (.iload_n 1, 1) := by decide +kernel
theorem d_M_laysAllForms_24 : decode m_M_laysAllForms.2.1 24 = .ok (.iconst 2, 1) := by decide +kernel
theorem d_M_laysAllForms_25 : decode m_M_laysAllForms.2.1 25 = .ok (.if_icmp .ne 7, 3) := by decide +kernel
theorem d_M_laysAllForms_28 : decode m_M_laysAllForms.2.1 28 = .ok (.iconst 0, 1) := by decide +kernel
theorem d_M_laysAllForms_29 : decode m_M_laysAllForms.2.1 29 = .ok (.goto 20, 3) := by decide +kernel
theorem d_M_laysAllForms_32 : decode m_M_laysAllForms.2.1 32 = .ok (.aload_n 0, 1) := by decide +kernel
theorem d_M_laysAllForms_33 : decode m_M_laysAllForms.2.1 33 = .ok (.getfield 100, 3) := by decide +kernel
theorem d_M_laysAllForms_36 : decode m_M_laysAllForms.2.1 36 = .ok (.iload_n 1, 1) := by decide +kernel
theorem d_M_laysAllForms_37 : decode m_M_laysAllForms.2.1 37 = .ok (.iconst 1, 1) := by decide +kernel
theorem d_M_laysAllForms_38 : decode m_M_laysAllForms.2.1 38 = .ok (.isub, 1) := by decide +kernel
theorem d_M_laysAllForms_39 : decode m_M_laysAllForms.2.1 39 = .ok (.iaload, 1) := by decide +kernel
theorem d_M_laysAllForms_40 : decode m_M_laysAllForms.2.1 40 = .ok (.aload_n 0, 1) := by decide +kernel
theorem d_M_laysAllForms_41 : decode m_M_laysAllForms.2.1 41 = .ok (.getfield 97, 3) := by decide +kernel
theorem d_M_laysAllForms_44 : decode m_M_laysAllForms.2.1 44 = .ok (.iload_n 1, 1) := by decide +kernel
theorem d_M_laysAllForms_45 : decode m_M_laysAllForms.2.1 45 = .ok (.iconst 1, 1) := by decide +kernel
theorem d_M_laysAllForms_46 : decode m_M_laysAllForms.2.1 46 = .ok (.isub, 1) := by decide +kernel
theorem d_M_laysAllForms_47 : decode m_M_laysAllForms.2.1 47 = .ok (.iaload, 1) := by decide +kernel
theorem d_M_laysAllForms_48 : decode m_M_laysAllForms.2.1 48 = .ok (.iadd, 1) := by decide +kernel
theorem d_M_laysAllForms_49 : decode m_M_laysAllForms.2.1 49 = .ok (.iastore, 1) := by decide +kernel
theorem d_M_laysAllForms_50 : decode m_M_laysAllForms.2.1 50 = .ok (.iconst 1, 1) := by decide +kernel
theorem d_M_laysAllForms_51 : decode m_M_laysAllForms.2.1 51 = .ok (.istore_n 2, 1) := by decide +kernel
theorem d_M_laysAllForms_52 : decode m_M_laysAllForms.2.1 52 = .ok (.iload_n 2, 1) := by decide +kernel
theorem d_M_laysAllForms_53 : decode m_M_laysAllForms.2.1 53 = .ok (.iload_n 1, 1) := by decide +kernel
theorem d_M_laysAllForms_54 : decode m_M_laysAllForms.2.1 54 = .ok (.if_icmp .ge 48, 3) := by decide +kernel
theorem d_M_laysAllForms_57 : decode m_M_laysAllForms.2.1 57 = .ok (.iload_n 2, 1) := by decide +kernel
theorem d_M_laysAllForms_58 : decode m_M_laysAllForms.2.1 58 = .ok (.iconst 1, 1) := by decide +kernel
theorem d_M_laysAllForms_59 : decode m_M_laysAllForms.2.1 59 = .ok (.if_icmp .ne 7, 3) := by decide +kernel
theorem d_M_laysAllForms_62 : decode m_M_laysAllForms.2.1 62 = .ok (.iconst 1, 1) := by decide +kernel
theorem d_M_laysAllForms_63 : decode m_M_laysAllForms.2.1 63 = .ok (.goto 9, 3) := by decide +kernel
theorem d_M_laysAllForms_66 : decode m_M_laysAllForms.2.1 66 = .ok (.aload_n 0, 1) := by decide +kernel
theorem d_M_laysAllForms_67 : decode m_M_laysAllForms.2.1 67 = .ok (.getfield 97, 3) := by decide +kernel
theorem d_M_laysAllForms_70 : decode m_M_laysAllForms.2.1 70 = .ok (.iload_n 2, 1) := by decide +kernel
theorem d_M_laysAllForms_71 : decode m_M_laysAllForms.2.1 71 = .ok (.iaload, 1) := by decide +kernel
theorem d_M_laysAllForms_72 : decode m_M_laysAllForms.2.1 72 = .ok (.istore_n 3, 1) := by decide +kernel
theorem d_M_laysAllForms_73 : decode m_M_laysAllForms.2.1 73 = .ok (.iconst 0, 1) := by decide +kernel
theorem d_M_laysAllForms_74 : decode m_M_laysAllForms.2.1 74 = .ok (.istore 4, 2) := by decide +kernel
theorem d_M_laysAllForms_76 : decode m_M_laysAllForms.2.1 76 = .ok (.iload 4, 2) := by decide +kernel
theorem d_M_laysAllForms_78 : decode m_M_laysAllForms.2.1 78 = .ok (.iload_n 3, 1) := by decide +kernel
theorem d_M_laysAllForms_79 : decode m_M_laysAllForms.2.1 79 = .ok (.if_icmp .ge 17, 3) := by decide +kernel
theorem d_M_laysAllForms_82 : decode m_M_laysAllForms.2.1 82 = .ok (.aload_n 0, 1) := by decide +kernel
theorem d_M_laysAllForms_83 : decode m_M_laysAllForms.2.1 83 = .ok (.iload_n 1, 1) := by decide +kernel
theorem d_M_laysAllForms_84 : decode m_M_laysAllForms.2.1 84 = .ok (.iload_n 2, 1) := by decide +kernel
theorem d_M_laysAllForms_85 : decode m_M_laysAllForms.2.1 85 = .ok (.iload 4, 2) := by decide +kernel
theorem d_M_laysAllForms_87 : decode m_M_laysAllForms.2.1 87 = .ok (.invokevirtual 369, 3) := by decide +kernel
theorem d_M_laysAllForms_90 : decode m_M_laysAllForms.2.1 90 = .ok (.iinc 4 1, 3) := by decide +kernel
theorem d_M_laysAllForms_93 : decode m_M_laysAllForms.2.1 93 = .ok (.goto (-17), 3) := by decide +kernel
theorem d_M_laysAllForms_96 : decode m_M_laysAllForms.2.1 96 = .ok (.iinc 2 1, 3) := by decide +kernel
theorem d_M_laysAllForms_99 : decode m_M_laysAllForms.2.1 99 = .ok (.goto (-47), 3) := by decide +kernel
theorem d_M_laysAllForms_102 : decode m_M_laysAllForms.2.1 102 = .ok (.iinc 1 1, 3) := by decide +kernel
theorem d_M_laysAllForms_105 : decode m_M_laysAllForms.2.1 105 = .ok (.goto (-93), 3) := by decide +kernel
theorem d_M_laysAllForms_108 : decode m_M_laysAllForms.2.1 108 = .ok (.return_, 1) := by decide +kernel
theorem b_M_laysAllForms_0 {E : EV} {d : Nat} {Q : Option AV → St → Prop} {σ : St} (hF : Fix σ) (h : (rI (σ.1 70 2)) ∧ (((σ.1 70 2) ≤ 0 → WP E m_M_laysAllForms (d + 1) 12 [(0, aP 42), (1, aI 2)] [] σ Q) ∧ (¬ (σ.1 70 2) ≤ 0 → Q none σ))) : WP E m_M_laysAllForms (d + 1) 0 [(0, aP 42)] [] σ Q := by
  refine s_aload_n 0 d_M_laysAllForms_0 rfl rfl ?_
  refine s_getF (v := 70) d_M_laysAllForms_1 fl_M_97 rfl (sf_42 hF) (ff_55 hF) ?_
  refine s_iconst d_M_laysAllForms_4 ?_
  refine s_ialoadv (v := σ.1 70 2) d_M_laysAllForms_5 ⟨_, sf_70 hF, by decide, by decide, by decide⟩ rfl ?_
  obtain ⟨g1, h⟩ := h
  refine s_if_le d_M_laysAllForms_6 rfl g1 (fun c => ?_) (fun c => ?_)
  · have h := h.1 c
    refine s_iconst d_M_laysAllForms_10 ?_
    refine s_istore_n d_M_laysAllForms_11 rfl (by decide) rfl ?_
    refine wp_drop [1, 0] rfl ?_
    exact h
  · have h := h.2 c
    exact s_return d_M_laysAllForms_9 rfl h
theorem e_M_laysAllForms {E : EV} {d : Nat} {Q : Option AV → St → Prop} {σ : St} (hF : Fix σ) (h : (rI (σ.1 70 2)) ∧ (((σ.1 70 2) ≤ 0 → WP E m_M_laysAllForms (d + 1) 12 [(0, aP 42), (1, aI 2)] [] σ Q) ∧ (¬ (σ.1 70 2) ≤ 0 → Q none σ))) : WM E m_M_laysAllForms (d + 1) [aP 42] σ Q := s_meth (by decide) (Nat.le_of_ble_eq_true rfl) rfl (b_M_laysAllForms_0 hF h)
theorem b_M_laysAllForms_12 {E : EV} {d : Nat} {Q : Option AV → St → Prop} {σ : St} (x1 : Int) (hF : Fix σ) (h : (rI x1) ∧ ((6 < x1 → Q none σ) ∧ (¬ 6 < x1 → (rI x1) ∧ ((¬ x1 = 2 → (0 ≤ (x1 - 1) ∧ (x1 - 1) < 8) ∧ (0 ≤ (x1 - 1) ∧ (x1 - 1) < 7) ∧ WP E m_M_laysAllForms (d + 1) 49 [(0, aP 42), (1, aI x1)] [aI ((σ.1 71 (x1 - 1)) + (σ.1 70 (x1 - 1))), aI x1, aP 71] σ Q) ∧ (x1 = 2 → WP E m_M_laysAllForms (d + 1) 49 [(0, aP 42), (1, aI x1)] [aI 0, aI x1, aP 71] σ Q))))) : WP E m_M_laysAllForms (d + 1) 12 [(0, aP 42), (1, aI x1)] [] σ Q := by
  refine s_iload_n 1 d_M_laysAllForms_12 rfl rfl ?_
  refine s_bipush d_M_laysAllForms_13 (by decide) ?_
  obtain ⟨g1, h⟩ := h
  refine s_icmp_gt d_M_laysAllForms_15 rfl g1 (by decide) (fun c => ?_) (fun c => ?_)
  · have h := h.1 c
    exact s_return d_M_laysAllForms_108 rfl h
  · have h := h.2 c
    refine s_aload_n 0 d_M_laysAllForms_18 rfl rfl ?_
    refine s_getF (v := 71) d_M_laysAllForms_19 fl_M_100 rfl (sf_42 hF) (ff_56 hF) ?_
    refine s_iload_n 1 d_M_laysAllForms_22 rfl rfl ?_
    refine s_iload_n 1 d_M_laysAllForms_23 rfl rfl ?_
    refine s_iconst d_M_laysAllForms_24 ?_
    obtain ⟨g2, h⟩ := h
    refine s_icmp_ne d_M_laysAllForms_25 rfl g2 (by decide) (fun c => ?_) (fun c => ?_)
    · have h := h.1 c
      refine s_aload_n 0 d_M_laysAllForms_32 rfl rfl ?_
      refine s_getF (v := 71) d_M_laysAllForms_33 fl_M_100 rfl (sf_42 hF) (ff_56 hF) ?_
      refine s_iload_n 1 d_M_laysAllForms_36 rfl rfl ?_
      refine s_iconst d_M_laysAllForms_37 ?_
      refine s_isub d_M_laysAllForms_38 ?_
      obtain ⟨g3, h⟩ := h
      refine s_ialoadv (v := σ.1 71 (x1 - 1)) d_M_laysAllForms_39 ⟨_, sf_71 hF, g3.1, g3.2, by have := g3.2; omega⟩ rfl ?_
      refine s_aload_n 0 d_M_laysAllForms_40 rfl rfl ?_
      refine s_getF (v := 70) d_M_laysAllForms_41 fl_M_97 rfl (sf_42 hF) (ff_55 hF) ?_
      refine s_iload_n 1 d_M_laysAllForms_44 rfl rfl ?_
      refine s_iconst d_M_laysAllForms_45 ?_
      refine s_isub d_M_laysAllForms_46 ?_
      obtain ⟨g4, h⟩ := h
      refine s_ialoadv (v := σ.1 70 (x1 - 1)) d_M_laysAllForms_47 ⟨_, sf_70 hF, g4.1, g4.2, by have := g4.2; omega⟩ rfl ?_
      refine s_iadd d_M_laysAllForms_48 ?_
      exact h
    · have h := h.2 c
      refine s_iconst d_M_laysAllForms_28 ?_
      refine s_goto d_M_laysAllForms_29 rfl ?_
      exact h
theorem b_M_laysAllForms_49 {E : EV} {d : Nat} {Q : Option AV → St → Prop} {σ : St} (x1 s0 s1 s2 : Int) (h : (inb σ s0 20 s1) ∧ WP E m_M_laysAllForms (d + 1) 52 [(0, aP 42), (1, aI x1), (2, aI 1)] [] (wr σ s0 s1 s2) Q) : WP E m_M_laysAllForms (d + 1) 49 [(0, aP 42), (1, aI x1)] [aI s2, aI s1, aP s0] σ Q := by
  obtain ⟨g1, h⟩ := h
  refine s_iastore d_M_laysAllForms_49 g1 ?_
  refine s_iconst d_M_laysAllForms_50 ?_
  refine s_istore_n d_M_laysAllForms_51 rfl (by decide) rfl ?_
  refine wp_drop [1, 2, 0] rfl ?_
  exact h
theorem b_M_laysAllForms_52 {E : EV} {d : Nat} {Q : Option AV → St → Prop} {σ : St} (x1 x2 : Int) (hF : Fix σ) (h : (rI x2) ∧ (rI x1) ∧ ((x1 ≤ x2 → WP E m_M_laysAllForms (d + 1) 12 [(0, aP 42), (1, aI (x1 + 1))] [] σ Q) ∧ (¬ x1 ≤ x2 → (rI x2) ∧ ((¬ x2 = 1 → (0 ≤ x2 ∧ x2 < 7) ∧ WP E m_M_laysAllForms (d + 1) 72 [(0, aP 42), (1, aI x1), (2, aI x2)] [aI (σ.1 70 x2)] σ Q) ∧ (x2 = 1 → WP E m_M_laysAllForms (d + 1) 72 [(0, aP 42), (1, aI x1), (2, aI x2)] [aI 1] σ Q))))) : WP E m_M_laysAllForms (d + 1) 52 [(0, aP 42), (1, aI x1), (2, aI x2)] [] σ Q := by
  refine s_iload_n 2 d_M_laysAllForms_52 rfl rfl ?_
  refine s_iload_n 1 d_M_laysAllForms_53 rfl rfl ?_
  obtain ⟨g1, h⟩ := h
  obtain ⟨g2, h⟩ := h
  refine s_icmp_ge d_M_laysAllForms_54 rfl g1 g2 (fun c => ?_) (fun c => ?_)
  · have h := h.1 c
    refine s_iinc 1 d_M_laysAllForms_102 rfl (by decide) rfl ?_
    refine s_goto d_M_laysAllForms_105 rfl ?_
    refine wp_drop [1, 0] rfl ?_
    exact h
  · have h := h.2 c
    refine s_iload_n 2 d_M_laysAllForms_57 rfl rfl ?_
    refine s_iconst d_M_laysAllForms_58 ?_
    obtain ⟨g3, h⟩ := h
    refine s_icmp_ne d_M_laysAllForms_59 rfl g3 (by decide) (fun c => ?_) (fun c => ?_)
    · have h := h.1 c
      refine s_aload_n 0 d_M_laysAllForms_66 rfl rfl ?_
      refine s_getF (v := 70) d_M_laysAllForms_67 fl_M_97 rfl (sf_42 hF) (ff_55 hF) ?_
      refine s_iload_n 2 d_M_laysAllForms_70 rfl rfl ?_
      obtain ⟨g4, h⟩ := h
      refine s_ialoadv (v := σ.1 70 x2) d_M_laysAllForms_71 ⟨_, sf_70 hF, g4.1, g4.2, by have := g4.2; omega⟩ rfl ?_
      exact h
    · have h := h.2 c
      refine s_iconst d_M_laysAllForms_62 ?_
      refine s_goto d_M_laysAllForms_63 rfl ?_
      exact h
theorem b_M_laysAllForms_72 {E : EV} {d : Nat} {Q : Option AV → St → Prop} {σ : St} (x1 x2 s0 : Int) (h : WP E m_M_laysAllForms (d + 1) 76 [(0, aP 42), (1, aI x1), (2, aI x2), (3, aI s0), (4, aI 0)] [] σ Q) : WP E m_M_laysAllForms (d + 1) 72 [(0, aP 42), (1, aI x1), (2, aI x2)] [aI s0] σ Q := by
  refine s_istore_n d_M_laysAllForms_72 rfl (by decide) rfl ?_
  refine s_iconst d_M_laysAllForms_73 ?_
  refine s_istore d_M_laysAllForms_74 (by decide) rfl ?_
  refine wp_drop [2, 3, 4, 1, 0] rfl ?_
  exact h
theorem b_M_laysAllForms_76 {E : EV} {d : Nat} {Q : Option AV → St → Prop} {σ : St} (x1 x2 x3 x4 : Int) (hF : Fix σ) (h : (rI x4) ∧ (rI x3) ∧ ((x3 ≤ x4 → WP E m_M_laysAllForms (d + 1) 52 [(0, aP 42), (1, aI x1), (2, aI (x2 + 1))] [] σ Q) ∧ (¬ x3 ≤ x4 → (WMv E m_M_laysForms d [aP 42, aI x1, aI x2, aI x4] σ (fun σ3 => WP E m_M_laysAllForms (d + 1) 76 [(0, aP 42), (1, aI x1), (2, aI x2), (3, aI x3), (4, aI (x4 + 1))] [] σ3 Q))))) : WP E m_M_laysAllForms (d + 1) 76 [(0, aP 42), (1, aI x1), (2, aI x2), (3, aI x3), (4, aI x4)] [] σ Q := by
  refine s_iload 4 d_M_laysAllForms_76 rfl ?_
  refine s_iload_n 3 d_M_laysAllForms_78 rfl rfl ?_
  obtain ⟨g1, h⟩ := h
  obtain ⟨g2, h⟩ := h
  refine s_icmp_ge d_M_laysAllForms_79 rfl g1 g2 (fun c => ?_) (fun c => ?_)
  · have h := h.1 c
    refine s_iinc 2 d_M_laysAllForms_96 rfl (by decide) rfl ?_
    refine s_goto d_M_laysAllForms_99 rfl ?_
    refine wp_drop [1, 2, 0] rfl ?_
    exact h
  · have h := h.2 c
    refine s_aload_n 0 d_M_laysAllForms_82 rfl rfl ?_
    refine s_iload_n 1 d_M_laysAllForms_83 rfl rfl ?_
    refine s_iload_n 2 d_M_laysAllForms_84 rfl rfl ?_
    refine s_iload 4 d_M_laysAllForms_85 rfl ?_
    refine s_callV (as := [aI x1, aI x2, aI x4]) (ci := 10) d_M_laysAllForms_87 ok_M_laysForms lk_M_369 io_M_laysForms so_M_laysForms (by decide) rfl rfl rfl (Nat.le_of_ble_eq_true rfl) rfl (sf_42 hF) (WM.mono h ?_)
    rintro _ σ3 ⟨rfl, hp, h⟩
    show WP E m_M_laysAllForms (d + 1) 90 [(0, aP 42), (1, aI x1), (2, aI x2), (3, aI x3), (4, aI x4)] [] σ3 Q
    refine s_iinc 4 d_M_laysAllForms_90 rfl (by decide) rfl ?_
    refine s_goto d_M_laysAllForms_93 rfl ?_
    refine wp_drop [1, 2, 3, 4, 0] rfl ?_
    exact h
theorem d_M_laysForms_0 : decode m_M_laysForms.2.1 0 = .ok (.iload_n 1, 1) := by decide +kernel
theorem d_M_laysForms_1 : decode m_M_laysForms.2.1 1 = .ok (.iload_n 2, 1) := by decide +kernel
theorem d_M_laysForms_2 : decode m_M_laysForms.2.1 2 = .ok (.isub, 1) := by decide +kernel
theorem d_M_laysForms_3 : decode m_M_laysForms.2.1 3 = .ok (.istore 4, 2) := by decide +kernel
theorem d_M_laysForms_5 : decode m_M_laysForms.2.1 5 = .ok (.iload 4, 2) := by decide +kernel
theorem d_M_laysForms_7 : decode m_M_laysForms.2.1 7 = .ok (.iconst 1, 1) := by decide +kernel
theorem d_M_laysForms_8 : decode m_M_laysForms.2.1 8 = .ok (.if_icmp .ne 7, 3) := by decide +kernel
theorem d_M_laysForms_11 : decode m_M_laysForms.2.1 11 = .ok (.iconst 1, 1) := by decide +kernel
theorem d_M_laysForms_12 : decode m_M_laysForms.2.1 12 = .ok (.goto 10, 3) := by decide +kernel
theorem d_M_laysForms_15 : decode m_M_laysForms.2.1 15 = .ok (.aload_n 0, 1) := by decide +kernel
theorem d_M_laysForms_16 : decode m_M_laysForms.2.1 16 = .ok (.getfield 97, 3) := by decide +kernel
theorem d_M_laysForms_19 : decode m_M_laysForms.2.1 19 = .ok (.iload 4, 2) := by decide +kernel
theorem d_M_laysForms_21 : decode m_M_laysForms.2.1 21 = .ok (.iaload, 1) := by decide +kernel
theorem d_M_laysForms_22 : decode m_M_laysForms.2.1 22 = .ok (.istore 5, 2) := by decide +kernel
theorem d_M_laysForms_24 : decode m_M_laysForms.2.1 24 = .ok (.iconst 0, 1) := by decide +kernel
theorem d_M_laysForms_25 : decode m_M_laysForms.2.1 25 = .ok (.istore 6, 2) := by decide +kernel
theorem d_M_laysForms_27 : decode m_M_laysForms.2.1 27 = .ok (.iload 6, 2) := by decide +kernel
theorem d_M_laysForms_29 : decode m_M_laysForms.2.1 29 = .ok (.iload 5, 2) := by decide +kernel
theorem d_M_laysForms_31 : decode m_M_laysForms.2.1 31 = .ok (.if_icmp .ge 127, 3) := by decide +kernel
theorem d_M_laysForms_34 : decode m_M_laysForms.2.1 34 = .ok (.iconst 0, 1) := by decide +kernel
theorem d_M_laysForms_35 : decode m_M_laysForms.2.1 35 = .ok (.istore 7, 2) := by decide +kernel
theorem d_M_laysForms_37 : decode m_M_laysForms.2.1 37 = .ok (.iload 7, 2) := by decide +kernel
theorem d_M_laysForms_39 : decode m_M_laysForms.2.1 39 = .ok (.iload 4, 2) := by decide +kernel
theorem d_M_laysForms_41 : decode m_M_laysForms.2.1 41 = .ok (.iconst 1, 1) := by decide +kernel
theorem d_M_laysForms_42 : decode m_M_laysForms.2.1 42 = .ok (.if_icmp .ne 7, 3) := by decide +kernel
theorem d_M_laysForms_45 : decode m_M_laysForms.2.1 45 = .ok (.iconst 1, 1) := by decide +kernel
theorem d_M_laysForms_46 : decode m_M_laysForms.2.1 46 = .ok (.goto 4, 3) := by decide +kernel
theorem d_M_laysForms_49 : decode m_M_laysForms.2.1 49 = .ok (.iconst 2, 1) := by decide +kernel
theorem d_M_laysForms_50 : decode m_M_laysForms.2.1 50 = .ok (.if_icmp .ge 102, 3) := by decide +kernel
theorem d_M_laysForms_53 : decode m_M_laysForms.2.1 53 = .ok (.aload_n 0, 1) := by decide +kernel
theorem d_M_laysForms_54 : decode m_M_laysForms.2.1 54 = .ok (.invokevirtual 293, 3) := by decide +kernel
theorem d_M_laysForms_57 : decode m_M_laysForms.2.1 57 = .ok (.aload_n 0, 1) := by decide +kernel
theorem d_M_laysForms_58 : decode m_M_laysForms.2.1 58 = .ok (.sipush 200, 3) := by decide +kernel
theorem d_M_laysForms_61 : decode m_M_laysForms.2.1 61 = .ok (.invokevirtual 195, 3) := by decide +kernel
theorem d_M_laysForms_64 : decode m_M_laysForms.2.1 64 = .ok (.aload_n 0, 1) := by decide +kernel
theorem d_M_laysForms_65 : decode m_M_laysForms.2.1 65 = .ok (.iload_n 2, 1) := by decide +kernel
theorem d_M_laysForms_66 : decode m_M_laysForms.2.1 66 = .ok (.iload_n 3, 1) := by decide +kernel
theorem d_M_laysForms_67 : decode m_M_laysForms.2.1 67 = .ok (.iconst 0, 1) := by decide +kernel
theorem d_M_laysForms_68 : decode m_M_laysForms.2.1 68 = .ok (.iconst 1, 1) := by decide +kernel
theorem d_M_laysForms_69 : decode m_M_laysForms.2.1 69 = .ok (.iconst 0, 1) := by decide +kernel
theorem d_M_laysForms_70 : decode m_M_laysForms.2.1 70 = .ok (.invokevirtual 362, 3) := by decide +kernel
theorem d_M_laysForms_73 : decode m_M_laysForms.2.1 73 = .ok (.iload 7, 2) := by decide +kernel
theorem d_M_laysForms_75 : decode m_M_laysForms.2.1 75 = .ok (.ifCond .ne 17, 3) := by decide +kernel
theorem d_M_laysForms_78 : decode m_M_laysForms.2.1 78 = .ok (.aload_n 0, 1) := by decide +kernel
theorem d_M_laysForms_79 : decode m_M_laysForms.2.1 79 = .ok (.iload 4, 2) := by decide +kernel
theorem d_M_laysForms_81 : decode m_M_laysForms.2.1 81 = .ok (.iload 6, 2) := by decide +kernel
theorem d_M_laysForms_83 : decode m_M_laysForms.2.1 83 = .ok (.iload_n 2, 1) := by decide +kernel
theorem d_M_laysForms_84 : decode m_M_laysForms.2.1 84 = .ok (.iconst 1, 1) := by decide +kernel
theorem d_M_laysForms_85 : decode m_M_laysForms.2.1 85 = .ok (.iconst 0, 1) := by decide +kernel
theorem d_M_laysForms_86 : decode m_M_laysForms.2.1 86 = .ok (.invokevirtual 362, 3) := by decide +kernel
theorem d_M_laysForms_89 : decode m_M_laysForms.2.1 89 = .ok (.goto 14, 3) := by decide +kernel
theorem d_M_laysForms_92 : decode m_M_laysForms.2.1 92 = .ok (.aload_n 0, 1) := by decide +kernel
theorem d_M_laysForms_93 : decode m_M_laysForms.2.1 93 = .ok (.iload 4, 2) := by decide +kernel
theorem d_M_laysForms_95 : decode m_M_laysForms.2.1 95 = .ok (.iload 6, 2) := by decide +kernel
theorem d_M_laysForms_97 : decode m_M_laysForms.2.1 97 = .ok (.iload_n 2, 1) := by decide +kernel
theorem d_M_laysForms_98 : decode m_M_laysForms.2.1 98 = .ok (.iconst 0, 1) := by decide +kernel
theorem d_M_laysForms_99 : decode m_M_laysForms.2.1 99 = .ok (.iconst 1, 1) := by decide +kernel
theorem d_M_laysForms_100 : decode m_M_laysForms.2.1 100 = .ok (.invokevirtual 362, 3) := by decide +kernel
theorem d_M_laysForms_103 : decode m_M_laysForms.2.1 103 = .ok (.iload 7, 2) := by decide +kernel
theorem d_M_laysForms_105 : decode m_M_laysForms.2.1 105 = .ok (.ifCond .ne 7, 3) := by decide +kernel
theorem d_M_laysForms_108 : decode m_M_laysForms.2.1 108 = .ok (.iconst 2, 1) := by decide +kernel
theorem d_M_laysForms_109 : decode m_M_laysForms.2.1 109 = .ok (.goto 28, 3) := by decide +kernel
theorem d_M_laysForms_112 : decode m_M_laysForms.2.1 112 = .ok (.iconst 1, 1) := by decide +kernel
theorem d_M_laysForms_113 : decode m_M_laysForms.2.1 113 = .ok (.aload_n 0, 1) := by decide +kernel
theorem d_M_laysForms_114 : decode m_M_laysForms.2.1 114 = .ok (.getfield 94, 3) := by decide +kernel
theorem d_M_laysForms_117 : decode m_M_laysForms.2.1 117 = .ok (.bipush 12, 2) := by decide +kernel
theorem d_M_laysForms_119 : decode m_M_laysForms.2.1 119 = .ok (.aload_n 0, 1) := by decide +kernel
theorem d_M_laysForms_120 : decode m_M_laysForms.2.1 120 = .ok (.getfield 100, 3) := by decide +kernel
theorem d_M_laysForms_123 : decode m_M_laysForms.2.1 123 = .ok (.iload 4, 2) := by decide +kernel
theorem d_M_laysForms_125 : decode m_M_laysForms.2.1 125 = .ok (.iaload, 1) := by decide +kernel
theorem d_M_laysForms_126 : decode m_M_laysForms.2.1 126 = .ok (.iload 6, 2) := by decide +kernel
theorem d_M_laysForms_128 : decode m_M_laysForms.2.1 128 = .ok (.iadd, 1) := by decide +kernel
theorem d_M_laysForms_129 : decode m_M_laysForms.2.1 129 = .ok (.imul, 1) := by decide +kernel
theorem d_M_laysForms_130 : decode m_M_laysForms.2.1 130 = .ok (.iconst 1, 1) := by decide +kernel
theorem d_M_laysForms_131 : decode m_M_laysForms.2.1 131 = .ok (.iadd, 1) := by decide +kernel
theorem d_M_laysForms_132 : decode m_M_laysForms.2.1 132 = .ok (.iaload, 1) := by decide +kernel
theorem d_M_laysForms_133 : decode m_M_laysForms.2.1 133 = .ok (.bipush 100, 2) := by decide +kernel
theorem d_M_laysForms_135 : decode m_M_laysForms.2.1 135 = .ok (.irem, 1) := by decide +kernel
theorem d_M_laysForms_136 : decode m_M_laysForms.2.1 136 = .ok (.iadd, 1) := by decide +kernel
theorem d_M_laysForms_137 : decode m_M_laysForms.2.1 137 = .ok (.istore 8, 2) := by decide +kernel
theorem d_M_laysForms_139 : decode m_M_laysForms.2.1 139 = .ok (.aload_n 0, 1) := by decide +kernel
theorem d_M_laysForms_140 : decode m_M_laysForms.2.1 140 = .ok (.iload_n 1, 1) := by decide +kernel
theorem d_M_laysForms_141 : decode m_M_laysForms.2.1 141 = .ok (.iload 8, 2) := by decide +kernel
theorem d_M_laysForms_143 : decode m_M_laysForms.2.1 143 = .ok (.invokevirtual 366, 3) := by decide +kernel
theorem d_M_laysForms_146 : decode m_M_laysForms.2.1 146 = .ok (.iinc 7 1, 3) := by decide +kernel
theorem d_M_laysForms_149 : decode m_M_laysForms.2.1 149 = .ok (.goto (-112), 3) := by decide +kernel
theorem d_M_laysForms_152 : decode m_M_laysForms.2.1 152 = .ok (.iinc 6 1, 3) := by decide +kernel
theorem d_M_laysForms_155 : decode m_M_laysForms.2.1 155 = .ok (.goto (-128), 3) := by decide +kernel
theorem d_M_laysForms_158 : decode m_M_laysForms.2.1 158 = .ok (.return_, 1) := by decide +kernel
theorem b_M_laysForms_0 {E : EV} {d : Nat} {Q : Option AV → St → Prop} {σ : St} (x1 x2 x3 : Int) (hF : Fix σ) (h : (rI (x1 - x2)) ∧ ((¬ (x1 - x2) = 1 → (0 ≤ (x1 - x2) ∧ (x1 - x2) < 7) ∧ WP E m_M_laysForms (d + 1) 22 [(0, aP 42), (1, aI x1), (2, aI x2), (3, aI x3), (4, aI (x1 - x2))] [aI (σ.1 70 (x1 - x2))] σ Q) ∧ ((x1 - x2) = 1 → WP E m_M_laysForms (d + 1) 22 [(0, aP 42), (1, aI x1), (2, aI x2), (3, aI x3), (4, aI (x1 - x2))] [aI 1] σ Q))) : WP E m_M_laysForms (d + 1) 0 [(0, aP 42), (1, aI x1), (2, aI x2), (3, aI x3)] [] σ Q := by
  refine s_iload_n 1 d_M_laysForms_0 rfl rfl ?_
  refine s_iload_n 2 d_M_laysForms_1 rfl rfl ?_
  refine s_isub d_M_laysForms_2 ?_
  refine s_istore d_M_laysForms_3 (by decide) rfl ?_
  refine s_iload 0 d_M_laysForms_5 rfl ?_
  refine s_iconst d_M_laysForms_7 ?_
  obtain ⟨g1, h⟩ := h
  refine s_icmp_ne d_M_laysForms_8 rfl g1 (by decide) (fun c => ?_) (fun c => ?_)
  · have h := h.1 c
    refine s_aload_n 1 d_M_laysForms_15 rfl rfl ?_
    refine s_getF (v := 70) d_M_laysForms_16 fl_M_97 rfl (sf_42 hF) (ff_55 hF) ?_
    refine s_iload 0 d_M_laysForms_19 rfl ?_
    obtain ⟨g2, h⟩ := h
    refine s_ialoadv (v := σ.1 70 (x1 - x2)) d_M_laysForms_21 ⟨_, sf_70 hF, g2.1, g2.2, by have := g2.2; omega⟩ rfl ?_
    refine wp_drop [1, 2, 3, 4, 0] rfl ?_
    exact h
  · have h := h.2 c
    refine s_iconst d_M_laysForms_11 ?_
    refine s_goto d_M_laysForms_12 rfl ?_
    refine wp_drop [1, 2, 3, 4, 0] rfl ?_
    exact h
theorem e_M_laysForms {E : EV} {d : Nat} {Q : Option AV → St → Prop} {σ : St} (x1 x2 x3 : Int) (hF : Fix σ) (h : (rI (x1 - x2)) ∧ ((¬ (x1 - x2) = 1 → (0 ≤ (x1 - x2) ∧ (x1 - x2) < 7) ∧ WP E m_M_laysForms (d + 1) 22 [(0, aP 42), (1, aI x1), (2, aI x2), (3, aI x3), (4, aI (x1 - x2))] [aI (σ.1 70 (x1 - x2))] σ Q) ∧ ((x1 - x2) = 1 → WP E m_M_laysForms (d + 1) 22 [(0, aP 42), (1, aI x1), (2, aI x2), (3, aI x3), (4, aI (x1 - x2))] [aI 1] σ Q))) : WM E m_M_laysForms (d + 1) [aP 42, aI x1, aI x2, aI x3] σ Q := s_meth (by decide) (Nat.le_of_ble_eq_true rfl) rfl (b_M_laysForms_0 x1 x2 x3 hF h)
theorem b_M_laysForms_22 {E : EV} {d : Nat} {Q : Option AV → St → Prop} {σ : St} (x1 x2 x3 x4 s0 : Int) (h : WP E m_M_laysForms (d + 1) 27 [(0, aP 42), (1, aI x1), (2, aI x2), (3, aI x3), (4, aI x4), (5, aI s0), (6, aI 0)] [] σ Q) : WP E m_M_laysForms (d + 1) 22 [(0, aP 42), (1, aI x1), (2, aI x2), (3, aI x3), (4, aI x4)] [aI s0] σ Q := by
  refine s_istore d_M_laysForms_22 (by decide) rfl ?_
  refine s_iconst d_M_laysForms_24 ?_
  refine s_istore d_M_laysForms_25 (by decide) rfl ?_
  refine wp_drop [2, 3, 4, 5, 6, 1, 0] rfl ?_
  exact h
theorem b_M_laysForms_27 {E : EV} {d : Nat} {Q : Option AV → St → Prop} {σ : St} (x1 x2 x3 x4 x5 x6 : Int) (h : (rI x6) ∧ (rI x5) ∧ ((x5 ≤ x6 → Q none σ) ∧ (¬ x5 ≤ x6 → WP E m_M_laysForms (d + 1) 37 [(0, aP 42), (1, aI x1), (2, aI x2), (3, aI x3), (4, aI x4), (5, aI x5), (6, aI x6), (7, aI 0)] [] σ Q))) : WP E m_M_laysForms (d + 1) 27 [(0, aP 42), (1, aI x1), (2, aI x2), (3, aI x3), (4, aI x4), (5, aI x5), (6, aI x6)] [] σ Q := by
  refine s_iload 6 d_M_laysForms_27 rfl ?_
  refine s_iload 5 d_M_laysForms_29 rfl ?_
  obtain ⟨g1, h⟩ := h
  obtain ⟨g2, h⟩ := h
  refine s_icmp_ge d_M_laysForms_31 rfl g1 g2 (fun c => ?_) (fun c => ?_)
  · have h := h.1 c
    exact s_return d_M_laysForms_158 rfl h
  · have h := h.2 c
    refine s_iconst d_M_laysForms_34 ?_
    refine s_istore d_M_laysForms_35 (by decide) rfl ?_
    refine wp_drop [1, 2, 3, 4, 5, 6, 7, 0] rfl ?_
    exact h
theorem b_M_laysForms_37 {E : EV} {d : Nat} {Q : Option AV → St → Prop} {σ : St} (x1 x2 x3 x4 x5 x6 x7 : Int) (h : (rI x4) ∧ ((¬ x4 = 1 → WP E m_M_laysForms (d + 1) 50 [(0, aP 42), (1, aI x1), (2, aI x2), (3, aI x3), (4, aI x4), (5, aI x5), (6, aI x6), (7, aI x7)] [aI 2, aI x7] σ Q) ∧ (x4 = 1 → WP E m_M_laysForms (d + 1) 50 [(0, aP 42), (1, aI x1), (2, aI x2), (3, aI x3), (4, aI x4), (5, aI x5), (6, aI x6), (7, aI x7)] [aI 1, aI x7] σ Q))) : WP E m_M_laysForms (d + 1) 37 [(0, aP 42), (1, aI x1), (2, aI x2), (3, aI x3), (4, aI x4), (5, aI x5), (6, aI x6), (7, aI x7)] [] σ Q := by
  refine s_iload 7 d_M_laysForms_37 rfl ?_
  refine s_iload 4 d_M_laysForms_39 rfl ?_
  refine s_iconst d_M_laysForms_41 ?_
  obtain ⟨g1, h⟩ := h
  refine s_icmp_ne d_M_laysForms_42 rfl g1 (by decide) (fun c => ?_) (fun c => ?_)
  · have h := h.1 c
    refine s_iconst d_M_laysForms_49 ?_
    exact h
  · have h := h.2 c
    refine s_iconst d_M_laysForms_45 ?_
    refine s_goto d_M_laysForms_46 rfl ?_
    exact h
theorem b_M_laysForms_50 {E : EV} {d : Nat} {Q : Option AV → St → Prop} {σ : St} (x1 x2 x3 x4 x5 x6 x7 s0 s1 : Int) (hF : Fix σ) (h : (rI s0) ∧ (rI s1) ∧ ((s1 ≤ s0 → WP E m_M_laysForms (d + 1) 27 [(0, aP 42), (1, aI x1), (2, aI x2), (3, aI x3), (4, aI x4), (5, aI x5), (6, aI (x6 + 1))] [] σ Q) ∧ (¬ s1 ≤ s0 → (WMv E m_M_opens d [aP 42] σ (fun σ3 => Fix σ3 ∧ (WMv E m_M_adds d [aP 42, aI 200] σ3 (fun σ4 => Fix σ4 ∧ (WMv E m_M_addsForm d [aP 42, aI x2, aI x3, aI 0, aI 1, aI 0] σ4 (fun σ5 => Fix σ5 ∧ (rI x7) ∧ ((¬ x7 = 0 → (WMv E m_M_addsForm d [aP 42, aI x4, aI x6, aI x2, aI 0, aI 1] σ5 (fun σ7 => WP E m_M_laysForms (d + 1) 103 [(0, aP 42), (1, aI x1), (2, aI x2), (3, aI x3), (4, aI x4), (5, aI x5), (6, aI x6), (7, aI x7)] [] σ7 Q))) ∧ (x7 = 0 → (WMv E m_M_addsForm d [aP 42, aI x4, aI x6, aI x2, aI 1, aI 0] σ5 (fun σ8 => WP E m_M_laysForms (d + 1) 103 [(0, aP 42), (1, aI x1), (2, aI x2), (3, aI x3), (4, aI x4), (5, aI x5), (6, aI x6), (7, aI x7)] [] σ8 Q))))))))))))) : WP E m_M_laysForms (d + 1) 50 [(0, aP 42), (1, aI x1), (2, aI x2), (3, aI x3), (4, aI x4), (5, aI x5), (6, aI x6), (7, aI x7)] [aI s1, aI s0] σ Q := by
  obtain ⟨g1, h⟩ := h
  obtain ⟨g2, h⟩ := h
  refine s_icmp_ge d_M_laysForms_50 rfl g1 g2 (fun c => ?_) (fun c => ?_)
  · have h := h.1 c
    refine s_iinc 6 d_M_laysForms_152 rfl (by decide) rfl ?_
    refine s_goto d_M_laysForms_155 rfl ?_
    refine wp_drop [1, 2, 3, 4, 5, 6, 0] rfl ?_
    exact h
  · have h := h.2 c
    refine s_aload_n 0 d_M_laysForms_53 rfl rfl ?_
    refine s_callV (as := []) (ci := 10) d_M_laysForms_54 ok_M_opens lk_M_293 io_M_opens so_M_opens (by decide) rfl rfl rfl (Nat.le_of_ble_eq_true rfl) rfl (sf_42 hF) (WM.mono h ?_)
    rintro _ σ3 ⟨rfl, hp, h⟩
    obtain ⟨hF3, h⟩ := h
    show WP E m_M_laysForms (d + 1) 57 [(0, aP 42), (1, aI x1), (2, aI x2), (3, aI x3), (4, aI x4), (5, aI x5), (6, aI x6), (7, aI x7)] [] σ3 Q
    refine s_aload_n 0 d_M_laysForms_57 rfl rfl ?_
    refine s_sipush d_M_laysForms_58 (by decide) ?_
    refine s_callV (as := [aI 200]) (ci := 10) d_M_laysForms_61 ok_M_adds lk_M_195 io_M_adds so_M_adds (by decide) rfl rfl rfl (Nat.le_of_ble_eq_true rfl) rfl (sf_42 hF3) (WM.mono h ?_)
    rintro _ σ4 ⟨rfl, hp, h⟩
    obtain ⟨hF4, h⟩ := h
    show WP E m_M_laysForms (d + 1) 64 [(0, aP 42), (1, aI x1), (2, aI x2), (3, aI x3), (4, aI x4), (5, aI x5), (6, aI x6), (7, aI x7)] [] σ4 Q
    refine s_aload_n 0 d_M_laysForms_64 rfl rfl ?_
    refine s_iload_n 2 d_M_laysForms_65 rfl rfl ?_
    refine s_iload_n 3 d_M_laysForms_66 rfl rfl ?_
    refine s_iconst d_M_laysForms_67 ?_
    refine s_iconst d_M_laysForms_68 ?_
    refine s_iconst d_M_laysForms_69 ?_
    refine s_callV (as := [aI x2, aI x3, aI 0, aI 1, aI 0]) (ci := 10) d_M_laysForms_70 ok_M_addsForm lk_M_362 io_M_addsForm so_M_addsForm (by decide) rfl rfl rfl (Nat.le_of_ble_eq_true rfl) rfl (sf_42 hF4) (WM.mono h ?_)
    rintro _ σ5 ⟨rfl, hp, h⟩
    obtain ⟨hF5, h⟩ := h
    show WP E m_M_laysForms (d + 1) 73 [(0, aP 42), (1, aI x1), (2, aI x2), (3, aI x3), (4, aI x4), (5, aI x5), (6, aI x6), (7, aI x7)] [] σ5 Q
    refine s_iload 7 d_M_laysForms_73 rfl ?_
    obtain ⟨g6, h⟩ := h
    refine s_if_ne d_M_laysForms_75 rfl g6 (fun c => ?_) (fun c => ?_)
    · have h := h.1 c
      refine s_aload_n 0 d_M_laysForms_92 rfl rfl ?_
      refine s_iload 4 d_M_laysForms_93 rfl ?_
      refine s_iload 6 d_M_laysForms_95 rfl ?_
      refine s_iload_n 2 d_M_laysForms_97 rfl rfl ?_
      refine s_iconst d_M_laysForms_98 ?_
      refine s_iconst d_M_laysForms_99 ?_
      refine s_callV (as := [aI x4, aI x6, aI x2, aI 0, aI 1]) (ci := 10) d_M_laysForms_100 ok_M_addsForm lk_M_362 io_M_addsForm so_M_addsForm (by decide) rfl rfl rfl (Nat.le_of_ble_eq_true rfl) rfl (sf_42 hF5) (WM.mono h ?_)
      rintro _ σ7 ⟨rfl, hp, h⟩
      show WP E m_M_laysForms (d + 1) 103 [(0, aP 42), (1, aI x1), (2, aI x2), (3, aI x3), (4, aI x4), (5, aI x5), (6, aI x6), (7, aI x7)] [] σ7 Q
      exact h
    · have h := h.2 c
      refine s_aload_n 0 d_M_laysForms_78 rfl rfl ?_
      refine s_iload 4 d_M_laysForms_79 rfl ?_
      refine s_iload 6 d_M_laysForms_81 rfl ?_
      refine s_iload_n 2 d_M_laysForms_83 rfl rfl ?_
      refine s_iconst d_M_laysForms_84 ?_
      refine s_iconst d_M_laysForms_85 ?_
      refine s_callV (as := [aI x4, aI x6, aI x2, aI 1, aI 0]) (ci := 10) d_M_laysForms_86 ok_M_addsForm lk_M_362 io_M_addsForm so_M_addsForm (by decide) rfl rfl rfl (Nat.le_of_ble_eq_true rfl) rfl (sf_42 hF5) (WM.mono h ?_)
      rintro _ σ8 ⟨rfl, hp, h⟩
      show WP E m_M_laysForms (d + 1) 89 [(0, aP 42), (1, aI x1), (2, aI x2), (3, aI x3), (4, aI x4), (5, aI x5), (6, aI x6), (7, aI x7)] [] σ8 Q
      refine s_goto d_M_laysForms_89 rfl ?_
      exact h
theorem b_M_laysForms_103 {E : EV} {d : Nat} {Q : Option AV → St → Prop} {σ : St} (x1 x2 x3 x4 x5 x6 x7 : Int) (hF : Fix σ) (h : (rI x7) ∧ ((¬ x7 = 0 → (0 ≤ x4 ∧ x4 < 8) ∧ (0 ≤ ((12 * ((σ.1 71 x4) + x6)) + 1) ∧ ((12 * ((σ.1 71 x4) + x6)) + 1) < 3084) ∧ (0 ≤ (σ.1 69 ((12 * ((σ.1 71 x4) + x6)) + 1)) ∧ (σ.1 69 ((12 * ((σ.1 71 x4) + x6)) + 1)) ≤ 2147483647) ∧ WP E m_M_laysForms (d + 1) 137 [(0, aP 42), (1, aI x1), (2, aI x2), (3, aI x3), (4, aI x4), (5, aI x5), (6, aI x6), (7, aI x7)] [aI (1 + ((σ.1 69 ((12 * ((σ.1 71 x4) + x6)) + 1)) % 100))] σ Q) ∧ (x7 = 0 → WP E m_M_laysForms (d + 1) 137 [(0, aP 42), (1, aI x1), (2, aI x2), (3, aI x3), (4, aI x4), (5, aI x5), (6, aI x6), (7, aI x7)] [aI 2] σ Q))) : WP E m_M_laysForms (d + 1) 103 [(0, aP 42), (1, aI x1), (2, aI x2), (3, aI x3), (4, aI x4), (5, aI x5), (6, aI x6), (7, aI x7)] [] σ Q := by
  refine s_iload 7 d_M_laysForms_103 rfl ?_
  obtain ⟨g1, h⟩ := h
  refine s_if_ne d_M_laysForms_105 rfl g1 (fun c => ?_) (fun c => ?_)
  · have h := h.1 c
    refine s_iconst d_M_laysForms_112 ?_
    refine s_aload_n 0 d_M_laysForms_113 rfl rfl ?_
    refine s_getF (v := 69) d_M_laysForms_114 fl_M_94 rfl (sf_42 hF) (ff_54 hF) ?_
    refine s_bipush d_M_laysForms_117 (by decide) ?_
    refine s_aload_n 0 d_M_laysForms_119 rfl rfl ?_
    refine s_getF (v := 71) d_M_laysForms_120 fl_M_100 rfl (sf_42 hF) (ff_56 hF) ?_
    refine s_iload 4 d_M_laysForms_123 rfl ?_
    obtain ⟨g2, h⟩ := h
    refine s_ialoadv (v := σ.1 71 x4) d_M_laysForms_125 ⟨_, sf_71 hF, g2.1, g2.2, by have := g2.2; omega⟩ rfl ?_
    refine s_iload 6 d_M_laysForms_126 rfl ?_
    refine s_iadd d_M_laysForms_128 ?_
    refine s_imul d_M_laysForms_129 ?_
    refine s_iconst d_M_laysForms_130 ?_
    refine s_iadd d_M_laysForms_131 ?_
    obtain ⟨g3, h⟩ := h
    refine s_ialoadv (v := σ.1 69 ((12 * ((σ.1 71 x4) + x6)) + 1)) d_M_laysForms_132 ⟨_, sf_69 hF, g3.1, g3.2, by have := g3.2; omega⟩ rfl ?_
    refine s_bipush d_M_laysForms_133 (by decide) ?_
    obtain ⟨g4, h⟩ := h
    refine s_irem d_M_laysForms_135 ⟨g4, by decide, by decide⟩ ?_
    refine s_iadd d_M_laysForms_136 ?_
    exact h
  · have h := h.2 c
    refine s_iconst d_M_laysForms_108 ?_
    refine s_goto d_M_laysForms_109 rfl ?_
    exact h
theorem b_M_laysForms_137 {E : EV} {d : Nat} {Q : Option AV → St → Prop} {σ : St} (x1 x2 x3 x4 x5 x6 x7 s0 : Int) (hF : Fix σ) (h : (WMv E m_M_keepsForm d [aP 42, aI x1, aI s0] σ (fun σ1 => WP E m_M_laysForms (d + 1) 37 [(0, aP 42), (1, aI x1), (2, aI x2), (3, aI x3), (4, aI x4), (5, aI x5), (6, aI x6), (7, aI (x7 + 1))] [] σ1 Q))) : WP E m_M_laysForms (d + 1) 137 [(0, aP 42), (1, aI x1), (2, aI x2), (3, aI x3), (4, aI x4), (5, aI x5), (6, aI x6), (7, aI x7)] [aI s0] σ Q := by
  refine s_istore d_M_laysForms_137 (by decide) rfl ?_
  refine s_aload_n 1 d_M_laysForms_139 rfl rfl ?_
  refine s_iload_n 2 d_M_laysForms_140 rfl rfl ?_
  refine s_iload 0 d_M_laysForms_141 rfl ?_
  refine s_callV (as := [aI x1, aI s0]) (ci := 10) d_M_laysForms_143 ok_M_keepsForm lk_M_366 io_M_keepsForm so_M_keepsForm (by decide) rfl rfl rfl (Nat.le_of_ble_eq_true rfl) rfl (sf_42 hF) (WM.mono h ?_)
  rintro _ σ1 ⟨rfl, hp, h⟩
  show WP E m_M_laysForms (d + 1) 146 [(8, aI s0), (0, aP 42), (1, aI x1), (2, aI x2), (3, aI x3), (4, aI x4), (5, aI x5), (6, aI x6), (7, aI x7)] [] σ1 Q
  refine s_iinc 8 d_M_laysForms_146 rfl (by decide) rfl ?_
  refine s_goto d_M_laysForms_149 rfl ?_
  refine wp_drop [2, 3, 4, 5, 6, 7, 8, 0] rfl ?_
  exact h
theorem d_M_addsForm_0 : decode m_M_addsForm.2.1 0 = .ok (.iload_n 1, 1) := by decide +kernel
theorem d_M_addsForm_1 : decode m_M_addsForm.2.1 1 = .ok (.iconst 1, 1) := by decide +kernel
theorem d_M_addsForm_2 : decode m_M_addsForm.2.1 2 = .ok (.if_icmp .ne 11, 3) := by decide +kernel
theorem d_M_addsForm_5 : decode m_M_addsForm.2.1 5 = .ok (.aload_n 0, 1) := by decide +kernel
theorem d_M_addsForm_6 : decode m_M_addsForm.2.1 6 = .ok (.iload_n 3, 1) := by decide +kernel
theorem d_M_addsForm_7 : decode m_M_addsForm.2.1 7 = .ok (.iconst 1, 1) := by decide +kernel
theorem d_M_addsForm_8 : decode m_M_addsForm.2.1 8 = .ok (.iadd, 1) := by decide +kernel
theorem d_M_addsForm_9 : decode m_M_addsForm.2.1 9 = .ok (.invokevirtual 195, 3) := by decide +kernel
theorem d_M_addsForm_12 : decode m_M_addsForm.2.1 12 = .ok (.return_, 1) := by decide +kernel
theorem d_M_addsForm_13 : decode m_M_addsForm.2.1 13 = .ok (.bipush 12, 2) := by decide +kernel
theorem d_M_addsForm_15 : decode m_M_addsForm.2.1 15 = .ok (.aload_n 0, 1) := by decide +kernel
theorem d_M_addsForm_16 : decode m_M_addsForm.2.1 16 = .ok (.getfield 100, 3) := by decide +kernel
theorem d_M_addsForm_19 : decode m_M_addsForm.2.1 19 = .ok (.iload_n 1, 1) := by decide +kernel
theorem d_M_addsForm_20 : decode m_M_addsForm.2.1 20 = .ok (.iaload, 1) := by decide +kernel
theorem d_M_addsForm_21 : decode m_M_addsForm.2.1 21 = .ok (.iload_n 2, 1) := by decide +kernel
theorem d_M_addsForm_22 : decode m_M_addsForm.2.1 22 = .ok (.iadd, 1) := by decide +kernel
theorem d_M_addsForm_23 : decode m_M_addsForm.2.1 23 = .ok (.imul, 1) := by decide +kernel
theorem d_M_addsForm_24 : decode m_M_addsForm.2.1 24 = .ok (.istore 6, 2) := by decide +kernel
theorem d_M_addsForm_26 : decode m_M_addsForm.2.1 26 = .ok (.iconst 1, 1) := by decide +kernel
theorem d_M_addsForm_27 : decode m_M_addsForm.2.1 27 = .ok (.iload 5, 2) := by decide +kernel
theorem d_M_addsForm_29 : decode m_M_addsForm.2.1 29 = .ok (.iadd, 1) := by decide +kernel
theorem d_M_addsForm_30 : decode m_M_addsForm.2.1 30 = .ok (.istore 7, 2) := by decide +kernel
theorem d_M_addsForm_32 : decode m_M_addsForm.2.1 32 = .ok (.iload 7, 2) := by decide +kernel
theorem d_M_addsForm_34 : decode m_M_addsForm.2.1 34 = .ok (.aload_n 0, 1) := by decide +kernel
theorem d_M_addsForm_35 : decode m_M_addsForm.2.1 35 = .ok (.getfield 94, 3) := by decide +kernel
theorem d_M_addsForm_38 : decode m_M_addsForm.2.1 38 = .ok (.iload 6, 2) := by decide +kernel
theorem d_M_addsForm_40 : decode m_M_addsForm.2.1 40 = .ok (.iaload, 1) := by decide +kernel
theorem d_M_addsForm_41 : decode m_M_addsForm.2.1 41 = .ok (.if_icmp .gt 75, 3) := by decide +kernel
theorem d_M_addsForm_44 : decode m_M_addsForm.2.1 44 = .ok (.aload_n 0, 1) := by decide +kernel
theorem d_M_addsForm_45 : decode m_M_addsForm.2.1 45 = .ok (.getfield 94, 3) := by decide +kernel
theorem d_M_addsForm_48 : decode m_M_addsForm.2.1 48 = .ok (.iload 6, 2) := by decide +kernel
theorem d_M_addsForm_50 : decode m_M_addsForm.2.1 50 = .ok (.iload 7, 2) := by decide +kernel
theorem d_M_addsForm_52 : decode m_M_addsForm.2.1 52 = .ok (.iadd, 1) := by decide +kernel
theorem d_M_addsForm_53 : decode m_M_addsForm.2.1 53 = .ok (.iaload, 1) := by decide +kernel
theorem d_M_addsForm_54 : decode m_M_addsForm.2.1 54 = .ok (.istore 8, 2) := by decide +kernel
theorem d_M_addsForm_56 : decode m_M_addsForm.2.1 56 = .ok (.iload 8, 2) := by decide +kernel
theorem d_M_addsForm_58 : decode m_M_addsForm.2.1 58 = .ok (.invokestatic 199, 3) := by decide +kernel
theorem d_M_addsForm_61 : decode m_M_addsForm.2.1 61 = .ok (.ifCond .eq 14, 3) := by decide +kernel
theorem d_M_addsForm_64 : decode m_M_addsForm.2.1 64 = .ok (.aload_n 0, 1) := by decide +kernel
theorem d_M_addsForm_65 : decode m_M_addsForm.2.1 65 = .ok (.iload 8, 2) := by decide +kernel
theorem d_M_addsForm_67 : decode m_M_addsForm.2.1 67 = .ok (.iload_n 3, 1) := by decide +kernel
theorem d_M_addsForm_68 : decode m_M_addsForm.2.1 68 = .ok (.iadd, 1) := by decide +kernel
theorem d_M_addsForm_69 : decode m_M_addsForm.2.1 69 = .ok (.invokevirtual 195, 3) := by decide +kernel
theorem d_M_addsForm_72 : decode m_M_addsForm.2.1 72 = .ok (.goto 38, 3) := by decide +kernel
theorem d_M_addsForm_75 : decode m_M_addsForm.2.1 75 = .ok (.aload_n 0, 1) := by decide +kernel
theorem d_M_addsForm_76 : decode m_M_addsForm.2.1 76 = .ok (.iload 4, 2) := by decide +kernel
theorem d_M_addsForm_78 : decode m_M_addsForm.2.1 78 = .ok (.ifCond .ne 8, 3) := by decide +kernel
theorem d_M_addsForm_81 : decode m_M_addsForm.2.1 81 = .ok (.iload 8, 2) := by decide +kernel
theorem d_M_addsForm_83 : decode m_M_addsForm.2.1 83 = .ok (.goto 24, 3) := by decide +kernel
theorem d_M_addsForm_86 : decode m_M_addsForm.2.1 86 = .ok (.iload 8, 2) := by decide +kernel
theorem d_M_addsForm_88 : decode m_M_addsForm.2.1 88 = .ok (.sipush 300, 3) := by decide +kernel
theorem d_M_addsForm_91 : decode m_M_addsForm.2.1 91 = .ok (.if_icmp .ge 11, 3) := by decide +kernel
theorem d_M_addsForm_94 : decode m_M_addsForm.2.1 94 = .ok (.iload 8, 2) := by decide +kernel
theorem d_M_addsForm_96 : decode m_M_addsForm.2.1 96 = .ok (.bipush 100, 2) := by decide +kernel
theorem d_M_addsForm_98 : decode m_M_addsForm.2.1 98 = .ok (.iadd, 1) := by decide +kernel
theorem d_M_addsForm_99 : decode m_M_addsForm.2.1 99 = .ok (.goto 8, 3) := by decide +kernel
theorem d_M_addsForm_102 : decode m_M_addsForm.2.1 102 = .ok (.iload 8, 2) := by decide +kernel
theorem d_M_addsForm_104 : decode m_M_addsForm.2.1 104 = .ok (.bipush 100, 2) := by decide +kernel
theorem d_M_addsForm_106 : decode m_M_addsForm.2.1 106 = .ok (.isub, 1) := by decide +kernel
theorem d_M_addsForm_107 : decode m_M_addsForm.2.1 107 = .ok (.invokevirtual 195, 3) := by decide +kernel
theorem d_M_addsForm_110 : decode m_M_addsForm.2.1 110 = .ok (.iinc 7 1, 3) := by decide +kernel
theorem d_M_addsForm_113 : decode m_M_addsForm.2.1 113 = .ok (.goto (-81), 3) := by decide +kernel
theorem d_M_addsForm_116 : decode m_M_addsForm.2.1 116 = .ok (.return_, 1) := by decide +kernel
theorem b_M_addsForm_0 {E : EV} {d : Nat} {Q : Option AV → St → Prop} {σ : St} (x1 x2 x3 x4 x5 : Int) (hF : Fix σ) (h : (rI x1) ∧ ((¬ x1 = 1 → (0 ≤ x1 ∧ x1 < 8) ∧ WP E m_M_addsForm (d + 1) 32 [(0, aP 42), (3, aI x3), (4, aI x4), (6, aI (12 * ((σ.1 71 x1) + x2))), (7, aI (1 + x5))] [] σ Q) ∧ (x1 = 1 → (WMv E m_M_adds d [aP 42, aI (x3 + 1)] σ (fun σ3 => Q none σ3))))) : WP E m_M_addsForm (d + 1) 0 [(0, aP 42), (1, aI x1), (2, aI x2), (3, aI x3), (4, aI x4), (5, aI x5)] [] σ Q := by
  refine s_iload_n 1 d_M_addsForm_0 rfl rfl ?_
  refine s_iconst d_M_addsForm_1 ?_
  obtain ⟨g1, h⟩ := h
  refine s_icmp_ne d_M_addsForm_2 rfl g1 (by decide) (fun c => ?_) (fun c => ?_)
  · have h := h.1 c
    refine s_bipush d_M_addsForm_13 (by decide) ?_
    refine s_aload_n 0 d_M_addsForm_15 rfl rfl ?_
    refine s_getF (v := 71) d_M_addsForm_16 fl_M_100 rfl (sf_42 hF) (ff_56 hF) ?_
    refine s_iload_n 1 d_M_addsForm_19 rfl rfl ?_
    obtain ⟨g2, h⟩ := h
    refine s_ialoadv (v := σ.1 71 x1) d_M_addsForm_20 ⟨_, sf_71 hF, g2.1, g2.2, by have := g2.2; omega⟩ rfl ?_
    refine s_iload_n 2 d_M_addsForm_21 rfl rfl ?_
    refine s_iadd d_M_addsForm_22 ?_
    refine s_imul d_M_addsForm_23 ?_
    refine s_istore d_M_addsForm_24 (by decide) rfl ?_
    refine s_iconst d_M_addsForm_26 ?_
    refine s_iload 6 d_M_addsForm_27 rfl ?_
    refine s_iadd d_M_addsForm_29 ?_
    refine s_istore d_M_addsForm_30 (by decide) rfl ?_
    refine wp_drop [2, 5, 6, 1, 0] rfl ?_
    exact h
  · have h := h.2 c
    refine s_aload_n 0 d_M_addsForm_5 rfl rfl ?_
    refine s_iload_n 3 d_M_addsForm_6 rfl rfl ?_
    refine s_iconst d_M_addsForm_7 ?_
    refine s_iadd d_M_addsForm_8 ?_
    refine s_callV (as := [aI (x3 + 1)]) (ci := 10) d_M_addsForm_9 ok_M_adds lk_M_195 io_M_adds so_M_adds (by decide) rfl rfl rfl (Nat.le_of_ble_eq_true rfl) rfl (sf_42 hF) (WM.mono h ?_)
    rintro _ σ3 ⟨rfl, hp, h⟩
    show WP E m_M_addsForm (d + 1) 12 [(0, aP 42), (1, aI x1), (2, aI x2), (3, aI x3), (4, aI x4), (5, aI x5)] [] σ3 Q
    exact s_return d_M_addsForm_12 rfl h
theorem e_M_addsForm {E : EV} {d : Nat} {Q : Option AV → St → Prop} {σ : St} (x1 x2 x3 x4 x5 : Int) (hF : Fix σ) (h : (rI x1) ∧ ((¬ x1 = 1 → (0 ≤ x1 ∧ x1 < 8) ∧ WP E m_M_addsForm (d + 1) 32 [(0, aP 42), (3, aI x3), (4, aI x4), (6, aI (12 * ((σ.1 71 x1) + x2))), (7, aI (1 + x5))] [] σ Q) ∧ (x1 = 1 → (WMv E m_M_adds d [aP 42, aI (x3 + 1)] σ (fun σ3 => Q none σ3))))) : WM E m_M_addsForm (d + 1) [aP 42, aI x1, aI x2, aI x3, aI x4, aI x5] σ Q := s_meth (by decide) (Nat.le_of_ble_eq_true rfl) rfl (b_M_addsForm_0 x1 x2 x3 x4 x5 hF h)
theorem b_M_addsForm_32 {E : EV} {d : Nat} {Q : Option AV → St → Prop} {σ : St} (x3 x4 x6 x7 : Int) (hF : Fix σ) (h : (0 ≤ x6 ∧ x6 < 3084) ∧ (rI x7) ∧ (rI (σ.1 69 x6)) ∧ (((σ.1 69 x6) < x7 → Q none σ) ∧ (¬ (σ.1 69 x6) < x7 → (0 ≤ (x6 + x7) ∧ (x6 + x7) < 3084) ∧ (WMi E m_M_isSign d [aI (σ.1 69 (x6 + x7))] σ (fun v5 σ5 => Fix σ5 ∧ (rI v5) ∧ ((v5 = 0 → (rI x4) ∧ ((¬ x4 = 0 → (rI (σ.1 69 (x6 + x7))) ∧ ((300 ≤ (σ.1 69 (x6 + x7)) → WP E m_M_addsForm (d + 1) 107 [(0, aP 42), (3, aI x3), (4, aI x4), (6, aI x6), (7, aI x7)] [aI ((σ.1 69 (x6 + x7)) - 100), aP 42] σ5 Q) ∧ (¬ 300 ≤ (σ.1 69 (x6 + x7)) → WP E m_M_addsForm (d + 1) 107 [(0, aP 42), (3, aI x3), (4, aI x4), (6, aI x6), (7, aI x7)] [aI ((σ.1 69 (x6 + x7)) + 100), aP 42] σ5 Q))) ∧ (x4 = 0 → WP E m_M_addsForm (d + 1) 107 [(0, aP 42), (3, aI x3), (4, aI x4), (6, aI x6), (7, aI x7)] [aI (σ.1 69 (x6 + x7)), aP 42] σ5 Q))) ∧ (¬ v5 = 0 → (WMv E m_M_adds d [aP 42, aI ((σ.1 69 (x6 + x7)) + x3)] σ5 (fun σ9 => WP E m_M_addsForm (d + 1) 110 [(0, aP 42), (3, aI x3), (4, aI x4), (6, aI x6), (7, aI x7)] [] σ9 Q))))))))) : WP E m_M_addsForm (d + 1) 32 [(0, aP 42), (3, aI x3), (4, aI x4), (6, aI x6), (7, aI x7)] [] σ Q := by
  refine s_iload 4 d_M_addsForm_32 rfl ?_
  refine s_aload_n 0 d_M_addsForm_34 rfl rfl ?_
  refine s_getF (v := 69) d_M_addsForm_35 fl_M_94 rfl (sf_42 hF) (ff_54 hF) ?_
  refine s_iload 3 d_M_addsForm_38 rfl ?_
  obtain ⟨g1, h⟩ := h
  refine s_ialoadv (v := σ.1 69 x6) d_M_addsForm_40 ⟨_, sf_69 hF, g1.1, g1.2, by have := g1.2; omega⟩ rfl ?_
  obtain ⟨g2, h⟩ := h
  obtain ⟨g3, h⟩ := h
  refine s_icmp_gt d_M_addsForm_41 rfl g2 g3 (fun c => ?_) (fun c => ?_)
  · have h := h.1 c
    exact s_return d_M_addsForm_116 rfl h
  · have h := h.2 c
    refine s_aload_n 0 d_M_addsForm_44 rfl rfl ?_
    refine s_getF (v := 69) d_M_addsForm_45 fl_M_94 rfl (sf_42 hF) (ff_54 hF) ?_
    refine s_iload 3 d_M_addsForm_48 rfl ?_
    refine s_iload 4 d_M_addsForm_50 rfl ?_
    refine s_iadd d_M_addsForm_52 ?_
    obtain ⟨g4, h⟩ := h
    refine s_ialoadv (v := σ.1 69 (x6 + x7)) d_M_addsForm_53 ⟨_, sf_69 hF, g4.1, g4.2, by have := g4.2; omega⟩ rfl ?_
    refine s_istore d_M_addsForm_54 (by decide) rfl ?_
    refine s_iload 0 d_M_addsForm_56 rfl ?_
    refine s_callS (as := [aI (σ.1 69 (x6 + x7))]) d_M_addsForm_58 ok_M_isSign lk_M_199 to_M_isSign rfl (Nat.le_of_ble_eq_true rfl) rfl (WM.mono h ?_)
    rintro _ σ5 ⟨v5, rfl, hp, h⟩
    obtain ⟨hF5, h⟩ := h
    show WP E m_M_addsForm (d + 1) 61 [(8, aI (σ.1 69 (x6 + x7))), (0, aP 42), (3, aI x3), (4, aI x4), (6, aI x6), (7, aI x7)] [aI v5] σ5 Q
    obtain ⟨g6, h⟩ := h
    refine s_if_eq d_M_addsForm_61 rfl g6 (fun c => ?_) (fun c => ?_)
    · have h := h.1 c
      refine s_aload_n 1 d_M_addsForm_75 rfl rfl ?_
      refine s_iload 3 d_M_addsForm_76 rfl ?_
      obtain ⟨g7, h⟩ := h
      refine s_if_ne d_M_addsForm_78 rfl g7 (fun c => ?_) (fun c => ?_)
      · have h := h.1 c
        refine s_iload 0 d_M_addsForm_86 rfl ?_
        refine s_sipush d_M_addsForm_88 (by decide) ?_
        obtain ⟨g8, h⟩ := h
        refine s_icmp_ge d_M_addsForm_91 rfl g8 (by decide) (fun c => ?_) (fun c => ?_)
        · have h := h.1 c
          refine s_iload 0 d_M_addsForm_102 rfl ?_
          refine s_bipush d_M_addsForm_104 (by decide) ?_
          refine s_isub d_M_addsForm_106 ?_
          refine wp_drop [1, 2, 3, 4, 5] rfl ?_
          exact h
        · have h := h.2 c
          refine s_iload 0 d_M_addsForm_94 rfl ?_
          refine s_bipush d_M_addsForm_96 (by decide) ?_
          refine s_iadd d_M_addsForm_98 ?_
          refine s_goto d_M_addsForm_99 rfl ?_
          refine wp_drop [1, 2, 3, 4, 5] rfl ?_
          exact h
      · have h := h.2 c
        refine s_iload 0 d_M_addsForm_81 rfl ?_
        refine s_goto d_M_addsForm_83 rfl ?_
        refine wp_drop [1, 2, 3, 4, 5] rfl ?_
        exact h
    · have h := h.2 c
      refine s_aload_n 1 d_M_addsForm_64 rfl rfl ?_
      refine s_iload 0 d_M_addsForm_65 rfl ?_
      refine s_iload_n 2 d_M_addsForm_67 rfl rfl ?_
      refine s_iadd d_M_addsForm_68 ?_
      refine s_callV (as := [aI ((σ.1 69 (x6 + x7)) + x3)]) (ci := 10) d_M_addsForm_69 ok_M_adds lk_M_195 io_M_adds so_M_adds (by decide) rfl rfl rfl (Nat.le_of_ble_eq_true rfl) rfl (sf_42 hF5) (WM.mono h ?_)
      rintro _ σ9 ⟨rfl, hp, h⟩
      show WP E m_M_addsForm (d + 1) 72 [(8, aI (σ.1 69 (x6 + x7))), (0, aP 42), (3, aI x3), (4, aI x4), (6, aI x6), (7, aI x7)] [] σ9 Q
      refine s_goto d_M_addsForm_72 rfl ?_
      refine wp_drop [1, 2, 3, 4, 5] rfl ?_
      exact h
theorem b_M_addsForm_107 {E : EV} {d : Nat} {Q : Option AV → St → Prop} {σ : St} (x3 x4 x6 x7 s0 s1 : Int) (h : (sh σ s0 = some (10, 74)) ∧ (WMv E m_M_adds d [aP s0, aI s1] σ (fun σ1 => WP E m_M_addsForm (d + 1) 110 [(0, aP 42), (3, aI x3), (4, aI x4), (6, aI x6), (7, aI x7)] [] σ1 Q))) : WP E m_M_addsForm (d + 1) 107 [(0, aP 42), (3, aI x3), (4, aI x4), (6, aI x6), (7, aI x7)] [aI s1, aP s0] σ Q := by
  obtain ⟨g2, h⟩ := h
  refine s_callV (as := [aI s1]) (ci := 10) d_M_addsForm_107 ok_M_adds lk_M_195 io_M_adds so_M_adds (by decide) rfl rfl rfl (Nat.le_of_ble_eq_true rfl) rfl g2 (WM.mono h ?_)
  rintro _ σ1 ⟨rfl, hp, h⟩
  show WP E m_M_addsForm (d + 1) 110 [(0, aP 42), (3, aI x3), (4, aI x4), (6, aI x6), (7, aI x7)] [] σ1 Q
  exact h
theorem b_M_addsForm_110 {E : EV} {d : Nat} {Q : Option AV → St → Prop} {σ : St} (x3 x4 x6 x7 : Int) (h : WP E m_M_addsForm (d + 1) 32 [(0, aP 42), (3, aI x3), (4, aI x4), (6, aI x6), (7, aI (x7 + 1))] [] σ Q) : WP E m_M_addsForm (d + 1) 110 [(0, aP 42), (3, aI x3), (4, aI x4), (6, aI x6), (7, aI x7)] [] σ Q := by
  refine s_iinc 4 d_M_addsForm_110 rfl (by decide) rfl ?_
  refine s_goto d_M_addsForm_113 rfl ?_
  refine wp_drop [1, 2, 3, 4, 0] rfl ?_
  exact h
theorem d_M_keepsForm_0 : decode m_M_keepsForm.2.1 0 = .ok (.aload_n 0, 1) := by decide +kernel
theorem d_M_keepsForm_1 : decode m_M_keepsForm.2.1 1 = .ok (.getfield 38, 3) := by decide +kernel
theorem d_M_keepsForm_4 : decode m_M_keepsForm.2.1 4 = .ok (.iconst 0, 1) := by decide +kernel
theorem d_M_keepsForm_5 : decode m_M_keepsForm.2.1 5 = .ok (.sipush 200, 3) := by decide +kernel
theorem d_M_keepsForm_8 : decode m_M_keepsForm.2.1 8 = .ok (.iload_n 2, 1) := by decide +kernel
theorem d_M_keepsForm_9 : decode m_M_keepsForm.2.1 9 = .ok (.iadd, 1) := by decide +kernel
theorem d_M_keepsForm_10 : decode m_M_keepsForm.2.1 10 = .ok (.iastore, 1) := by decide +kernel
theorem d_M_keepsForm_11 : decode m_M_keepsForm.2.1 11 = .ok (.bipush 12, 2) := by decide +kernel
theorem d_M_keepsForm_13 : decode m_M_keepsForm.2.1 13 = .ok (.aload_n 0, 1) := by decide +kernel
theorem d_M_keepsForm_14 : decode m_M_keepsForm.2.1 14 = .ok (.getfield 100, 3) := by decide +kernel
theorem d_M_keepsForm_17 : decode m_M_keepsForm.2.1 17 = .ok (.iload_n 1, 1) := by decide +kernel
theorem d_M_keepsForm_18 : decode m_M_keepsForm.2.1 18 = .ok (.iaload, 1) := by decide +kernel
theorem d_M_keepsForm_19 : decode m_M_keepsForm.2.1 19 = .ok (.aload_n 0, 1) := by decide +kernel
theorem d_M_keepsForm_20 : decode m_M_keepsForm.2.1 20 = .ok (.getfield 97, 3) := by decide +kernel
theorem d_M_keepsForm_23 : decode m_M_keepsForm.2.1 23 = .ok (.iload_n 1, 1) := by decide +kernel
theorem d_M_keepsForm_24 : decode m_M_keepsForm.2.1 24 = .ok (.iaload, 1) := by decide +kernel
theorem d_M_keepsForm_25 : decode m_M_keepsForm.2.1 25 = .ok (.iadd, 1) := by decide +kernel
theorem d_M_keepsForm_26 : decode m_M_keepsForm.2.1 26 = .ok (.imul, 1) := by decide +kernel
theorem d_M_keepsForm_27 : decode m_M_keepsForm.2.1 27 = .ok (.istore_n 3, 1) := by decide +kernel
theorem d_M_keepsForm_28 : decode m_M_keepsForm.2.1 28 = .ok (.aload_n 0, 1) := by decide +kernel
theorem d_M_keepsForm_29 : decode m_M_keepsForm.2.1 29 = .ok (.getfield 94, 3) := by decide +kernel
theorem d_M_keepsForm_32 : decode m_M_keepsForm.2.1 32 = .ok (.iload_n 3, 1) := by decide +kernel
theorem d_M_keepsForm_33 : decode m_M_keepsForm.2.1 33 = .ok (.aload_n 0, 1) := by decide +kernel
theorem d_M_keepsForm_34 : decode m_M_keepsForm.2.1 34 = .ok (.getfield 192, 3) := by decide +kernel
theorem d_M_keepsForm_37 : decode m_M_keepsForm.2.1 37 = .ok (.iastore, 1) := by decide +kernel
theorem d_M_keepsForm_38 : decode m_M_keepsForm.2.1 38 = .ok (.iconst 0, 1) := by decide +kernel
theorem d_M_keepsForm_39 : decode m_M_keepsForm.2.1 39 = .ok (.istore 4, 2) := by decide +kernel
theorem d_M_keepsForm_41 : decode m_M_keepsForm.2.1 41 = .ok (.iload 4, 2) := by decide +kernel
theorem d_M_keepsForm_43 : decode m_M_keepsForm.2.1 43 = .ok (.aload_n 0, 1) := by decide +kernel
theorem d_M_keepsForm_44 : decode m_M_keepsForm.2.1 44 = .ok (.getfield 192, 3) := by decide +kernel
theorem d_M_keepsForm_47 : decode m_M_keepsForm.2.1 47 = .ok (.if_icmp .ge 27, 3) := by decide +kernel
theorem d_M_keepsForm_50 : decode m_M_keepsForm.2.1 50 = .ok (.aload_n 0, 1) := by decide +kernel
theorem d_M_keepsForm_51 : decode m_M_keepsForm.2.1 51 = .ok (.getfield 94, 3) := by decide +kernel
theorem d_M_keepsForm_54 : decode m_M_keepsForm.2.1 54 = .ok (.iload_n 3, 1) := by decide +kernel
theorem d_M_keepsForm_55 : decode m_M_keepsForm.2.1 55 = .ok (.iconst 1, 1) := by decide +kernel
theorem d_M_keepsForm_56 : decode m_M_keepsForm.2.1 56 = .ok (.iadd, 1) := by decide +kernel
theorem d_M_keepsForm_57 : decode m_M_keepsForm.2.1 57 = .ok (.iload 4, 2) := by decide +kernel
theorem d_M_keepsForm_59 : decode m_M_keepsForm.2.1 59 = .ok (.iadd, 1) := by decide +kernel
theorem d_M_keepsForm_60 : decode m_M_keepsForm.2.1 60 = .ok (.aload_n 0, 1) := by decide +kernel
theorem d_M_keepsForm_61 : decode m_M_keepsForm.2.1 61 = .ok (.getfield 38, 3) := by decide +kernel
theorem d_M_keepsForm_64 : decode m_M_keepsForm.2.1 64 = .ok (.iload 4, 2) := by decide +kernel
theorem d_M_keepsForm_66 : decode m_M_keepsForm.2.1 66 = .ok (.iaload, 1) := by decide +kernel
theorem d_M_keepsForm_67 : decode m_M_keepsForm.2.1 67 = .ok (.iastore, 1) := by decide +kernel
theorem d_M_keepsForm_68 : decode m_M_keepsForm.2.1 68 = .ok (.iinc 4 1, 3) := by decide +kernel
theorem d_M_keepsForm_71 : decode m_M_keepsForm.2.1 71 = .ok (.goto (-30), 3) := by decide +kernel
theorem d_M_keepsForm_74 : decode m_M_keepsForm.2.1 74 = .ok (.aload_n 0, 1) := by decide +kernel
theorem d_M_keepsForm_75 : decode m_M_keepsForm.2.1 75 = .ok (.getfield 97, 3) := by decide +kernel
theorem d_M_keepsForm_78 : decode m_M_keepsForm.2.1 78 = .ok (.iload_n 1, 1) := by decide +kernel
theorem d_M_keepsForm_79 : decode m_M_keepsForm.2.1 79 = .ok (.dup2, 1) := by decide +kernel
theorem d_M_keepsForm_80 : decode m_M_keepsForm.2.1 80 = .ok (.iaload, 1) := by decide +kernel
theorem d_M_keepsForm_81 : decode m_M_keepsForm.2.1 81 = .ok (.iconst 1, 1) := by decide +kernel
theorem d_M_keepsForm_82 : decode m_M_keepsForm.2.1 82 = .ok (.iadd, 1) := by decide +kernel
theorem d_M_keepsForm_83 : decode m_M_keepsForm.2.1 83 = .ok (.iastore, 1) := by decide +kernel
theorem d_M_keepsForm_84 : decode m_M_keepsForm.2.1 84 = .ok (.return_, 1) := by decide +kernel
theorem b_M_keepsForm_0 {E : EV} {d : Nat} {Q : Option AV → St → Prop} {σ : St} (x1 x2 : Int) (hF : Fix σ) (h : (0 ≤ x1 ∧ x1 < 8) ∧ (0 ≤ x1 ∧ x1 < 7) ∧ (0 ≤ (12 * ((σ.1 71 x1) + (σ.1 70 x1))) ∧ (12 * ((σ.1 71 x1) + (σ.1 70 x1))) < 3084) ∧ WP E m_M_keepsForm d 41 [(0, aP 42), (1, aI x1), (3, aI (12 * ((σ.1 71 x1) + (σ.1 70 x1)))), (4, aI 0)] [] (wr (wr σ 51 0 (200 + x2)) 69 (12 * ((σ.1 71 x1) + (σ.1 70 x1))) (σ.1 42 12)) Q) : WP E m_M_keepsForm d 0 [(0, aP 42), (1, aI x1), (2, aI x2)] [] σ Q := by
  refine s_aload_n 0 d_M_keepsForm_0 rfl rfl ?_
  refine s_getF (v := 51) d_M_keepsForm_1 fl_M_38 rfl (sf_42 hF) (ff_36 hF) ?_
  refine s_iconst d_M_keepsForm_4 ?_
  refine s_sipush d_M_keepsForm_5 (by decide) ?_
  refine s_iload_n 2 d_M_keepsForm_8 rfl rfl ?_
  refine s_iadd d_M_keepsForm_9 ?_
  refine s_iastore d_M_keepsForm_10 ⟨_, sf_51 hF, by decide, by decide, by decide⟩ ?_
  refine s_bipush d_M_keepsForm_11 (by decide) ?_
  refine s_aload_n 0 d_M_keepsForm_13 rfl rfl ?_
  refine s_getF (v := 71) d_M_keepsForm_14 fl_M_100 rfl (sf_42 (hF.wa (a := 51) (by decide))) (ff_56 (hF.wa (a := 51) (by decide))) ?_
  refine s_iload_n 1 d_M_keepsForm_17 rfl rfl ?_
  obtain ⟨g1, h⟩ := h
  refine s_ialoadv (v := σ.1 71 x1) d_M_keepsForm_18 ⟨_, sf_71 (hF.wa (a := 51) (by decide)), g1.1, g1.2, by have := g1.2; omega⟩ rfl ?_
  refine s_aload_n 0 d_M_keepsForm_19 rfl rfl ?_
  refine s_getF (v := 70) d_M_keepsForm_20 fl_M_97 rfl (sf_42 (hF.wa (a := 51) (by decide))) (ff_55 (hF.wa (a := 51) (by decide))) ?_
  refine s_iload_n 1 d_M_keepsForm_23 rfl rfl ?_
  obtain ⟨g2, h⟩ := h
  refine s_ialoadv (v := σ.1 70 x1) d_M_keepsForm_24 ⟨_, sf_70 (hF.wa (a := 51) (by decide)), g2.1, g2.2, by have := g2.2; omega⟩ rfl ?_
  refine s_iadd d_M_keepsForm_25 ?_
  refine s_imul d_M_keepsForm_26 ?_
  refine s_istore_n d_M_keepsForm_27 rfl (by decide) rfl ?_
  refine s_aload_n 1 d_M_keepsForm_28 rfl rfl ?_
  refine s_getF (v := 69) d_M_keepsForm_29 fl_M_94 rfl (sf_42 (hF.wa (a := 51) (by decide))) (ff_54 (hF.wa (a := 51) (by decide))) ?_
  refine s_iload_n 0 d_M_keepsForm_32 rfl rfl ?_
  refine s_aload_n 1 d_M_keepsForm_33 rfl rfl ?_
  refine s_getF (v := σ.1 42 12) d_M_keepsForm_34 fl_M_192 rfl (sf_42 (hF.wa (a := 51) (by decide))) rfl ?_
  obtain ⟨g3, h⟩ := h
  refine s_iastore d_M_keepsForm_37 ⟨_, sf_69 (hF.wa (a := 51) (by decide)), g3.1, g3.2, by have := g3.2; omega⟩ ?_
  refine s_iconst d_M_keepsForm_38 ?_
  refine s_istore d_M_keepsForm_39 (by decide) rfl ?_
  refine wp_drop [2, 3, 1, 0] rfl ?_
  exact h
theorem e_M_keepsForm {E : EV} {d : Nat} {Q : Option AV → St → Prop} {σ : St} (x1 x2 : Int) (hF : Fix σ) (h : (0 ≤ x1 ∧ x1 < 8) ∧ (0 ≤ x1 ∧ x1 < 7) ∧ (0 ≤ (12 * ((σ.1 71 x1) + (σ.1 70 x1))) ∧ (12 * ((σ.1 71 x1) + (σ.1 70 x1))) < 3084) ∧ WP E m_M_keepsForm d 41 [(0, aP 42), (1, aI x1), (3, aI (12 * ((σ.1 71 x1) + (σ.1 70 x1)))), (4, aI 0)] [] (wr (wr σ 51 0 (200 + x2)) 69 (12 * ((σ.1 71 x1) + (σ.1 70 x1))) (σ.1 42 12)) Q) : WM E m_M_keepsForm d [aP 42, aI x1, aI x2] σ Q := s_meth (by decide) (Nat.le_of_ble_eq_true rfl) rfl (b_M_keepsForm_0 x1 x2 hF h)
theorem b_M_keepsForm_41 {E : EV} {d : Nat} {Q : Option AV → St → Prop} {σ : St} (x1 x3 x4 : Int) (hF : Fix σ) (h : (rI x4) ∧ (rI (σ.1 42 12)) ∧ (((σ.1 42 12) ≤ x4 → (0 ≤ x1 ∧ x1 < 7) ∧ (0 ≤ x1 ∧ x1 < 7) ∧ Q none (wr σ 70 x1 ((σ.1 70 x1) + 1))) ∧ (¬ (σ.1 42 12) ≤ x4 → (0 ≤ x4 ∧ x4 < 48) ∧ (0 ≤ ((x3 + 1) + x4) ∧ ((x3 + 1) + x4) < 3084) ∧ WP E m_M_keepsForm d 41 [(0, aP 42), (1, aI x1), (3, aI x3), (4, aI (x4 + 1))] [] (wr σ 69 ((x3 + 1) + x4) (σ.1 51 x4)) Q))) : WP E m_M_keepsForm d 41 [(0, aP 42), (1, aI x1), (3, aI x3), (4, aI x4)] [] σ Q := by
  refine s_iload 3 d_M_keepsForm_41 rfl ?_
  refine s_aload_n 0 d_M_keepsForm_43 rfl rfl ?_
  refine s_getF (v := σ.1 42 12) d_M_keepsForm_44 fl_M_192 rfl (sf_42 hF) rfl ?_
  obtain ⟨g1, h⟩ := h
  obtain ⟨g2, h⟩ := h
  refine s_icmp_ge d_M_keepsForm_47 rfl g1 g2 (fun c => ?_) (fun c => ?_)
  · have h := h.1 c
    refine s_aload_n 0 d_M_keepsForm_74 rfl rfl ?_
    refine s_getF (v := 70) d_M_keepsForm_75 fl_M_97 rfl (sf_42 hF) (ff_55 hF) ?_
    refine s_iload_n 1 d_M_keepsForm_78 rfl rfl ?_
    refine s_dup2 d_M_keepsForm_79 (Nat.ne_of_beq_eq_false rfl) (Nat.ne_of_beq_eq_false rfl) ?_
    obtain ⟨g3, h⟩ := h
    refine s_ialoadv (v := σ.1 70 x1) d_M_keepsForm_80 ⟨_, sf_70 hF, g3.1, g3.2, by have := g3.2; omega⟩ rfl ?_
    refine s_iconst d_M_keepsForm_81 ?_
    refine s_iadd d_M_keepsForm_82 ?_
    obtain ⟨g4, h⟩ := h
    refine s_iastore d_M_keepsForm_83 ⟨_, sf_70 hF, g4.1, g4.2, by have := g4.2; omega⟩ ?_
    exact s_return d_M_keepsForm_84 rfl h
  · have h := h.2 c
    refine s_aload_n 0 d_M_keepsForm_50 rfl rfl ?_
    refine s_getF (v := 69) d_M_keepsForm_51 fl_M_94 rfl (sf_42 hF) (ff_54 hF) ?_
    refine s_iload_n 2 d_M_keepsForm_54 rfl rfl ?_
    refine s_iconst d_M_keepsForm_55 ?_
    refine s_iadd d_M_keepsForm_56 ?_
    refine s_iload 3 d_M_keepsForm_57 rfl ?_
    refine s_iadd d_M_keepsForm_59 ?_
    refine s_aload_n 0 d_M_keepsForm_60 rfl rfl ?_
    refine s_getF (v := 51) d_M_keepsForm_61 fl_M_38 rfl (sf_42 hF) (ff_36 hF) ?_
    refine s_iload 3 d_M_keepsForm_64 rfl ?_
    obtain ⟨g5, h⟩ := h
    refine s_ialoadv (v := σ.1 51 x4) d_M_keepsForm_66 ⟨_, sf_51 hF, g5.1, g5.2, by have := g5.2; omega⟩ rfl ?_
    obtain ⟨g6, h⟩ := h
    refine s_iastore d_M_keepsForm_67 ⟨_, sf_69 hF, g6.1, g6.2, by have := g6.2; omega⟩ ?_
    refine s_iinc 3 d_M_keepsForm_68 rfl (by decide) rfl ?_
    refine s_goto d_M_keepsForm_71 rfl ?_
    refine wp_drop [1, 2, 3, 0] rfl ?_
    exact h
theorem d_M_laysItems_0 : decode m_M_laysItems.2.1 0 = .ok (.aload_n 0, 1) := by decide +kernel
theorem d_M_laysItems_1 : decode m_M_laysItems.2.1 1 = .ok (.iconst 0, 1) := by decide +kernel
theorem d_M_laysItems_2 : decode m_M_laysItems.2.1 2 = .ok (.putfield 373, 3) := by decide +kernel
theorem d_M_laysItems_5 : decode m_M_laysItems.2.1 5 = .ok (.iconst 0, 1) := by decide +kernel
theorem d_M_laysItems_6 : decode m_M_laysItems.2.1 6 = .ok (.istore_n 1, 1) := by decide +kernel
theorem d_M_laysItems_7 : decode m_M_laysItems.2.1 7 = .ok (.iload_n 1, 1) := by decide +kernel
theorem d_M_laysItems_8 : decode m_M_laysItems.2.1 8 = .ok (.aload_n 0, 1) := by decide +kernel
theorem d_M_laysItems_9 : decode m_M_laysItems.2.1 9 = .ok (.getfield 189, 3) := by decide +kernel
theorem d_M_laysItems_12 : decode m_M_laysItems.2.1 12 = .ok (.if_icmp .ge 53, 3) := by decide +kernel
theorem d_M_laysItems_15 : decode m_M_laysItems.2.1 15 = .ok (.aload_n 0, 1) := by decide +kernel
theorem d_M_laysItems_16 : decode m_M_laysItems.2.1 16 = .ok (.getfield 35, 3) := by decide +kernel
theorem d_M_laysItems_19 : decode m_M_laysItems.2.1 19 = .ok (.iload_n 1, 1) := by decide +kernel
theorem d_M_laysItems_20 : decode m_M_laysItems.2.1 20 = .ok (.iaload, 1) := by decide +kernel
theorem d_M_laysItems_21 : decode m_M_laysItems.2.1 21 = .ok (.invokestatic 199, 3) := by decide +kernel
theorem d_M_laysItems_24 : decode m_M_laysItems.2.1 24 = .ok (.ifCond .eq 35, 3) := by decide +kernel
theorem d_M_laysItems_27 : decode m_M_laysItems.2.1 27 = .ok (.aload_n 0, 1) := by decide +kernel
theorem d_M_laysItems_28 : decode m_M_laysItems.2.1 28 = .ok (.getfield 106, 3) := by decide +kernel
theorem d_M_laysItems_31 : decode m_M_laysItems.2.1 31 = .ok (.aload_n 0, 1) := by decide +kernel
theorem d_M_laysItems_32 : decode m_M_laysItems.2.1 32 = .ok (.getfield 373, 3) := by decide +kernel
theorem d_M_laysItems_35 : decode m_M_laysItems.2.1 35 = .ok (.iload_n 1, 1) := by decide +kernel
theorem d_M_laysItems_36 : decode m_M_laysItems.2.1 36 = .ok (.iastore, 1) := by decide +kernel
theorem d_M_laysItems_37 : decode m_M_laysItems.2.1 37 = .ok (.aload_n 0, 1) := by decide +kernel
theorem d_M_laysItems_38 : decode m_M_laysItems.2.1 38 = .ok (.dup, 1) := by decide +kernel
theorem d_M_laysItems_39 : decode m_M_laysItems.2.1 39 = .ok (.getfield 373, 3) := by decide +kernel
theorem d_M_laysItems_42 : decode m_M_laysItems.2.1 42 = .ok (.iconst 1, 1) := by decide +kernel
theorem d_M_laysItems_43 : decode m_M_laysItems.2.1 43 = .ok (.iadd, 1) := by decide +kernel
theorem d_M_laysItems_44 : decode m_M_laysItems.2.1 44 = .ok (.putfield 373, 3) := by decide +kernel
theorem d_M_laysItems_47 : decode m_M_laysItems.2.1 47 = .ok (.aload_n 0, 1) := by decide +kernel
theorem d_M_laysItems_48 : decode m_M_laysItems.2.1 48 = .ok (.getfield 35, 3) := by decide +kernel
theorem d_M_laysItems_51 : decode m_M_laysItems.2.1 51 = .ok (.iload_n 1, 1) := by decide +kernel
theorem d_M_laysItems_52 : decode m_M_laysItems.2.1 52 = .ok (.invokestatic 296, 3) := by decide +kernel
theorem d_M_laysItems_55 : decode m_M_laysItems.2.1 55 = .ok (.istore_n 1, 1) := by decide +kernel
theorem d_M_laysItems_56 : decode m_M_laysItems.2.1 56 = .ok (.goto (-49), 3) := by decide +kernel
theorem d_M_laysItems_59 : decode m_M_laysItems.2.1 59 = .ok (.iinc 1 1, 3) := by decide +kernel
theorem d_M_laysItems_62 : decode m_M_laysItems.2.1 62 = .ok (.goto (-55), 3) := by decide +kernel
theorem d_M_laysItems_65 : decode m_M_laysItems.2.1 65 = .ok (.iconst 0, 1) := by decide +kernel
theorem d_M_laysItems_66 : decode m_M_laysItems.2.1 66 = .ok (.istore_n 2, 1) := by decide +kernel
theorem d_M_laysItems_67 : decode m_M_laysItems.2.1 67 = .ok (.iload_n 2, 1) := by decide +kernel
theorem d_M_laysItems_68 : decode m_M_laysItems.2.1 68 = .ok (.aload_n 0, 1) := by decide +kernel
theorem d_M_laysItems_69 : decode m_M_laysItems.2.1 69 = .ok (.getfield 189, 3) := by decide +kernel
theorem d_M_laysItems_72 : decode m_M_laysItems.2.1 72 = .ok (.if_icmp .ge 21, 3) := by decide +kernel
theorem d_M_laysItems_75 : decode m_M_laysItems.2.1 75 = .ok (.aload_n 0, 1) := by decide +kernel
theorem d_M_laysItems_76 : decode m_M_laysItems.2.1 76 = .ok (.getfield 103, 3) := by decide +kernel
theorem d_M_laysItems_79 : decode m_M_laysItems.2.1 79 = .ok (.iload_n 2, 1) := by decide +kernel
theorem d_M_laysItems_80 : decode m_M_laysItems.2.1 80 = .ok (.aload_n 0, 1) := by decide +kernel
theorem d_M_laysItems_81 : decode m_M_laysItems.2.1 81 = .ok (.getfield 35, 3) := by decide +kernel
theorem d_M_laysItems_84 : decode m_M_laysItems.2.1 84 = .ok (.iload_n 2, 1) := by decide +kernel
theorem d_M_laysItems_85 : decode m_M_laysItems.2.1 85 = .ok (.iaload, 1) := by decide +kernel
theorem d_M_laysItems_86 : decode m_M_laysItems.2.1 86 = .ok (.iastore, 1) := by decide +kernel
theorem d_M_laysItems_87 : decode m_M_laysItems.2.1 87 = .ok (.iinc 2 1, 3) := by decide +kernel
theorem d_M_laysItems_90 : decode m_M_laysItems.2.1 90 = .ok (.goto (-23), 3) := by decide +kernel
theorem d_M_laysItems_93 : decode m_M_laysItems.2.1 93 = .ok (.return_, 1) := by decide +kernel
theorem b_M_laysItems_0 {E : EV} {d : Nat} {Q : Option AV → St → Prop} {σ : St} (hF : Fix σ) (h : WP E m_M_laysItems (d + 1) 7 [(0, aP 42), (1, aI 0)] [] (wr σ 42 39 0) Q) : WP E m_M_laysItems (d + 1) 0 [(0, aP 42)] [] σ Q := by
  refine s_aload_n 0 d_M_laysItems_0 rfl rfl ?_
  refine s_iconst d_M_laysItems_1 ?_
  refine s_putf 39 rfl d_M_laysItems_2 fl_M_373 (fun C T h => by cases h; exact Or.inl rfl) rfl (Or.inl rfl) (fun h => nomatch h) (sf_42 hF) ?_
  refine s_iconst d_M_laysItems_5 ?_
  refine s_istore_n d_M_laysItems_6 rfl (by decide) rfl ?_
  refine wp_drop [1, 0] rfl ?_
  exact h
theorem e_M_laysItems {E : EV} {d : Nat} {Q : Option AV → St → Prop} {σ : St} (hF : Fix σ) (h : WP E m_M_laysItems (d + 1) 7 [(0, aP 42), (1, aI 0)] [] (wr σ 42 39 0) Q) : WM E m_M_laysItems (d + 1) [aP 42] σ Q := s_meth (by decide) (Nat.le_of_ble_eq_true rfl) rfl (b_M_laysItems_0 hF h)
theorem b_M_laysItems_7 {E : EV} {d : Nat} {Q : Option AV → St → Prop} {σ : St} (x1 : Int) (hF : Fix σ) (h : (rI x1) ∧ (rI (σ.1 42 10)) ∧ (((σ.1 42 10) ≤ x1 → WP E m_M_laysItems (d + 1) 67 [(0, aP 42), (2, aI 0)] [] σ Q) ∧ (¬ (σ.1 42 10) ≤ x1 → (0 ≤ x1 ∧ x1 < 24) ∧ (WMi E m_M_isSign d [aI (σ.1 50 x1)] σ (fun v4 σ4 => Fix σ4 ∧ (rI v4) ∧ ((v4 = 0 → WP E m_M_laysItems (d + 1) 7 [(0, aP 42), (1, aI (x1 + 1))] [] σ4 Q) ∧ (¬ v4 = 0 → (0 ≤ (σ4.1 42 39) ∧ (σ4.1 42 39) < 10) ∧ (WMi E m_M_endOf d [aP 50, aI x1] (wr (wr σ4 73 (σ4.1 42 39) x1) 42 39 ((σ4.1 42 39) + 1)) (fun v7 σ7 => WP E m_M_laysItems (d + 1) 7 [(0, aP 42), (1, aI v7)] [] σ7 Q))))))))) : WP E m_M_laysItems (d + 1) 7 [(0, aP 42), (1, aI x1)] [] σ Q := by
  refine s_iload_n 1 d_M_laysItems_7 rfl rfl ?_
  refine s_aload_n 0 d_M_laysItems_8 rfl rfl ?_
  refine s_getF (v := σ.1 42 10) d_M_laysItems_9 fl_M_189 rfl (sf_42 hF) rfl ?_
  obtain ⟨g1, h⟩ := h
  obtain ⟨g2, h⟩ := h
  refine s_icmp_ge d_M_laysItems_12 rfl g1 g2 (fun c => ?_) (fun c => ?_)
  · have h := h.1 c
    refine s_iconst d_M_laysItems_65 ?_
    refine s_istore_n d_M_laysItems_66 rfl (by decide) rfl ?_
    refine wp_drop [1, 0] rfl ?_
    exact h
  · have h := h.2 c
    refine s_aload_n 0 d_M_laysItems_15 rfl rfl ?_
    refine s_getF (v := 50) d_M_laysItems_16 fl_M_35 rfl (sf_42 hF) (ff_35 hF) ?_
    refine s_iload_n 1 d_M_laysItems_19 rfl rfl ?_
    obtain ⟨g3, h⟩ := h
    refine s_ialoadv (v := σ.1 50 x1) d_M_laysItems_20 ⟨_, sf_50 hF, g3.1, g3.2, by have := g3.2; omega⟩ rfl ?_
    refine s_callS (as := [aI (σ.1 50 x1)]) d_M_laysItems_21 ok_M_isSign lk_M_199 to_M_isSign rfl (Nat.le_of_ble_eq_true rfl) rfl (WM.mono h ?_)
    rintro _ σ4 ⟨v4, rfl, hp, h⟩
    obtain ⟨hF4, h⟩ := h
    show WP E m_M_laysItems (d + 1) 24 [(0, aP 42), (1, aI x1)] [aI v4] σ4 Q
    obtain ⟨g5, h⟩ := h
    refine s_if_eq d_M_laysItems_24 rfl g5 (fun c => ?_) (fun c => ?_)
    · have h := h.1 c
      refine s_iinc 1 d_M_laysItems_59 rfl (by decide) rfl ?_
      refine s_goto d_M_laysItems_62 rfl ?_
      refine wp_drop [1, 0] rfl ?_
      exact h
    · have h := h.2 c
      refine s_aload_n 0 d_M_laysItems_27 rfl rfl ?_
      refine s_getF (v := 73) d_M_laysItems_28 fl_M_106 rfl (sf_42 hF4) (ff_58 hF4) ?_
      refine s_aload_n 0 d_M_laysItems_31 rfl rfl ?_
      refine s_getF (v := σ4.1 42 39) d_M_laysItems_32 fl_M_373 rfl (sf_42 hF4) rfl ?_
      refine s_iload_n 1 d_M_laysItems_35 rfl rfl ?_
      obtain ⟨g6, h⟩ := h
      refine s_iastore d_M_laysItems_36 ⟨_, sf_73 hF4, g6.1, g6.2, by have := g6.2; omega⟩ ?_
      refine s_aload_n 0 d_M_laysItems_37 rfl rfl ?_
      refine s_dup d_M_laysItems_38 (Nat.ne_of_beq_eq_false rfl) ?_
      refine s_getF (v := σ4.1 42 39) d_M_laysItems_39 fl_M_373 rfl (sf_42 (hF4.wa (a := 73) (by decide))) rfl ?_
      refine s_iconst d_M_laysItems_42 ?_
      refine s_iadd d_M_laysItems_43 ?_
      refine s_putf 39 rfl d_M_laysItems_44 fl_M_373 (fun C T h => by cases h; exact Or.inl rfl) rfl (Or.inl rfl) (fun h => nomatch h) (sf_42 (hF4.wa (a := 73) (by decide))) ?_
      refine s_aload_n 0 d_M_laysItems_47 rfl rfl ?_
      refine s_getF (v := 50) d_M_laysItems_48 fl_M_35 rfl (sf_42 ((hF4.wa (a := 73) (by decide)).wf (a := 42) (k := 39) (by decide))) (ff_35 ((hF4.wa (a := 73) (by decide)).wf (a := 42) (k := 39) (by decide))) ?_
      refine s_iload_n 1 d_M_laysItems_51 rfl rfl ?_
      refine s_callS (as := [aP 50, aI x1]) d_M_laysItems_52 ok_M_endOf lk_M_296 to_M_endOf rfl (Nat.le_of_ble_eq_true rfl) rfl (WM.mono h ?_)
      rintro _ σ7 ⟨v7, rfl, hp, h⟩
      show WP E m_M_laysItems (d + 1) 55 [(0, aP 42), (1, aI x1)] [aI v7] σ7 Q
      refine s_istore_n d_M_laysItems_55 rfl (by decide) rfl ?_
      refine s_goto d_M_laysItems_56 rfl ?_
      refine wp_drop [1, 0] rfl ?_
      exact h
theorem b_M_laysItems_67 {E : EV} {d : Nat} {Q : Option AV → St → Prop} {σ : St} (x2 : Int) (hF : Fix σ) (h : (rI x2) ∧ (rI (σ.1 42 10)) ∧ (((σ.1 42 10) ≤ x2 → Q none σ) ∧ (¬ (σ.1 42 10) ≤ x2 → (0 ≤ x2 ∧ x2 < 24) ∧ (0 ≤ x2 ∧ x2 < 24) ∧ WP E m_M_laysItems (d + 1) 67 [(0, aP 42), (2, aI (x2 + 1))] [] (wr σ 72 x2 (σ.1 50 x2)) Q))) : WP E m_M_laysItems (d + 1) 67 [(0, aP 42), (2, aI x2)] [] σ Q := by
  refine s_iload_n 1 d_M_laysItems_67 rfl rfl ?_
  refine s_aload_n 0 d_M_laysItems_68 rfl rfl ?_
  refine s_getF (v := σ.1 42 10) d_M_laysItems_69 fl_M_189 rfl (sf_42 hF) rfl ?_
  obtain ⟨g1, h⟩ := h
  obtain ⟨g2, h⟩ := h
  refine s_icmp_ge d_M_laysItems_72 rfl g1 g2 (fun c => ?_) (fun c => ?_)
  · have h := h.1 c
    exact s_return d_M_laysItems_93 rfl h
  · have h := h.2 c
    refine s_aload_n 0 d_M_laysItems_75 rfl rfl ?_
    refine s_getF (v := 72) d_M_laysItems_76 fl_M_103 rfl (sf_42 hF) (ff_57 hF) ?_
    refine s_iload_n 1 d_M_laysItems_79 rfl rfl ?_
    refine s_aload_n 0 d_M_laysItems_80 rfl rfl ?_
    refine s_getF (v := 50) d_M_laysItems_81 fl_M_35 rfl (sf_42 hF) (ff_35 hF) ?_
    refine s_iload_n 1 d_M_laysItems_84 rfl rfl ?_
    obtain ⟨g3, h⟩ := h
    refine s_ialoadv (v := σ.1 50 x2) d_M_laysItems_85 ⟨_, sf_50 hF, g3.1, g3.2, by have := g3.2; omega⟩ rfl ?_
    obtain ⟨g4, h⟩ := h
    refine s_iastore d_M_laysItems_86 ⟨_, sf_72 hF, g4.1, g4.2, by have := g4.2; omega⟩ ?_
    refine s_iinc 1 d_M_laysItems_87 rfl (by decide) rfl ?_
    refine s_goto d_M_laysItems_90 rfl ?_
    refine wp_drop [1, 0] rfl ?_
    exact h
theorem d_M_forms_0 : decode m_M_forms.2.1 0 = .ok (.aload_n 0, 1) := by decide +kernel
theorem d_M_forms_1 : decode m_M_forms.2.1 1 = .ok (.invokevirtual 293, 3) := by decide +kernel
theorem d_M_forms_4 : decode m_M_forms.2.1 4 = .ok (.aload_n 0, 1) := by decide +kernel
theorem d_M_forms_5 : decode m_M_forms.2.1 5 = .ok (.aload_n 0, 1) := by decide +kernel
theorem d_M_forms_6 : decode m_M_forms.2.1 6 = .ok (.getfield 373, 3) := by decide +kernel
theorem d_M_forms_9 : decode m_M_forms.2.1 9 = .ok (.iload_n 1, 1) := by decide +kernel
theorem d_M_forms_10 : decode m_M_forms.2.1 10 = .ok (.iconst 0, 1) := by decide +kernel
theorem d_M_forms_11 : decode m_M_forms.2.1 11 = .ok (.iload_n 2, 1) := by decide +kernel
theorem d_M_forms_12 : decode m_M_forms.2.1 12 = .ok (.iconst 0, 1) := by decide +kernel
theorem d_M_forms_13 : decode m_M_forms.2.1 13 = .ok (.invokevirtual 362, 3) := by decide +kernel
theorem d_M_forms_16 : decode m_M_forms.2.1 16 = .ok (.aload_n 0, 1) := by decide +kernel
theorem d_M_forms_17 : decode m_M_forms.2.1 17 = .ok (.iconst 0, 1) := by decide +kernel
theorem d_M_forms_18 : decode m_M_forms.2.1 18 = .ok (.putfield 189, 3) := by decide +kernel
theorem d_M_forms_21 : decode m_M_forms.2.1 21 = .ok (.iconst 0, 1) := by decide +kernel
theorem d_M_forms_22 : decode m_M_forms.2.1 22 = .ok (.istore_n 3, 1) := by decide +kernel
theorem d_M_forms_23 : decode m_M_forms.2.1 23 = .ok (.iload_n 3, 1) := by decide +kernel
theorem d_M_forms_24 : decode m_M_forms.2.1 24 = .ok (.aload_n 0, 1) := by decide +kernel
theorem d_M_forms_25 : decode m_M_forms.2.1 25 = .ok (.getfield 192, 3) := by decide +kernel
theorem d_M_forms_28 : decode m_M_forms.2.1 28 = .ok (.if_icmp .ge 118, 3) := by decide +kernel
theorem d_M_forms_31 : decode m_M_forms.2.1 31 = .ok (.aload_n 0, 1) := by decide +kernel
theorem d_M_forms_32 : decode m_M_forms.2.1 32 = .ok (.getfield 38, 3) := by decide +kernel
theorem d_M_forms_35 : decode m_M_forms.2.1 35 = .ok (.iload_n 3, 1) := by decide +kernel
theorem d_M_forms_36 : decode m_M_forms.2.1 36 = .ok (.iaload, 1) := by decide +kernel
theorem d_M_forms_37 : decode m_M_forms.2.1 37 = .ok (.invokestatic 199, 3) := by decide +kernel
theorem d_M_forms_40 : decode m_M_forms.2.1 40 = .ok (.ifCond .ne 31, 3) := by decide +kernel
theorem d_M_forms_43 : decode m_M_forms.2.1 43 = .ok (.aload_n 0, 1) := by decide +kernel
theorem d_M_forms_44 : decode m_M_forms.2.1 44 = .ok (.getfield 35, 3) := by decide +kernel
theorem d_M_forms_47 : decode m_M_forms.2.1 47 = .ok (.aload_n 0, 1) := by decide +kernel
theorem d_M_forms_48 : decode m_M_forms.2.1 48 = .ok (.getfield 189, 3) := by decide +kernel
theorem d_M_forms_51 : decode m_M_forms.2.1 51 = .ok (.aload_n 0, 1) := by decide +kernel
theorem d_M_forms_52 : decode m_M_forms.2.1 52 = .ok (.getfield 38, 3) := by decide +kernel
theorem d_M_forms_55 : decode m_M_forms.2.1 55 = .ok (.iload_n 3, 1) := by decide +kernel
theorem d_M_forms_56 : decode m_M_forms.2.1 56 = .ok (.iaload, 1) := by decide +kernel
theorem d_M_forms_57 : decode m_M_forms.2.1 57 = .ok (.iastore, 1) := by decide +kernel
theorem d_M_forms_58 : decode m_M_forms.2.1 58 = .ok (.aload_n 0, 1) := by decide +kernel
theorem d_M_forms_59 : decode m_M_forms.2.1 59 = .ok (.dup, 1) := by decide +kernel
theorem d_M_forms_60 : decode m_M_forms.2.1 60 = .ok (.getfield 189, 3) := by decide +kernel
theorem d_M_forms_63 : decode m_M_forms.2.1 63 = .ok (.iconst 1, 1) := by decide +kernel
theorem d_M_forms_64 : decode m_M_forms.2.1 64 = .ok (.iadd, 1) := by decide +kernel
theorem d_M_forms_65 : decode m_M_forms.2.1 65 = .ok (.putfield 189, 3) := by decide +kernel
theorem d_M_forms_68 : decode m_M_forms.2.1 68 = .ok (.goto 72, 3) := by decide +kernel
theorem d_M_forms_71 : decode m_M_forms.2.1 71 = .ok (.aload_n 0, 1) := by decide +kernel
theorem d_M_forms_72 : decode m_M_forms.2.1 72 = .ok (.getfield 106, 3) := by decide +kernel
theorem d_M_forms_75 : decode m_M_forms.2.1 75 = .ok (.aload_n 0, 1) := by decide +kernel
theorem d_M_forms_76 : decode m_M_forms.2.1 76 = .ok (.getfield 38, 3) := by decide +kernel
theorem d_M_forms_79 : decode m_M_forms.2.1 79 = .ok (.iload_n 3, 1) := by decide +kernel
theorem d_M_forms_80 : decode m_M_forms.2.1 80 = .ok (.iaload, 1) := by decide +kernel
theorem d_M_forms_81 : decode m_M_forms.2.1 81 = .ok (.iconst 1, 1) := by decide +kernel
theorem d_M_forms_82 : decode m_M_forms.2.1 82 = .ok (.isub, 1) := by decide +kernel
theorem d_M_forms_83 : decode m_M_forms.2.1 83 = .ok (.iaload, 1) := by decide +kernel
theorem d_M_forms_84 : decode m_M_forms.2.1 84 = .ok (.istore 4, 2) := by decide +kernel
theorem d_M_forms_86 : decode m_M_forms.2.1 86 = .ok (.aload_n 0, 1) := by decide +kernel
theorem d_M_forms_87 : decode m_M_forms.2.1 87 = .ok (.getfield 103, 3) := by decide +kernel
theorem d_M_forms_90 : decode m_M_forms.2.1 90 = .ok (.iload 4, 2) := by decide +kernel
theorem d_M_forms_92 : decode m_M_forms.2.1 92 = .ok (.invokestatic 296, 3) := by decide +kernel
theorem d_M_forms_95 : decode m_M_forms.2.1 95 = .ok (.istore 5, 2) := by decide +kernel
theorem d_M_forms_97 : decode m_M_forms.2.1 97 = .ok (.iload 4, 2) := by decide +kernel
theorem d_M_forms_99 : decode m_M_forms.2.1 99 = .ok (.istore 6, 2) := by decide +kernel
theorem d_M_forms_101 : decode m_M_forms.2.1 101 = .ok (.iload 6, 2) := by decide +kernel
theorem d_M_forms_103 : decode m_M_forms.2.1 103 = .ok (.iload 5, 2) := by decide +kernel
theorem d_M_forms_105 : decode m_M_forms.2.1 105 = .ok (.if_icmp .ge 35, 3) := by decide +kernel
theorem d_M_forms_108 : decode m_M_forms.2.1 108 = .ok (.aload_n 0, 1) := by decide +kernel
theorem d_M_forms_109 : decode m_M_forms.2.1 109 = .ok (.getfield 35, 3) := by decide +kernel
theorem d_M_forms_112 : decode m_M_forms.2.1 112 = .ok (.aload_n 0, 1) := by decide +kernel
theorem d_M_forms_113 : decode m_M_forms.2.1 113 = .ok (.getfield 189, 3) := by decide +kernel
theorem d_M_forms_116 : decode m_M_forms.2.1 116 = .ok (.aload_n 0, 1) := by decide +kernel
theorem d_M_forms_117 : decode m_M_forms.2.1 117 = .ok (.getfield 103, 3) := by decide +kernel
theorem d_M_forms_120 : decode m_M_forms.2.1 120 = .ok (.iload 6, 2) := by decide +kernel
theorem d_M_forms_122 : decode m_M_forms.2.1 122 = .ok (.iaload, 1) := by decide +kernel
theorem d_M_forms_123 : decode m_M_forms.2.1 123 = .ok (.iastore, 1) := by decide +kernel
theorem d_M_forms_124 : decode m_M_forms.2.1 124 = .ok (.aload_n 0, 1) := by decide +kernel
theorem d_M_forms_125 : decode m_M_forms.2.1 125 = .ok (.dup, 1) := by decide +kernel
theorem d_M_forms_126 : decode m_M_forms.2.1 126 = .ok (.getfield 189, 3) := by decide +kernel
theorem d_M_forms_129 : decode m_M_forms.2.1 129 = .ok (.iconst 1, 1) := by decide +kernel
theorem d_M_forms_130 : decode m_M_forms.2.1 130 = .ok (.iadd, 1) := by decide +kernel
theorem d_M_forms_131 : decode m_M_forms.2.1 131 = .ok (.putfield 189, 3) := by decide +kernel
theorem d_M_forms_134 : decode m_M_forms.2.1 134 = .ok (.iinc 6 1, 3) := by decide +kernel
theorem d_M_forms_137 : decode m_M_forms.2.1 137 = .ok (.goto (-36), 3) := by decide +kernel
theorem d_M_forms_140 : decode m_M_forms.2.1 140 = .ok (.iinc 3 1, 3) := by decide +kernel
theorem d_M_forms_143 : decode m_M_forms.2.1 143 = .ok (.goto (-120), 3) := by decide +kernel
theorem d_M_forms_146 : decode m_M_forms.2.1 146 = .ok (.return_, 1) := by decide +kernel
theorem b_M_forms_0 {E : EV} {d : Nat} {Q : Option AV → St → Prop} {σ : St} (x1 x2 : Int) (hF : Fix σ) (h : (WMv E m_M_opens d [aP 42] σ (fun σ1 => Fix σ1 ∧ (WMv E m_M_addsForm d [aP 42, aI (σ1.1 42 39), aI x1, aI 0, aI x2, aI 0] σ1 (fun σ2 => Fix σ2 ∧ WP E m_M_forms (d + 1) 23 [(0, aP 42), (3, aI 0)] [] (wr σ2 42 10 0) Q))))) : WP E m_M_forms (d + 1) 0 [(0, aP 42), (1, aI x1), (2, aI x2)] [] σ Q := by
  refine s_aload_n 0 d_M_forms_0 rfl rfl ?_
  refine s_callV (as := []) (ci := 10) d_M_forms_1 ok_M_opens lk_M_293 io_M_opens so_M_opens (by decide) rfl rfl rfl (Nat.le_of_ble_eq_true rfl) rfl (sf_42 hF) (WM.mono h ?_)
  rintro _ σ1 ⟨rfl, hp, h⟩
  obtain ⟨hF1, h⟩ := h
  show WP E m_M_forms (d + 1) 4 [(0, aP 42), (1, aI x1), (2, aI x2)] [] σ1 Q
  refine s_aload_n 0 d_M_forms_4 rfl rfl ?_
  refine s_aload_n 0 d_M_forms_5 rfl rfl ?_
  refine s_getF (v := σ1.1 42 39) d_M_forms_6 fl_M_373 rfl (sf_42 hF1) rfl ?_
  refine s_iload_n 1 d_M_forms_9 rfl rfl ?_
  refine s_iconst d_M_forms_10 ?_
  refine s_iload_n 2 d_M_forms_11 rfl rfl ?_
  refine s_iconst d_M_forms_12 ?_
  refine s_callV (as := [aI (σ1.1 42 39), aI x1, aI 0, aI x2, aI 0]) (ci := 10) d_M_forms_13 ok_M_addsForm lk_M_362 io_M_addsForm so_M_addsForm (by decide) rfl rfl rfl (Nat.le_of_ble_eq_true rfl) rfl (sf_42 hF1) (WM.mono h ?_)
  rintro _ σ2 ⟨rfl, hp, h⟩
  obtain ⟨hF2, h⟩ := h
  show WP E m_M_forms (d + 1) 16 [(0, aP 42), (1, aI x1), (2, aI x2)] [] σ2 Q
  refine s_aload_n 0 d_M_forms_16 rfl rfl ?_
  refine s_iconst d_M_forms_17 ?_
  refine s_putf 10 rfl d_M_forms_18 fl_M_189 (fun C T h => by cases h; exact Or.inl rfl) rfl (Or.inl rfl) (fun h => nomatch h) (sf_42 hF2) ?_
  refine s_iconst d_M_forms_21 ?_
  refine s_istore_n d_M_forms_22 rfl (by decide) rfl ?_
  refine wp_drop [1, 0] rfl ?_
  exact h
theorem e_M_forms {E : EV} {d : Nat} {Q : Option AV → St → Prop} {σ : St} (x1 x2 : Int) (hF : Fix σ) (h : (WMv E m_M_opens d [aP 42] σ (fun σ1 => Fix σ1 ∧ (WMv E m_M_addsForm d [aP 42, aI (σ1.1 42 39), aI x1, aI 0, aI x2, aI 0] σ1 (fun σ2 => Fix σ2 ∧ WP E m_M_forms (d + 1) 23 [(0, aP 42), (3, aI 0)] [] (wr σ2 42 10 0) Q))))) : WM E m_M_forms (d + 1) [aP 42, aI x1, aI x2] σ Q := s_meth (by decide) (Nat.le_of_ble_eq_true rfl) rfl (b_M_forms_0 x1 x2 hF h)
theorem b_M_forms_23 {E : EV} {d : Nat} {Q : Option AV → St → Prop} {σ : St} (x3 : Int) (hF : Fix σ) (h : (rI x3) ∧ (rI (σ.1 42 12)) ∧ (((σ.1 42 12) ≤ x3 → Q none σ) ∧ (¬ (σ.1 42 12) ≤ x3 → (0 ≤ x3 ∧ x3 < 48) ∧ (WMi E m_M_isSign d [aI (σ.1 51 x3)] σ (fun v4 σ4 => Fix σ4 ∧ (rI v4) ∧ ((¬ v4 = 0 → (0 ≤ x3 ∧ x3 < 48) ∧ (0 ≤ ((σ4.1 51 x3) - 1) ∧ ((σ4.1 51 x3) - 1) < 10) ∧ (WMi E m_M_endOf d [aP 72, aI (σ4.1 73 ((σ4.1 51 x3) - 1))] σ4 (fun v8 σ8 => WP E m_M_forms (d + 1) 101 [(0, aP 42), (3, aI x3), (5, aI v8), (6, aI (σ4.1 73 ((σ4.1 51 x3) - 1)))] [] σ8 Q))) ∧ (v4 = 0 → (0 ≤ x3 ∧ x3 < 48) ∧ (0 ≤ (σ4.1 42 10) ∧ (σ4.1 42 10) < 24) ∧ WP E m_M_forms (d + 1) 140 [(0, aP 42), (3, aI x3)] [] (wr (wr σ4 50 (σ4.1 42 10) (σ4.1 51 x3)) 42 10 ((σ4.1 42 10) + 1)) Q))))))) : WP E m_M_forms (d + 1) 23 [(0, aP 42), (3, aI x3)] [] σ Q := by
  refine s_iload_n 1 d_M_forms_23 rfl rfl ?_
  refine s_aload_n 0 d_M_forms_24 rfl rfl ?_
  refine s_getF (v := σ.1 42 12) d_M_forms_25 fl_M_192 rfl (sf_42 hF) rfl ?_
  obtain ⟨g1, h⟩ := h
  obtain ⟨g2, h⟩ := h
  refine s_icmp_ge d_M_forms_28 rfl g1 g2 (fun c => ?_) (fun c => ?_)
  · have h := h.1 c
    exact s_return d_M_forms_146 rfl h
  · have h := h.2 c
    refine s_aload_n 0 d_M_forms_31 rfl rfl ?_
    refine s_getF (v := 51) d_M_forms_32 fl_M_38 rfl (sf_42 hF) (ff_36 hF) ?_
    refine s_iload_n 1 d_M_forms_35 rfl rfl ?_
    obtain ⟨g3, h⟩ := h
    refine s_ialoadv (v := σ.1 51 x3) d_M_forms_36 ⟨_, sf_51 hF, g3.1, g3.2, by have := g3.2; omega⟩ rfl ?_
    refine s_callS (as := [aI (σ.1 51 x3)]) d_M_forms_37 ok_M_isSign lk_M_199 to_M_isSign rfl (Nat.le_of_ble_eq_true rfl) rfl (WM.mono h ?_)
    rintro _ σ4 ⟨v4, rfl, hp, h⟩
    obtain ⟨hF4, h⟩ := h
    show WP E m_M_forms (d + 1) 40 [(0, aP 42), (3, aI x3)] [aI v4] σ4 Q
    obtain ⟨g5, h⟩ := h
    refine s_if_ne d_M_forms_40 rfl g5 (fun c => ?_) (fun c => ?_)
    · have h := h.1 c
      refine s_aload_n 0 d_M_forms_71 rfl rfl ?_
      refine s_getF (v := 73) d_M_forms_72 fl_M_106 rfl (sf_42 hF4) (ff_58 hF4) ?_
      refine s_aload_n 0 d_M_forms_75 rfl rfl ?_
      refine s_getF (v := 51) d_M_forms_76 fl_M_38 rfl (sf_42 hF4) (ff_36 hF4) ?_
      refine s_iload_n 1 d_M_forms_79 rfl rfl ?_
      obtain ⟨g6, h⟩ := h
      refine s_ialoadv (v := σ4.1 51 x3) d_M_forms_80 ⟨_, sf_51 hF4, g6.1, g6.2, by have := g6.2; omega⟩ rfl ?_
      refine s_iconst d_M_forms_81 ?_
      refine s_isub d_M_forms_82 ?_
      obtain ⟨g7, h⟩ := h
      refine s_ialoadv (v := σ4.1 73 ((σ4.1 51 x3) - 1)) d_M_forms_83 ⟨_, sf_73 hF4, g7.1, g7.2, by have := g7.2; omega⟩ rfl ?_
      refine s_istore d_M_forms_84 (by decide) rfl ?_
      refine s_aload_n 1 d_M_forms_86 rfl rfl ?_
      refine s_getF (v := 72) d_M_forms_87 fl_M_103 rfl (sf_42 hF4) (ff_57 hF4) ?_
      refine s_iload 0 d_M_forms_90 rfl ?_
      refine s_callS (as := [aP 72, aI (σ4.1 73 ((σ4.1 51 x3) - 1))]) d_M_forms_92 ok_M_endOf lk_M_296 to_M_endOf rfl (Nat.le_of_ble_eq_true rfl) rfl (WM.mono h ?_)
      rintro _ σ8 ⟨v8, rfl, hp, h⟩
      show WP E m_M_forms (d + 1) 95 [(4, aI (σ4.1 73 ((σ4.1 51 x3) - 1))), (0, aP 42), (3, aI x3)] [aI v8] σ8 Q
      refine s_istore d_M_forms_95 (by decide) rfl ?_
      refine s_iload 1 d_M_forms_97 rfl ?_
      refine s_istore d_M_forms_99 (by decide) rfl ?_
      refine wp_drop [3, 4, 1, 0] rfl ?_
      exact h
    · have h := h.2 c
      refine s_aload_n 0 d_M_forms_43 rfl rfl ?_
      refine s_getF (v := 50) d_M_forms_44 fl_M_35 rfl (sf_42 hF4) (ff_35 hF4) ?_
      refine s_aload_n 0 d_M_forms_47 rfl rfl ?_
      refine s_getF (v := σ4.1 42 10) d_M_forms_48 fl_M_189 rfl (sf_42 hF4) rfl ?_
      refine s_aload_n 0 d_M_forms_51 rfl rfl ?_
      refine s_getF (v := 51) d_M_forms_52 fl_M_38 rfl (sf_42 hF4) (ff_36 hF4) ?_
      refine s_iload_n 1 d_M_forms_55 rfl rfl ?_
      obtain ⟨g9, h⟩ := h
      refine s_ialoadv (v := σ4.1 51 x3) d_M_forms_56 ⟨_, sf_51 hF4, g9.1, g9.2, by have := g9.2; omega⟩ rfl ?_
      obtain ⟨g10, h⟩ := h
      refine s_iastore d_M_forms_57 ⟨_, sf_50 hF4, g10.1, g10.2, by have := g10.2; omega⟩ ?_
      refine s_aload_n 0 d_M_forms_58 rfl rfl ?_
      refine s_dup d_M_forms_59 (Nat.ne_of_beq_eq_false rfl) ?_
      refine s_getF (v := σ4.1 42 10) d_M_forms_60 fl_M_189 rfl (sf_42 (hF4.wa (a := 50) (by decide))) rfl ?_
      refine s_iconst d_M_forms_63 ?_
      refine s_iadd d_M_forms_64 ?_
      refine s_putf 10 rfl d_M_forms_65 fl_M_189 (fun C T h => by cases h; exact Or.inl rfl) rfl (Or.inl rfl) (fun h => nomatch h) (sf_42 (hF4.wa (a := 50) (by decide))) ?_
      refine s_goto d_M_forms_68 rfl ?_
      exact h
theorem b_M_forms_101 {E : EV} {d : Nat} {Q : Option AV → St → Prop} {σ : St} (x3 x5 x6 : Int) (hF : Fix σ) (h : (rI x6) ∧ (rI x5) ∧ ((x5 ≤ x6 → WP E m_M_forms (d + 1) 140 [(0, aP 42), (3, aI x3)] [] σ Q) ∧ (¬ x5 ≤ x6 → (0 ≤ x6 ∧ x6 < 24) ∧ (0 ≤ (σ.1 42 10) ∧ (σ.1 42 10) < 24) ∧ WP E m_M_forms (d + 1) 101 [(0, aP 42), (3, aI x3), (5, aI x5), (6, aI (x6 + 1))] [] (wr (wr σ 50 (σ.1 42 10) (σ.1 72 x6)) 42 10 ((σ.1 42 10) + 1)) Q))) : WP E m_M_forms (d + 1) 101 [(0, aP 42), (3, aI x3), (5, aI x5), (6, aI x6)] [] σ Q := by
  refine s_iload 3 d_M_forms_101 rfl ?_
  refine s_iload 2 d_M_forms_103 rfl ?_
  obtain ⟨g1, h⟩ := h
  obtain ⟨g2, h⟩ := h
  refine s_icmp_ge d_M_forms_105 rfl g1 g2 (fun c => ?_) (fun c => ?_)
  · have h := h.1 c
    refine wp_drop [0, 1] rfl ?_
    exact h
  · have h := h.2 c
    refine s_aload_n 0 d_M_forms_108 rfl rfl ?_
    refine s_getF (v := 50) d_M_forms_109 fl_M_35 rfl (sf_42 hF) (ff_35 hF) ?_
    refine s_aload_n 0 d_M_forms_112 rfl rfl ?_
    refine s_getF (v := σ.1 42 10) d_M_forms_113 fl_M_189 rfl (sf_42 hF) rfl ?_
    refine s_aload_n 0 d_M_forms_116 rfl rfl ?_
    refine s_getF (v := 72) d_M_forms_117 fl_M_103 rfl (sf_42 hF) (ff_57 hF) ?_
    refine s_iload 3 d_M_forms_120 rfl ?_
    obtain ⟨g3, h⟩ := h
    refine s_ialoadv (v := σ.1 72 x6) d_M_forms_122 ⟨_, sf_72 hF, g3.1, g3.2, by have := g3.2; omega⟩ rfl ?_
    obtain ⟨g4, h⟩ := h
    refine s_iastore d_M_forms_123 ⟨_, sf_50 hF, g4.1, g4.2, by have := g4.2; omega⟩ ?_
    refine s_aload_n 0 d_M_forms_124 rfl rfl ?_
    refine s_dup d_M_forms_125 (Nat.ne_of_beq_eq_false rfl) ?_
    refine s_getF (v := σ.1 42 10) d_M_forms_126 fl_M_189 rfl (sf_42 (hF.wa (a := 50) (by decide))) rfl ?_
    refine s_iconst d_M_forms_129 ?_
    refine s_iadd d_M_forms_130 ?_
    refine s_putf 10 rfl d_M_forms_131 fl_M_189 (fun C T h => by cases h; exact Or.inl rfl) rfl (Or.inl rfl) (fun h => nomatch h) (sf_42 (hF.wa (a := 50) (by decide))) ?_
    refine s_iinc 3 d_M_forms_134 rfl (by decide) rfl ?_
    refine s_goto d_M_forms_137 rfl ?_
    refine wp_drop [1, 2, 3, 0] rfl ?_
    exact h
theorem b_M_forms_140 {E : EV} {d : Nat} {Q : Option AV → St → Prop} {σ : St} (x3 : Int) (h : WP E m_M_forms (d + 1) 23 [(0, aP 42), (3, aI (x3 + 1))] [] σ Q) : WP E m_M_forms (d + 1) 140 [(0, aP 42), (3, aI x3)] [] σ Q := by
  refine s_iinc 1 d_M_forms_140 rfl (by decide) rfl ?_
  refine s_goto d_M_forms_143 rfl ?_
  refine wp_drop [1, 0] rfl ?_
  exact h
theorem d_M_compares_0 : decode m_M_compares.2.1 0 = .ok (.aload_n 0, 1) := by decide +kernel
theorem d_M_compares_1 : decode m_M_compares.2.1 1 = .ok (.invokevirtual 250, 3) := by decide +kernel
theorem d_M_compares_4 : decode m_M_compares.2.1 4 = .ok (.istore_n 1, 1) := by decide +kernel
theorem d_M_compares_5 : decode m_M_compares.2.1 5 = .ok (.aload_n 0, 1) := by decide +kernel
theorem d_M_compares_6 : decode m_M_compares.2.1 6 = .ok (.getfield 376, 3) := by decide +kernel
theorem d_M_compares_9 : decode m_M_compares.2.1 9 = .ok (.ifCond .le 12, 3) := by decide +kernel
theorem d_M_compares_12 : decode m_M_compares.2.1 12 = .ok (.iload_n 1, 1) := by decide +kernel
theorem d_M_compares_13 : decode m_M_compares.2.1 13 = .ok (.aload_n 0, 1) := by decide +kernel
theorem d_M_compares_14 : decode m_M_compares.2.1 14 = .ok (.getfield 379, 3) := by decide +kernel
theorem d_M_compares_17 : decode m_M_compares.2.1 17 = .ok (.if_icmp .le 4, 3) := by decide +kernel
theorem d_M_compares_20 : decode m_M_compares.2.1 20 = .ok (.return_, 1) := by decide +kernel
theorem d_M_compares_21 : decode m_M_compares.2.1 21 = .ok (.aload_n 0, 1) := by decide +kernel
theorem d_M_compares_22 : decode m_M_compares.2.1 22 = .ok (.iconst 0, 1) := by decide +kernel
theorem d_M_compares_23 : decode m_M_compares.2.1 23 = .ok (.putfield 331, 3) := by decide +kernel
theorem d_M_compares_26 : decode m_M_compares.2.1 26 = .ok (.aload_n 0, 1) := by decide +kernel
theorem d_M_compares_27 : decode m_M_compares.2.1 27 = .ok (.invokevirtual 347, 3) := by decide +kernel
theorem d_M_compares_30 : decode m_M_compares.2.1 30 = .ok (.aload_n 0, 1) := by decide +kernel
theorem d_M_compares_31 : decode m_M_compares.2.1 31 = .ok (.invokevirtual 382, 3) := by decide +kernel
theorem d_M_compares_34 : decode m_M_compares.2.1 34 = .ok (.istore_n 2, 1) := by decide +kernel
theorem d_M_compares_35 : decode m_M_compares.2.1 35 = .ok (.aload_n 0, 1) := by decide +kernel
theorem d_M_compares_36 : decode m_M_compares.2.1 36 = .ok (.getfield 376, 3) := by decide +kernel
theorem d_M_compares_39 : decode m_M_compares.2.1 39 = .ok (.ifCond .le 35, 3) := by decide +kernel
theorem d_M_compares_42 : decode m_M_compares.2.1 42 = .ok (.iload_n 1, 1) := by decide +kernel
theorem d_M_compares_43 : decode m_M_compares.2.1 43 = .ok (.aload_n 0, 1) := by decide +kernel
theorem d_M_compares_44 : decode m_M_compares.2.1 44 = .ok (.getfield 379, 3) := by decide +kernel
theorem d_M_compares_47 : decode m_M_compares.2.1 47 = .ok (.if_icmp .ne 27, 3) := by decide +kernel
theorem d_M_compares_50 : decode m_M_compares.2.1 50 = .ok (.iload_n 2, 1) := by decide +kernel
theorem d_M_compares_51 : decode m_M_compares.2.1 51 = .ok (.aload_n 0, 1) := by decide +kernel
theorem d_M_compares_52 : decode m_M_compares.2.1 52 = .ok (.getfield 385, 3) := by decide +kernel
theorem d_M_compares_55 : decode m_M_compares.2.1 55 = .ok (.if_icmp .gt 18, 3) := by decide +kernel
theorem d_M_compares_58 : decode m_M_compares.2.1 58 = .ok (.iload_n 2, 1) := by decide +kernel
theorem d_M_compares_59 : decode m_M_compares.2.1 59 = .ok (.aload_n 0, 1) := by decide +kernel
theorem d_M_compares_60 : decode m_M_compares.2.1 60 = .ok (.getfield 385, 3) := by decide +kernel
theorem d_M_compares_63 : decode m_M_compares.2.1 63 = .ok (.if_icmp .ne 11, 3) := by decide +kernel
theorem d_M_compares_66 : decode m_M_compares.2.1 66 = .ok (.aload_n 0, 1) := by decide +kernel
theorem d_M_compares_67 : decode m_M_compares.2.1 67 = .ok (.invokevirtual 388, 3) := by decide +kernel
theorem d_M_compares_70 : decode m_M_compares.2.1 70 = .ok (.ifCond .ne 4, 3) := by decide +kernel
theorem d_M_compares_73 : decode m_M_compares.2.1 73 = .ok (.return_, 1) := by decide +kernel
theorem d_M_compares_74 : decode m_M_compares.2.1 74 = .ok (.aload_n 0, 1) := by decide +kernel
theorem d_M_compares_75 : decode m_M_compares.2.1 75 = .ok (.iload_n 1, 1) := by decide +kernel
theorem d_M_compares_76 : decode m_M_compares.2.1 76 = .ok (.putfield 379, 3) := by decide +kernel
theorem d_M_compares_79 : decode m_M_compares.2.1 79 = .ok (.aload_n 0, 1) := by decide +kernel
theorem d_M_compares_80 : decode m_M_compares.2.1 80 = .ok (.iload_n 2, 1) := by decide +kernel
theorem d_M_compares_81 : decode m_M_compares.2.1 81 = .ok (.putfield 385, 3) := by decide +kernel
theorem d_M_compares_84 : decode m_M_compares.2.1 84 = .ok (.aload_n 0, 1) := by decide +kernel
theorem d_M_compares_85 : decode m_M_compares.2.1 85 = .ok (.aload_n 0, 1) := by decide +kernel
theorem d_M_compares_86 : decode m_M_compares.2.1 86 = .ok (.getfield 189, 3) := by decide +kernel
theorem d_M_compares_89 : decode m_M_compares.2.1 89 = .ok (.putfield 376, 3) := by decide +kernel
theorem d_M_compares_92 : decode m_M_compares.2.1 92 = .ok (.iconst 0, 1) := by decide +kernel
theorem d_M_compares_93 : decode m_M_compares.2.1 93 = .ok (.istore_n 3, 1) := by decide +kernel
theorem d_M_compares_94 : decode m_M_compares.2.1 94 = .ok (.iload_n 3, 1) := by decide +kernel
theorem d_M_compares_95 : decode m_M_compares.2.1 95 = .ok (.aload_n 0, 1) := by decide +kernel
theorem d_M_compares_96 : decode m_M_compares.2.1 96 = .ok (.getfield 189, 3) := by decide +kernel
theorem d_M_compares_99 : decode m_M_compares.2.1 99 = .ok (.if_icmp .ge 21, 3) := by decide +kernel
theorem d_M_compares_102 : decode m_M_compares.2.1 102 = .ok (.aload_n 0, 1) := by decide +kernel
theorem d_M_compares_103 : decode m_M_compares.2.1 103 = .ok (.getfield 109, 3) := by decide +kernel
theorem d_M_compares_106 : decode m_M_compares.2.1 106 = .ok (.iload_n 3, 1) := by decide +kernel
theorem d_M_compares_107 : decode m_M_compares.2.1 107 = .ok (.aload_n 0, 1) := by decide +kernel
theorem d_M_compares_108 : decode m_M_compares.2.1 108 = .ok (.getfield 35, 3) := by decide +kernel
theorem d_M_compares_111 : decode m_M_compares.2.1 111 = .ok (.iload_n 3, 1) := by decide +kernel
theorem d_M_compares_112 : decode m_M_compares.2.1 112 = .ok (.iaload, 1) := by decide +kernel
theorem d_M_compares_113 : decode m_M_compares.2.1 113 = .ok (.iastore, 1) := by decide +kernel
theorem d_M_compares_114 : decode m_M_compares.2.1 114 = .ok (.iinc 3 1, 3) := by decide +kernel
theorem d_M_compares_117 : decode m_M_compares.2.1 117 = .ok (.goto (-23), 3) := by decide +kernel
theorem d_M_compares_120 : decode m_M_compares.2.1 120 = .ok (.aload_n 0, 1) := by decide +kernel
theorem d_M_compares_121 : decode m_M_compares.2.1 121 = .ok (.aload_n 0, 1) := by decide +kernel
theorem d_M_compares_122 : decode m_M_compares.2.1 122 = .ok (.getfield 331, 3) := by decide +kernel
theorem d_M_compares_125 : decode m_M_compares.2.1 125 = .ok (.putfield 391, 3) := by decide +kernel
theorem d_M_compares_128 : decode m_M_compares.2.1 128 = .ok (.iconst 0, 1) := by decide +kernel
theorem d_M_compares_129 : decode m_M_compares.2.1 129 = .ok (.istore_n 3, 1) := by decide +kernel
theorem d_M_compares_130 : decode m_M_compares.2.1 130 = .ok (.iload_n 3, 1) := by decide +kernel
theorem d_M_compares_131 : decode m_M_compares.2.1 131 = .ok (.aload_n 0, 1) := by decide +kernel
theorem d_M_compares_132 : decode m_M_compares.2.1 132 = .ok (.getfield 331, 3) := by decide +kernel
theorem d_M_compares_135 : decode m_M_compares.2.1 135 = .ok (.if_icmp .ge 21, 3) := by decide +kernel
theorem d_M_compares_138 : decode m_M_compares.2.1 138 = .ok (.aload_n 0, 1) := by decide +kernel
theorem d_M_compares_139 : decode m_M_compares.2.1 139 = .ok (.getfield 112, 3) := by decide +kernel
theorem d_M_compares_142 : decode m_M_compares.2.1 142 = .ok (.iload_n 3, 1) := by decide +kernel
theorem d_M_compares_143 : decode m_M_compares.2.1 143 = .ok (.aload_n 0, 1) := by decide +kernel
theorem d_M_compares_144 : decode m_M_compares.2.1 144 = .ok (.getfield 78, 3) := by decide +kernel
theorem d_M_compares_147 : decode m_M_compares.2.1 147 = .ok (.iload_n 3, 1) := by decide +kernel
theorem d_M_compares_148 : decode m_M_compares.2.1 148 = .ok (.iaload, 1) := by decide +kernel
theorem d_M_compares_149 : decode m_M_compares.2.1 149 = .ok (.iastore, 1) := by decide +kernel
theorem d_M_compares_150 : decode m_M_compares.2.1 150 = .ok (.iinc 3 1, 3) := by decide +kernel
theorem d_M_compares_153 : decode m_M_compares.2.1 153 = .ok (.goto (-23), 3) := by decide +kernel
theorem d_M_compares_156 : decode m_M_compares.2.1 156 = .ok (.return_, 1) := by decide +kernel
theorem b_M_compares_0 {E : EV} {d : Nat} {Q : Option AV → St → Prop} {σ : St} (hF : Fix σ) (h : (WMi E m_M_greatest d [aP 42] σ (fun v1 σ1 => Fix σ1 ∧ (rI (σ1.1 42 41)) ∧ (((σ1.1 42 41) ≤ 0 → WP E m_M_compares (d + 1) 21 [(0, aP 42), (1, aI v1)] [] σ1 Q) ∧ (¬ (σ1.1 42 41) ≤ 0 → (rI v1) ∧ (rI (σ1.1 42 42)) ∧ ((v1 ≤ (σ1.1 42 42) → WP E m_M_compares (d + 1) 21 [(0, aP 42), (1, aI v1)] [] σ1 Q) ∧ (¬ v1 ≤ (σ1.1 42 42) → Q none σ1))))))) : WP E m_M_compares (d + 1) 0 [(0, aP 42)] [] σ Q := by
  refine s_aload_n 0 d_M_compares_0 rfl rfl ?_
  refine s_callV (as := []) (ci := 10) d_M_compares_1 ok_M_greatest lk_M_250 io_M_greatest so_M_greatest (by decide) rfl rfl rfl (Nat.le_of_ble_eq_true rfl) rfl (sf_42 hF) (WM.mono h ?_)
  rintro _ σ1 ⟨v1, rfl, hp, h⟩
  obtain ⟨hF1, h⟩ := h
  show WP E m_M_compares (d + 1) 4 [(0, aP 42)] [aI v1] σ1 Q
  refine s_istore_n d_M_compares_4 rfl (by decide) rfl ?_
  refine s_aload_n 1 d_M_compares_5 rfl rfl ?_
  refine s_getF (v := σ1.1 42 41) d_M_compares_6 fl_M_376 rfl (sf_42 hF1) rfl ?_
  obtain ⟨g2, h⟩ := h
  refine s_if_le d_M_compares_9 rfl g2 (fun c => ?_) (fun c => ?_)
  · have h := h.1 c
    refine wp_drop [1, 0] rfl ?_
    exact h
  · have h := h.2 c
    refine s_iload_n 0 d_M_compares_12 rfl rfl ?_
    refine s_aload_n 1 d_M_compares_13 rfl rfl ?_
    refine s_getF (v := σ1.1 42 42) d_M_compares_14 fl_M_379 rfl (sf_42 hF1) rfl ?_
    obtain ⟨g3, h⟩ := h
    obtain ⟨g4, h⟩ := h
    refine s_icmp_le d_M_compares_17 rfl g3 g4 (fun c => ?_) (fun c => ?_)
    · have h := h.1 c
      refine wp_drop [1, 0] rfl ?_
      exact h
    · have h := h.2 c
      exact s_return d_M_compares_20 rfl h
theorem e_M_compares {E : EV} {d : Nat} {Q : Option AV → St → Prop} {σ : St} (hF : Fix σ) (h : (WMi E m_M_greatest d [aP 42] σ (fun v1 σ1 => Fix σ1 ∧ (rI (σ1.1 42 41)) ∧ (((σ1.1 42 41) ≤ 0 → WP E m_M_compares (d + 1) 21 [(0, aP 42), (1, aI v1)] [] σ1 Q) ∧ (¬ (σ1.1 42 41) ≤ 0 → (rI v1) ∧ (rI (σ1.1 42 42)) ∧ ((v1 ≤ (σ1.1 42 42) → WP E m_M_compares (d + 1) 21 [(0, aP 42), (1, aI v1)] [] σ1 Q) ∧ (¬ v1 ≤ (σ1.1 42 42) → Q none σ1))))))) : WM E m_M_compares (d + 1) [aP 42] σ Q := s_meth (by decide) (Nat.le_of_ble_eq_true rfl) rfl (b_M_compares_0 hF h)
theorem b_M_compares_21 {E : EV} {d : Nat} {Q : Option AV → St → Prop} {σ : St} (x1 : Int) (hF : Fix σ) (h : (WMv E m_M_writesRow d [aP 42] (wr σ 42 29 0) (fun σ1 => Fix σ1 ∧ (WMi E m_M_bracketsInText d [aP 42] σ1 (fun v2 σ2 => Fix σ2 ∧ (rI (σ2.1 42 41)) ∧ (((σ2.1 42 41) ≤ 0 → WP E m_M_compares (d + 1) 74 [(0, aP 42), (1, aI x1), (2, aI v2)] [] σ2 Q) ∧ (¬ (σ2.1 42 41) ≤ 0 → (rI x1) ∧ (rI (σ2.1 42 42)) ∧ ((¬ x1 = (σ2.1 42 42) → WP E m_M_compares (d + 1) 74 [(0, aP 42), (1, aI x1), (2, aI v2)] [] σ2 Q) ∧ (x1 = (σ2.1 42 42) → (rI v2) ∧ (rI (σ2.1 42 43)) ∧ (((σ2.1 42 43) < v2 → Q none σ2) ∧ (¬ (σ2.1 42 43) < v2 → (rI v2) ∧ (rI (σ2.1 42 43)) ∧ ((¬ v2 = (σ2.1 42 43) → WP E m_M_compares (d + 1) 74 [(0, aP 42), (1, aI x1), (2, aI v2)] [] σ2 Q) ∧ (v2 = (σ2.1 42 43) → (WMi E m_M_isAhead d [aP 42] σ2 (fun v10 σ10 => (rI v10) ∧ ((¬ v10 = 0 → WP E m_M_compares (d + 1) 74 [(0, aP 42), (1, aI x1), (2, aI v2)] [] σ10 Q) ∧ (v10 = 0 → Q none σ10))))))))))))))))) : WP E m_M_compares (d + 1) 21 [(0, aP 42), (1, aI x1)] [] σ Q := by
  refine s_aload_n 0 d_M_compares_21 rfl rfl ?_
  refine s_iconst d_M_compares_22 ?_
  refine s_putf 29 rfl d_M_compares_23 fl_M_331 (fun C T h => by cases h; exact Or.inl rfl) rfl (Or.inl rfl) (fun h => nomatch h) (sf_42 hF) ?_
  refine s_aload_n 0 d_M_compares_26 rfl rfl ?_
  refine s_callV (as := []) (ci := 10) d_M_compares_27 ok_M_writesRow lk_M_347 io_M_writesRow so_M_writesRow (by decide) rfl rfl rfl (Nat.le_of_ble_eq_true rfl) rfl (sf_42 (hF.wf (a := 42) (k := 29) (by decide))) (WM.mono h ?_)
  rintro _ σ1 ⟨rfl, hp, h⟩
  obtain ⟨hF1, h⟩ := h
  show WP E m_M_compares (d + 1) 30 [(0, aP 42), (1, aI x1)] [] σ1 Q
  refine s_aload_n 0 d_M_compares_30 rfl rfl ?_
  refine s_callV (as := []) (ci := 10) d_M_compares_31 ok_M_bracketsInText lk_M_382 io_M_bracketsInText so_M_bracketsInText (by decide) rfl rfl rfl (Nat.le_of_ble_eq_true rfl) rfl (sf_42 hF1) (WM.mono h ?_)
  rintro _ σ2 ⟨v2, rfl, hp, h⟩
  obtain ⟨hF2, h⟩ := h
  show WP E m_M_compares (d + 1) 34 [(0, aP 42), (1, aI x1)] [aI v2] σ2 Q
  refine s_istore_n d_M_compares_34 rfl (by decide) rfl ?_
  refine s_aload_n 1 d_M_compares_35 rfl rfl ?_
  refine s_getF (v := σ2.1 42 41) d_M_compares_36 fl_M_376 rfl (sf_42 hF2) rfl ?_
  obtain ⟨g3, h⟩ := h
  refine s_if_le d_M_compares_39 rfl g3 (fun c => ?_) (fun c => ?_)
  · have h := h.1 c
    refine wp_drop [1, 2, 0] rfl ?_
    exact h
  · have h := h.2 c
    refine s_iload_n 2 d_M_compares_42 rfl rfl ?_
    refine s_aload_n 1 d_M_compares_43 rfl rfl ?_
    refine s_getF (v := σ2.1 42 42) d_M_compares_44 fl_M_379 rfl (sf_42 hF2) rfl ?_
    obtain ⟨g4, h⟩ := h
    obtain ⟨g5, h⟩ := h
    refine s_icmp_ne d_M_compares_47 rfl g4 g5 (fun c => ?_) (fun c => ?_)
    · have h := h.1 c
      refine wp_drop [1, 2, 0] rfl ?_
      exact h
    · have h := h.2 c
      refine s_iload_n 0 d_M_compares_50 rfl rfl ?_
      refine s_aload_n 1 d_M_compares_51 rfl rfl ?_
      refine s_getF (v := σ2.1 42 43) d_M_compares_52 fl_M_385 rfl (sf_42 hF2) rfl ?_
      obtain ⟨g6, h⟩ := h
      obtain ⟨g7, h⟩ := h
      refine s_icmp_gt d_M_compares_55 rfl g6 g7 (fun c => ?_) (fun c => ?_)
      · have h := h.1 c
        exact s_return d_M_compares_73 rfl h
      · have h := h.2 c
        refine s_iload_n 0 d_M_compares_58 rfl rfl ?_
        refine s_aload_n 1 d_M_compares_59 rfl rfl ?_
        refine s_getF (v := σ2.1 42 43) d_M_compares_60 fl_M_385 rfl (sf_42 hF2) rfl ?_
        obtain ⟨g8, h⟩ := h
        obtain ⟨g9, h⟩ := h
        refine s_icmp_ne d_M_compares_63 rfl g8 g9 (fun c => ?_) (fun c => ?_)
        · have h := h.1 c
          refine wp_drop [1, 2, 0] rfl ?_
          exact h
        · have h := h.2 c
          refine s_aload_n 1 d_M_compares_66 rfl rfl ?_
          refine s_callV (as := []) (ci := 10) d_M_compares_67 ok_M_isAhead lk_M_388 io_M_isAhead so_M_isAhead (by decide) rfl rfl rfl (Nat.le_of_ble_eq_true rfl) rfl (sf_42 hF2) (WM.mono h ?_)
          rintro _ σ10 ⟨v10, rfl, hp, h⟩
          show WP E m_M_compares (d + 1) 70 [(2, aI v2), (0, aP 42), (1, aI x1)] [aI v10] σ10 Q
          obtain ⟨g11, h⟩ := h
          refine s_if_ne d_M_compares_70 rfl g11 (fun c => ?_) (fun c => ?_)
          · have h := h.1 c
            refine wp_drop [1, 2, 0] rfl ?_
            exact h
          · have h := h.2 c
            exact s_return d_M_compares_73 rfl h
theorem b_M_compares_74 {E : EV} {d : Nat} {Q : Option AV → St → Prop} {σ : St} (x1 x2 : Int) (hF : Fix σ) (h : WP E m_M_compares (d + 1) 94 [(0, aP 42), (3, aI 0)] [] (wr (wr (wr σ 42 42 x1) 42 43 x2) 42 41 (σ.1 42 10)) Q) : WP E m_M_compares (d + 1) 74 [(0, aP 42), (1, aI x1), (2, aI x2)] [] σ Q := by
  refine s_aload_n 0 d_M_compares_74 rfl rfl ?_
  refine s_iload_n 1 d_M_compares_75 rfl rfl ?_
  refine s_putf 42 rfl d_M_compares_76 fl_M_379 (fun C T h => by cases h; exact Or.inl rfl) rfl (Or.inl rfl) (fun h => nomatch h) (sf_42 hF) ?_
  refine s_aload_n 0 d_M_compares_79 rfl rfl ?_
  refine s_iload_n 2 d_M_compares_80 rfl rfl ?_
  refine s_putf 43 rfl d_M_compares_81 fl_M_385 (fun C T h => by cases h; exact Or.inl rfl) rfl (Or.inl rfl) (fun h => nomatch h) (sf_42 (hF.wf (a := 42) (k := 42) (by decide))) ?_
  refine s_aload_n 0 d_M_compares_84 rfl rfl ?_
  refine s_aload_n 0 d_M_compares_85 rfl rfl ?_
  refine s_getF (v := σ.1 42 10) d_M_compares_86 fl_M_189 rfl (sf_42 ((hF.wf (a := 42) (k := 42) (by decide)).wf (a := 42) (k := 43) (by decide))) rfl ?_
  refine s_putf 41 rfl d_M_compares_89 fl_M_376 (fun C T h => by cases h; exact Or.inl rfl) rfl (Or.inl rfl) (fun h => nomatch h) (sf_42 ((hF.wf (a := 42) (k := 42) (by decide)).wf (a := 42) (k := 43) (by decide))) ?_
  refine s_iconst d_M_compares_92 ?_
  refine s_istore_n d_M_compares_93 rfl (by decide) rfl ?_
  refine wp_drop [1, 0] rfl ?_
  exact h
theorem b_M_compares_94 {E : EV} {d : Nat} {Q : Option AV → St → Prop} {σ : St} (x3 : Int) (hF : Fix σ) (h : (rI x3) ∧ (rI (σ.1 42 10)) ∧ (((σ.1 42 10) ≤ x3 → WP E m_M_compares (d + 1) 130 [(0, aP 42), (3, aI 0)] [] (wr σ 42 45 (σ.1 42 29)) Q) ∧ (¬ (σ.1 42 10) ≤ x3 → (0 ≤ x3 ∧ x3 < 24) ∧ (0 ≤ x3 ∧ x3 < 24) ∧ WP E m_M_compares (d + 1) 94 [(0, aP 42), (3, aI (x3 + 1))] [] (wr σ 74 x3 (σ.1 50 x3)) Q))) : WP E m_M_compares (d + 1) 94 [(0, aP 42), (3, aI x3)] [] σ Q := by
  refine s_iload_n 1 d_M_compares_94 rfl rfl ?_
  refine s_aload_n 0 d_M_compares_95 rfl rfl ?_
  refine s_getF (v := σ.1 42 10) d_M_compares_96 fl_M_189 rfl (sf_42 hF) rfl ?_
  obtain ⟨g1, h⟩ := h
  obtain ⟨g2, h⟩ := h
  refine s_icmp_ge d_M_compares_99 rfl g1 g2 (fun c => ?_) (fun c => ?_)
  · have h := h.1 c
    refine s_aload_n 0 d_M_compares_120 rfl rfl ?_
    refine s_aload_n 0 d_M_compares_121 rfl rfl ?_
    refine s_getF (v := σ.1 42 29) d_M_compares_122 fl_M_331 rfl (sf_42 hF) rfl ?_
    refine s_putf 45 rfl d_M_compares_125 fl_M_391 (fun C T h => by cases h; exact Or.inl rfl) rfl (Or.inl rfl) (fun h => nomatch h) (sf_42 hF) ?_
    refine s_iconst d_M_compares_128 ?_
    refine s_istore_n d_M_compares_129 rfl (by decide) rfl ?_
    refine wp_drop [1, 0] rfl ?_
    exact h
  · have h := h.2 c
    refine s_aload_n 0 d_M_compares_102 rfl rfl ?_
    refine s_getF (v := 74) d_M_compares_103 fl_M_109 rfl (sf_42 hF) (ff_59 hF) ?_
    refine s_iload_n 1 d_M_compares_106 rfl rfl ?_
    refine s_aload_n 0 d_M_compares_107 rfl rfl ?_
    refine s_getF (v := 50) d_M_compares_108 fl_M_35 rfl (sf_42 hF) (ff_35 hF) ?_
    refine s_iload_n 1 d_M_compares_111 rfl rfl ?_
    obtain ⟨g3, h⟩ := h
    refine s_ialoadv (v := σ.1 50 x3) d_M_compares_112 ⟨_, sf_50 hF, g3.1, g3.2, by have := g3.2; omega⟩ rfl ?_
    obtain ⟨g4, h⟩ := h
    refine s_iastore d_M_compares_113 ⟨_, sf_74 hF, g4.1, g4.2, by have := g4.2; omega⟩ ?_
    refine s_iinc 1 d_M_compares_114 rfl (by decide) rfl ?_
    refine s_goto d_M_compares_117 rfl ?_
    refine wp_drop [1, 0] rfl ?_
    exact h
theorem b_M_compares_130 {E : EV} {d : Nat} {Q : Option AV → St → Prop} {σ : St} (x3 : Int) (hF : Fix σ) (h : (rI x3) ∧ (rI (σ.1 42 29)) ∧ (((σ.1 42 29) ≤ x3 → Q none σ) ∧ (¬ (σ.1 42 29) ≤ x3 → (0 ≤ x3 ∧ x3 < 2600) ∧ (0 ≤ x3 ∧ x3 < 80) ∧ WP E m_M_compares (d + 1) 130 [(0, aP 42), (3, aI (x3 + 1))] [] (wr σ 75 x3 (σ.1 64 x3)) Q))) : WP E m_M_compares (d + 1) 130 [(0, aP 42), (3, aI x3)] [] σ Q := by
  refine s_iload_n 1 d_M_compares_130 rfl rfl ?_
  refine s_aload_n 0 d_M_compares_131 rfl rfl ?_
  refine s_getF (v := σ.1 42 29) d_M_compares_132 fl_M_331 rfl (sf_42 hF) rfl ?_
  obtain ⟨g1, h⟩ := h
  obtain ⟨g2, h⟩ := h
  refine s_icmp_ge d_M_compares_135 rfl g1 g2 (fun c => ?_) (fun c => ?_)
  · have h := h.1 c
    exact s_return d_M_compares_156 rfl h
  · have h := h.2 c
    refine s_aload_n 0 d_M_compares_138 rfl rfl ?_
    refine s_getF (v := 75) d_M_compares_139 fl_M_112 rfl (sf_42 hF) (ff_60 hF) ?_
    refine s_iload_n 1 d_M_compares_142 rfl rfl ?_
    refine s_aload_n 0 d_M_compares_143 rfl rfl ?_
    refine s_getF (v := 64) d_M_compares_144 fl_M_78 rfl (sf_42 hF) (ff_49 hF) ?_
    refine s_iload_n 1 d_M_compares_147 rfl rfl ?_
    obtain ⟨g3, h⟩ := h
    refine s_ialoadv (v := σ.1 64 x3) d_M_compares_148 ⟨_, sf_64 hF, g3.1, g3.2, by have := g3.2; omega⟩ rfl ?_
    obtain ⟨g4, h⟩ := h
    refine s_iastore d_M_compares_149 ⟨_, sf_75 hF, g4.1, g4.2, by have := g4.2; omega⟩ ?_
    refine s_iinc 1 d_M_compares_150 rfl (by decide) rfl ?_
    refine s_goto d_M_compares_153 rfl ?_
    refine wp_drop [1, 0] rfl ?_
    exact h
theorem d_M_bracketsInText_0 : decode m_M_bracketsInText.2.1 0 = .ok (.iconst 0, 1) := by decide +kernel
theorem d_M_bracketsInText_1 : decode m_M_bracketsInText.2.1 1 = .ok (.istore_n 1, 1) := by decide +kernel
theorem d_M_bracketsInText_2 : decode m_M_bracketsInText.2.1 2 = .ok (.iconst 0, 1) := by decide +kernel
theorem d_M_bracketsInText_3 : decode m_M_bracketsInText.2.1 3 = .ok (.istore_n 2, 1) := by decide +kernel
theorem d_M_bracketsInText_4 : decode m_M_bracketsInText.2.1 4 = .ok (.iload_n 2, 1) := by decide +kernel
theorem d_M_bracketsInText_5 : decode m_M_bracketsInText.2.1 5 = .ok (.aload_n 0, 1) := by decide +kernel
theorem d_M_bracketsInText_6 : decode m_M_bracketsInText.2.1 6 = .ok (.getfield 331, 3) := by decide +kernel
theorem d_M_bracketsInText_9 : decode m_M_bracketsInText.2.1 9 = .ok (.if_icmp .ge 23, 3) := by decide +kernel
theorem d_M_bracketsInText_12 : decode m_M_bracketsInText.2.1 12 = .ok (.aload_n 0, 1) := by decide +kernel
theorem d_M_bracketsInText_13 : decode m_M_bracketsInText.2.1 13 = .ok (.getfield 78, 3) := by decide +kernel
theorem d_M_bracketsInText_16 : decode m_M_bracketsInText.2.1 16 = .ok (.iload_n 2, 1) := by decide +kernel
theorem d_M_bracketsInText_17 : decode m_M_bracketsInText.2.1 17 = .ok (.iaload, 1) := by decide +kernel
theorem d_M_bracketsInText_18 : decode m_M_bracketsInText.2.1 18 = .ok (.bipush 40, 2) := by decide +kernel
theorem d_M_bracketsInText_20 : decode m_M_bracketsInText.2.1 20 = .ok (.if_icmp .ne 6, 3) := by decide +kernel
theorem d_M_bracketsInText_23 : decode m_M_bracketsInText.2.1 23 = .ok (.iinc 1 1, 3) := by decide +kernel
theorem d_M_bracketsInText_26 : decode m_M_bracketsInText.2.1 26 = .ok (.iinc 2 1, 3) := by decide +kernel
theorem d_M_bracketsInText_29 : decode m_M_bracketsInText.2.1 29 = .ok (.goto (-25), 3) := by decide +kernel
theorem d_M_bracketsInText_32 : decode m_M_bracketsInText.2.1 32 = .ok (.iload_n 1, 1) := by decide +kernel
theorem d_M_bracketsInText_33 : decode m_M_bracketsInText.2.1 33 = .ok (.ireturn, 1) := by decide +kernel
theorem b_M_bracketsInText_0 {E : EV} {d : Nat} {Q : Option AV → St → Prop} {σ : St} (h : WP E m_M_bracketsInText d 4 [(0, aP 42), (1, aI 0), (2, aI 0)] [] σ Q) : WP E m_M_bracketsInText d 0 [(0, aP 42)] [] σ Q := by
  refine s_iconst d_M_bracketsInText_0 ?_
  refine s_istore_n d_M_bracketsInText_1 rfl (by decide) rfl ?_
  refine s_iconst d_M_bracketsInText_2 ?_
  refine s_istore_n d_M_bracketsInText_3 rfl (by decide) rfl ?_
  refine wp_drop [2, 1, 0] rfl ?_
  exact h
theorem e_M_bracketsInText {E : EV} {d : Nat} {Q : Option AV → St → Prop} {σ : St} (h : WP E m_M_bracketsInText d 4 [(0, aP 42), (1, aI 0), (2, aI 0)] [] σ Q) : WM E m_M_bracketsInText d [aP 42] σ Q := s_meth (by decide) (Nat.le_of_ble_eq_true rfl) rfl (b_M_bracketsInText_0 h)
theorem b_M_bracketsInText_4 {E : EV} {d : Nat} {Q : Option AV → St → Prop} {σ : St} (x1 x2 : Int) (hF : Fix σ) (h : (rI x2) ∧ (rI (σ.1 42 29)) ∧ (((σ.1 42 29) ≤ x2 → Q (some (aI x1)) σ) ∧ (¬ (σ.1 42 29) ≤ x2 → (0 ≤ x2 ∧ x2 < 2600) ∧ (rI (σ.1 64 x2)) ∧ ((¬ (σ.1 64 x2) = 40 → WP E m_M_bracketsInText d 26 [(0, aP 42), (1, aI x1), (2, aI x2)] [] σ Q) ∧ ((σ.1 64 x2) = 40 → WP E m_M_bracketsInText d 26 [(0, aP 42), (1, aI (x1 + 1)), (2, aI x2)] [] σ Q))))) : WP E m_M_bracketsInText d 4 [(0, aP 42), (1, aI x1), (2, aI x2)] [] σ Q := by
  refine s_iload_n 2 d_M_bracketsInText_4 rfl rfl ?_
  refine s_aload_n 0 d_M_bracketsInText_5 rfl rfl ?_
  refine s_getF (v := σ.1 42 29) d_M_bracketsInText_6 fl_M_331 rfl (sf_42 hF) rfl ?_
  obtain ⟨g1, h⟩ := h
  obtain ⟨g2, h⟩ := h
  refine s_icmp_ge d_M_bracketsInText_9 rfl g1 g2 (fun c => ?_) (fun c => ?_)
  · have h := h.1 c
    refine s_iload_n 1 d_M_bracketsInText_32 rfl rfl ?_
    exact s_ireturn d_M_bracketsInText_33 rfl h
  · have h := h.2 c
    refine s_aload_n 0 d_M_bracketsInText_12 rfl rfl ?_
    refine s_getF (v := 64) d_M_bracketsInText_13 fl_M_78 rfl (sf_42 hF) (ff_49 hF) ?_
    refine s_iload_n 2 d_M_bracketsInText_16 rfl rfl ?_
    obtain ⟨g3, h⟩ := h
    refine s_ialoadv (v := σ.1 64 x2) d_M_bracketsInText_17 ⟨_, sf_64 hF, g3.1, g3.2, by have := g3.2; omega⟩ rfl ?_
    refine s_bipush d_M_bracketsInText_18 (by decide) ?_
    obtain ⟨g4, h⟩ := h
    refine s_icmp_ne d_M_bracketsInText_20 rfl g4 (by decide) (fun c => ?_) (fun c => ?_)
    · have h := h.1 c
      exact h
    · have h := h.2 c
      refine s_iinc 1 d_M_bracketsInText_23 rfl (by decide) rfl ?_
      refine wp_drop [1, 0, 2] rfl ?_
      exact h
theorem b_M_bracketsInText_26 {E : EV} {d : Nat} {Q : Option AV → St → Prop} {σ : St} (x1 x2 : Int) (h : WP E m_M_bracketsInText d 4 [(0, aP 42), (1, aI x1), (2, aI (x2 + 1))] [] σ Q) : WP E m_M_bracketsInText d 26 [(0, aP 42), (1, aI x1), (2, aI x2)] [] σ Q := by
  refine s_iinc 2 d_M_bracketsInText_26 rfl (by decide) rfl ?_
  refine s_goto d_M_bracketsInText_29 rfl ?_
  refine wp_drop [1, 2, 0] rfl ?_
  exact h
theorem d_M_isAhead_0 : decode m_M_isAhead.2.1 0 = .ok (.iconst 0, 1) := by decide +kernel
theorem d_M_isAhead_1 : decode m_M_isAhead.2.1 1 = .ok (.istore_n 1, 1) := by decide +kernel
theorem d_M_isAhead_2 : decode m_M_isAhead.2.1 2 = .ok (.iload_n 1, 1) := by decide +kernel
theorem d_M_isAhead_3 : decode m_M_isAhead.2.1 3 = .ok (.aload_n 0, 1) := by decide +kernel
theorem d_M_isAhead_4 : decode m_M_isAhead.2.1 4 = .ok (.getfield 331, 3) := by decide +kernel
theorem d_M_isAhead_7 : decode m_M_isAhead.2.1 7 = .ok (.if_icmp .ge 45, 3) := by decide +kernel
theorem d_M_isAhead_10 : decode m_M_isAhead.2.1 10 = .ok (.aload_n 0, 1) := by decide +kernel
theorem d_M_isAhead_11 : decode m_M_isAhead.2.1 11 = .ok (.getfield 78, 3) := by decide +kernel
theorem d_M_isAhead_14 : decode m_M_isAhead.2.1 14 = .ok (.iload_n 1, 1) := by decide +kernel
theorem d_M_isAhead_15 : decode m_M_isAhead.2.1 15 = .ok (.iaload, 1) := by decide +kernel
theorem d_M_isAhead_16 : decode m_M_isAhead.2.1 16 = .ok (.aload_n 0, 1) := by decide +kernel
theorem d_M_isAhead_17 : decode m_M_isAhead.2.1 17 = .ok (.getfield 112, 3) := by decide +kernel
theorem d_M_isAhead_20 : decode m_M_isAhead.2.1 20 = .ok (.iload_n 1, 1) := by decide +kernel
theorem d_M_isAhead_21 : decode m_M_isAhead.2.1 21 = .ok (.iaload, 1) := by decide +kernel
theorem d_M_isAhead_22 : decode m_M_isAhead.2.1 22 = .ok (.if_icmp .eq 24, 3) := by decide +kernel
theorem d_M_isAhead_25 : decode m_M_isAhead.2.1 25 = .ok (.aload_n 0, 1) := by decide +kernel
theorem d_M_isAhead_26 : decode m_M_isAhead.2.1 26 = .ok (.getfield 78, 3) := by decide +kernel
theorem d_M_isAhead_29 : decode m_M_isAhead.2.1 29 = .ok (.iload_n 1, 1) := by decide +kernel
theorem d_M_isAhead_30 : decode m_M_isAhead.2.1 30 = .ok (.iaload, 1) := by decide +kernel
theorem d_M_isAhead_31 : decode m_M_isAhead.2.1 31 = .ok (.aload_n 0, 1) := by decide +kernel
theorem d_M_isAhead_32 : decode m_M_isAhead.2.1 32 = .ok (.getfield 112, 3) := by decide +kernel
theorem d_M_isAhead_35 : decode m_M_isAhead.2.1 35 = .ok (.iload_n 1, 1) := by decide +kernel
theorem d_M_isAhead_36 : decode m_M_isAhead.2.1 36 = .ok (.iaload, 1) := by decide +kernel
theorem d_M_isAhead_37 : decode m_M_isAhead.2.1 37 = .ok (.if_icmp .ge 7, 3) := by decide +kernel
theorem d_M_isAhead_40 : decode m_M_isAhead.2.1 40 = .ok (.iconst 1, 1) := by decide +kernel
theorem d_M_isAhead_41 : decode m_M_isAhead.2.1 41 = .ok (.goto 4, 3) := by decide +kernel
theorem d_M_isAhead_44 : decode m_M_isAhead.2.1 44 = .ok (.iconst 0, 1) := by decide +kernel
theorem d_M_isAhead_45 : decode m_M_isAhead.2.1 45 = .ok (.ireturn, 1) := by decide +kernel
theorem d_M_isAhead_46 : decode m_M_isAhead.2.1 46 = .ok (.iinc 1 1, 3) := by decide +kernel
theorem d_M_isAhead_49 : decode m_M_isAhead.2.1 49 = .ok (.goto (-47), 3) := by decide +kernel
theorem d_M_isAhead_52 : decode m_M_isAhead.2.1 52 = .ok (.iconst 0, 1) := by decide +kernel
theorem d_M_isAhead_53 : decode m_M_isAhead.2.1 53 = .ok (.ireturn, 1) := by decide +kernel
theorem b_M_isAhead_0 {E : EV} {d : Nat} {Q : Option AV → St → Prop} {σ : St} (h : WP E m_M_isAhead d 2 [(0, aP 42), (1, aI 0)] [] σ Q) : WP E m_M_isAhead d 0 [(0, aP 42)] [] σ Q := by
  refine s_iconst d_M_isAhead_0 ?_
  refine s_istore_n d_M_isAhead_1 rfl (by decide) rfl ?_
  refine wp_drop [1, 0] rfl ?_
  exact h
theorem e_M_isAhead {E : EV} {d : Nat} {Q : Option AV → St → Prop} {σ : St} (h : WP E m_M_isAhead d 2 [(0, aP 42), (1, aI 0)] [] σ Q) : WM E m_M_isAhead d [aP 42] σ Q := s_meth (by decide) (Nat.le_of_ble_eq_true rfl) rfl (b_M_isAhead_0 h)
theorem b_M_isAhead_2 {E : EV} {d : Nat} {Q : Option AV → St → Prop} {σ : St} (x1 : Int) (hF : Fix σ) (h : (rI x1) ∧ (rI (σ.1 42 29)) ∧ (((σ.1 42 29) ≤ x1 → Q (some (aI 0)) σ) ∧ (¬ (σ.1 42 29) ≤ x1 → (0 ≤ x1 ∧ x1 < 2600) ∧ (0 ≤ x1 ∧ x1 < 80) ∧ (rI (σ.1 64 x1)) ∧ (rI (σ.1 75 x1)) ∧ (((σ.1 64 x1) = (σ.1 75 x1) → WP E m_M_isAhead d 2 [(0, aP 42), (1, aI (x1 + 1))] [] σ Q) ∧ (¬ (σ.1 64 x1) = (σ.1 75 x1) → (0 ≤ x1 ∧ x1 < 2600) ∧ (0 ≤ x1 ∧ x1 < 80) ∧ (rI (σ.1 64 x1)) ∧ (rI (σ.1 75 x1)) ∧ (((σ.1 75 x1) ≤ (σ.1 64 x1) → Q (some (aI 0)) σ) ∧ (¬ (σ.1 75 x1) ≤ (σ.1 64 x1) → Q (some (aI 1)) σ))))))) : WP E m_M_isAhead d 2 [(0, aP 42), (1, aI x1)] [] σ Q := by
  refine s_iload_n 1 d_M_isAhead_2 rfl rfl ?_
  refine s_aload_n 0 d_M_isAhead_3 rfl rfl ?_
  refine s_getF (v := σ.1 42 29) d_M_isAhead_4 fl_M_331 rfl (sf_42 hF) rfl ?_
  obtain ⟨g1, h⟩ := h
  obtain ⟨g2, h⟩ := h
  refine s_icmp_ge d_M_isAhead_7 rfl g1 g2 (fun c => ?_) (fun c => ?_)
  · have h := h.1 c
    refine s_iconst d_M_isAhead_52 ?_
    exact s_zreturn d_M_isAhead_53 rfl (by decide) h
  · have h := h.2 c
    refine s_aload_n 0 d_M_isAhead_10 rfl rfl ?_
    refine s_getF (v := 64) d_M_isAhead_11 fl_M_78 rfl (sf_42 hF) (ff_49 hF) ?_
    refine s_iload_n 1 d_M_isAhead_14 rfl rfl ?_
    obtain ⟨g3, h⟩ := h
    refine s_ialoadv (v := σ.1 64 x1) d_M_isAhead_15 ⟨_, sf_64 hF, g3.1, g3.2, by have := g3.2; omega⟩ rfl ?_
    refine s_aload_n 0 d_M_isAhead_16 rfl rfl ?_
    refine s_getF (v := 75) d_M_isAhead_17 fl_M_112 rfl (sf_42 hF) (ff_60 hF) ?_
    refine s_iload_n 1 d_M_isAhead_20 rfl rfl ?_
    obtain ⟨g4, h⟩ := h
    refine s_ialoadv (v := σ.1 75 x1) d_M_isAhead_21 ⟨_, sf_75 hF, g4.1, g4.2, by have := g4.2; omega⟩ rfl ?_
    obtain ⟨g5, h⟩ := h
    obtain ⟨g6, h⟩ := h
    refine s_icmp_eq d_M_isAhead_22 rfl g5 g6 (fun c => ?_) (fun c => ?_)
    · have h := h.1 c
      refine s_iinc 1 d_M_isAhead_46 rfl (by decide) rfl ?_
      refine s_goto d_M_isAhead_49 rfl ?_
      refine wp_drop [1, 0] rfl ?_
      exact h
    · have h := h.2 c
      refine s_aload_n 0 d_M_isAhead_25 rfl rfl ?_
      refine s_getF (v := 64) d_M_isAhead_26 fl_M_78 rfl (sf_42 hF) (ff_49 hF) ?_
      refine s_iload_n 1 d_M_isAhead_29 rfl rfl ?_
      obtain ⟨g7, h⟩ := h
      refine s_ialoadv (v := σ.1 64 x1) d_M_isAhead_30 ⟨_, sf_64 hF, g7.1, g7.2, by have := g7.2; omega⟩ rfl ?_
      refine s_aload_n 0 d_M_isAhead_31 rfl rfl ?_
      refine s_getF (v := 75) d_M_isAhead_32 fl_M_112 rfl (sf_42 hF) (ff_60 hF) ?_
      refine s_iload_n 1 d_M_isAhead_35 rfl rfl ?_
      obtain ⟨g8, h⟩ := h
      refine s_ialoadv (v := σ.1 75 x1) d_M_isAhead_36 ⟨_, sf_75 hF, g8.1, g8.2, by have := g8.2; omega⟩ rfl ?_
      obtain ⟨g9, h⟩ := h
      obtain ⟨g10, h⟩ := h
      refine s_icmp_ge d_M_isAhead_37 rfl g9 g10 (fun c => ?_) (fun c => ?_)
      · have h := h.1 c
        refine s_iconst d_M_isAhead_44 ?_
        exact s_zreturn d_M_isAhead_45 rfl (by decide) h
      · have h := h.2 c
        refine s_iconst d_M_isAhead_40 ?_
        refine s_goto d_M_isAhead_41 rfl ?_
        exact s_zreturn d_M_isAhead_45 rfl (by decide) h
theorem d_M_ways_0 : decode m_M_ways.2.1 0 = .ok (.aload_n 0, 1) := by decide +kernel
theorem d_M_ways_1 : decode m_M_ways.2.1 1 = .ok (.iload_n 1, 1) := by decide +kernel
theorem d_M_ways_2 : decode m_M_ways.2.1 2 = .ok (.iload_n 2, 1) := by decide +kernel
theorem d_M_ways_3 : decode m_M_ways.2.1 3 = .ok (.invokevirtual 206, 3) := by decide +kernel
theorem d_M_ways_6 : decode m_M_ways.2.1 6 = .ok (.ifCond .ne 5, 3) := by decide +kernel
theorem d_M_ways_9 : decode m_M_ways.2.1 9 = .ok (.iconst (-1), 1) := by decide +kernel
theorem d_M_ways_10 : decode m_M_ways.2.1 10 = .ok (.ireturn, 1) := by decide +kernel
theorem d_M_ways_11 : decode m_M_ways.2.1 11 = .ok (.aload_n 0, 1) := by decide +kernel
theorem d_M_ways_12 : decode m_M_ways.2.1 12 = .ok (.invokevirtual 394, 3) := by decide +kernel
theorem d_M_ways_15 : decode m_M_ways.2.1 15 = .ok (.aload_n 0, 1) := by decide +kernel
theorem d_M_ways_16 : decode m_M_ways.2.1 16 = .ok (.iload_n 1, 1) := by decide +kernel
theorem d_M_ways_17 : decode m_M_ways.2.1 17 = .ok (.iload_n 2, 1) := by decide +kernel
theorem d_M_ways_18 : decode m_M_ways.2.1 18 = .ok (.invokevirtual 210, 3) := by decide +kernel
theorem d_M_ways_21 : decode m_M_ways.2.1 21 = .ok (.aload_n 0, 1) := by decide +kernel
theorem d_M_ways_22 : decode m_M_ways.2.1 22 = .ok (.invokevirtual 397, 3) := by decide +kernel
theorem d_M_ways_25 : decode m_M_ways.2.1 25 = .ok (.aload_n 0, 1) := by decide +kernel
theorem d_M_ways_26 : decode m_M_ways.2.1 26 = .ok (.getfield 373, 3) := by decide +kernel
theorem d_M_ways_29 : decode m_M_ways.2.1 29 = .ok (.bipush 6, 2) := by decide +kernel
theorem d_M_ways_31 : decode m_M_ways.2.1 31 = .ok (.if_icmp .le 8, 3) := by decide +kernel
theorem d_M_ways_34 : decode m_M_ways.2.1 34 = .ok (.bipush (-2), 2) := by decide +kernel
theorem d_M_ways_36 : decode m_M_ways.2.1 36 = .ok (.goto 26, 3) := by decide +kernel
theorem d_M_ways_39 : decode m_M_ways.2.1 39 = .ok (.aload_n 0, 1) := by decide +kernel
theorem d_M_ways_40 : decode m_M_ways.2.1 40 = .ok (.getfield 373, 3) := by decide +kernel
theorem d_M_ways_43 : decode m_M_ways.2.1 43 = .ok (.iconst 1, 1) := by decide +kernel
theorem d_M_ways_44 : decode m_M_ways.2.1 44 = .ok (.if_icmp .ne 7, 3) := by decide +kernel
theorem d_M_ways_47 : decode m_M_ways.2.1 47 = .ok (.iconst 1, 1) := by decide +kernel
theorem d_M_ways_48 : decode m_M_ways.2.1 48 = .ok (.goto 14, 3) := by decide +kernel
theorem d_M_ways_51 : decode m_M_ways.2.1 51 = .ok (.iconst 2, 1) := by decide +kernel
theorem d_M_ways_52 : decode m_M_ways.2.1 52 = .ok (.aload_n 0, 1) := by decide +kernel
theorem d_M_ways_53 : decode m_M_ways.2.1 53 = .ok (.getfield 97, 3) := by decide +kernel
theorem d_M_ways_56 : decode m_M_ways.2.1 56 = .ok (.aload_n 0, 1) := by decide +kernel
theorem d_M_ways_57 : decode m_M_ways.2.1 57 = .ok (.getfield 373, 3) := by decide +kernel
theorem d_M_ways_60 : decode m_M_ways.2.1 60 = .ok (.iaload, 1) := by decide +kernel
theorem d_M_ways_61 : decode m_M_ways.2.1 61 = .ok (.imul, 1) := by decide +kernel
theorem d_M_ways_62 : decode m_M_ways.2.1 62 = .ok (.ireturn, 1) := by decide +kernel
theorem b_M_ways_0 {E : EV} {d : Nat} {Q : Option AV → St → Prop} {σ : St} (x1 x2 : Int) (hF : Fix σ) (h : (WMi E m_M_isSquare d [aP 42, aI x1, aI x2] σ (fun v1 σ1 => Fix σ1 ∧ (rI v1) ∧ ((¬ v1 = 0 → (WMv E m_M_laysAllForms d [aP 42] σ1 (fun σ3 => Fix σ3 ∧ (WMv E m_M_takes d [aP 42, aI x1, aI x2] σ3 (fun σ4 => Fix σ4 ∧ (WMv E m_M_laysItems d [aP 42] σ4 (fun σ5 => Fix σ5 ∧ (rI (σ5.1 42 39)) ∧ (((σ5.1 42 39) ≤ 6 → (rI (σ5.1 42 39)) ∧ ((¬ (σ5.1 42 39) = 1 → (0 ≤ (σ5.1 42 39) ∧ (σ5.1 42 39) < 7) ∧ Q (some (aI (2 * (σ5.1 70 (σ5.1 42 39))))) σ5) ∧ ((σ5.1 42 39) = 1 → Q (some (aI 1)) σ5))) ∧ (¬ (σ5.1 42 39) ≤ 6 → Q (some (aI (-2))) σ5))))))))) ∧ (v1 = 0 → Q (some (aI (-1))) σ1))))) : WP E m_M_ways (d + 1) 0 [(0, aP 42), (1, aI x1), (2, aI x2)] [] σ Q := by
  refine s_aload_n 0 d_M_ways_0 rfl rfl ?_
  refine s_iload_n 1 d_M_ways_1 rfl rfl ?_
  refine s_iload_n 2 d_M_ways_2 rfl rfl ?_
  refine s_callV (as := [aI x1, aI x2]) (ci := 10) d_M_ways_3 ok_M_isSquare lk_M_206 io_M_isSquare so_M_isSquare (by decide) rfl rfl rfl (Nat.le_of_ble_eq_true rfl) rfl (sf_42 hF) (WM.mono h ?_)
  rintro _ σ1 ⟨v1, rfl, hp, h⟩
  obtain ⟨hF1, h⟩ := h
  show WP E m_M_ways (d + 1) 6 [(0, aP 42), (1, aI x1), (2, aI x2)] [aI v1] σ1 Q
  obtain ⟨g2, h⟩ := h
  refine s_if_ne d_M_ways_6 rfl g2 (fun c => ?_) (fun c => ?_)
  · have h := h.1 c
    refine s_aload_n 0 d_M_ways_11 rfl rfl ?_
    refine s_callV (as := []) (ci := 10) d_M_ways_12 ok_M_laysAllForms lk_M_394 io_M_laysAllForms so_M_laysAllForms (by decide) rfl rfl rfl (Nat.le_of_ble_eq_true rfl) rfl (sf_42 hF1) (WM.mono h ?_)
    rintro _ σ3 ⟨rfl, hp, h⟩
    obtain ⟨hF3, h⟩ := h
    show WP E m_M_ways (d + 1) 15 [(0, aP 42), (1, aI x1), (2, aI x2)] [] σ3 Q
    refine s_aload_n 0 d_M_ways_15 rfl rfl ?_
    refine s_iload_n 1 d_M_ways_16 rfl rfl ?_
    refine s_iload_n 2 d_M_ways_17 rfl rfl ?_
    refine s_callV (as := [aI x1, aI x2]) (ci := 10) d_M_ways_18 ok_M_takes lk_M_210 io_M_takes so_M_takes (by decide) rfl rfl rfl (Nat.le_of_ble_eq_true rfl) rfl (sf_42 hF3) (WM.mono h ?_)
    rintro _ σ4 ⟨rfl, hp, h⟩
    obtain ⟨hF4, h⟩ := h
    show WP E m_M_ways (d + 1) 21 [(0, aP 42), (1, aI x1), (2, aI x2)] [] σ4 Q
    refine s_aload_n 0 d_M_ways_21 rfl rfl ?_
    refine s_callV (as := []) (ci := 10) d_M_ways_22 ok_M_laysItems lk_M_397 io_M_laysItems so_M_laysItems (by decide) rfl rfl rfl (Nat.le_of_ble_eq_true rfl) rfl (sf_42 hF4) (WM.mono h ?_)
    rintro _ σ5 ⟨rfl, hp, h⟩
    obtain ⟨hF5, h⟩ := h
    show WP E m_M_ways (d + 1) 25 [(0, aP 42), (1, aI x1), (2, aI x2)] [] σ5 Q
    refine s_aload_n 0 d_M_ways_25 rfl rfl ?_
    refine s_getF (v := σ5.1 42 39) d_M_ways_26 fl_M_373 rfl (sf_42 hF5) rfl ?_
    refine s_bipush d_M_ways_29 (by decide) ?_
    obtain ⟨g6, h⟩ := h
    refine s_icmp_le d_M_ways_31 rfl g6 (by decide) (fun c => ?_) (fun c => ?_)
    · have h := h.1 c
      refine s_aload_n 0 d_M_ways_39 rfl rfl ?_
      refine s_getF (v := σ5.1 42 39) d_M_ways_40 fl_M_373 rfl (sf_42 hF5) rfl ?_
      refine s_iconst d_M_ways_43 ?_
      obtain ⟨g7, h⟩ := h
      refine s_icmp_ne d_M_ways_44 rfl g7 (by decide) (fun c => ?_) (fun c => ?_)
      · have h := h.1 c
        refine s_iconst d_M_ways_51 ?_
        refine s_aload_n 0 d_M_ways_52 rfl rfl ?_
        refine s_getF (v := 70) d_M_ways_53 fl_M_97 rfl (sf_42 hF5) (ff_55 hF5) ?_
        refine s_aload_n 0 d_M_ways_56 rfl rfl ?_
        refine s_getF (v := σ5.1 42 39) d_M_ways_57 fl_M_373 rfl (sf_42 hF5) rfl ?_
        obtain ⟨g8, h⟩ := h
        refine s_ialoadv (v := σ5.1 70 (σ5.1 42 39)) d_M_ways_60 ⟨_, sf_70 hF5, g8.1, g8.2, by have := g8.2; omega⟩ rfl ?_
        refine s_imul d_M_ways_61 ?_
        exact s_ireturn d_M_ways_62 rfl h
      · have h := h.2 c
        refine s_iconst d_M_ways_47 ?_
        refine s_goto d_M_ways_48 rfl ?_
        exact s_ireturn d_M_ways_62 rfl h
    · have h := h.2 c
      refine s_bipush d_M_ways_34 (by decide) ?_
      refine s_goto d_M_ways_36 rfl ?_
      exact s_ireturn d_M_ways_62 rfl h
  · have h := h.2 c
    refine s_iconst d_M_ways_9 ?_
    exact s_ireturn d_M_ways_10 rfl h
theorem e_M_ways {E : EV} {d : Nat} {Q : Option AV → St → Prop} {σ : St} (x1 x2 : Int) (hF : Fix σ) (h : (WMi E m_M_isSquare d [aP 42, aI x1, aI x2] σ (fun v1 σ1 => Fix σ1 ∧ (rI v1) ∧ ((¬ v1 = 0 → (WMv E m_M_laysAllForms d [aP 42] σ1 (fun σ3 => Fix σ3 ∧ (WMv E m_M_takes d [aP 42, aI x1, aI x2] σ3 (fun σ4 => Fix σ4 ∧ (WMv E m_M_laysItems d [aP 42] σ4 (fun σ5 => Fix σ5 ∧ (rI (σ5.1 42 39)) ∧ (((σ5.1 42 39) ≤ 6 → (rI (σ5.1 42 39)) ∧ ((¬ (σ5.1 42 39) = 1 → (0 ≤ (σ5.1 42 39) ∧ (σ5.1 42 39) < 7) ∧ Q (some (aI (2 * (σ5.1 70 (σ5.1 42 39))))) σ5) ∧ ((σ5.1 42 39) = 1 → Q (some (aI 1)) σ5))) ∧ (¬ (σ5.1 42 39) ≤ 6 → Q (some (aI (-2))) σ5))))))))) ∧ (v1 = 0 → Q (some (aI (-1))) σ1))))) : WM E m_M_ways (d + 1) [aP 42, aI x1, aI x2] σ Q := s_meth (by decide) (Nat.le_of_ble_eq_true rfl) rfl (b_M_ways_0 x1 x2 hF h)
theorem d_M_best_0 : decode m_M_best.2.1 0 = .ok (.aload_n 0, 1) := by decide +kernel
theorem d_M_best_1 : decode m_M_best.2.1 1 = .ok (.iload_n 1, 1) := by decide +kernel
theorem d_M_best_2 : decode m_M_best.2.1 2 = .ok (.iload_n 2, 1) := by decide +kernel
theorem d_M_best_3 : decode m_M_best.2.1 3 = .ok (.invokevirtual 206, 3) := by decide +kernel
theorem d_M_best_6 : decode m_M_best.2.1 6 = .ok (.ifCond .eq 12, 3) := by decide +kernel
theorem d_M_best_9 : decode m_M_best.2.1 9 = .ok (.iload_n 3, 1) := by decide +kernel
theorem d_M_best_10 : decode m_M_best.2.1 10 = .ok (.iconst 0, 1) := by decide +kernel
theorem d_M_best_11 : decode m_M_best.2.1 11 = .ok (.iconst 1, 1) := by decide +kernel
theorem d_M_best_12 : decode m_M_best.2.1 12 = .ok (.invokestatic 167, 3) := by decide +kernel
theorem d_M_best_15 : decode m_M_best.2.1 15 = .ok (.ifCond .ne 5, 3) := by decide +kernel
theorem d_M_best_18 : decode m_M_best.2.1 18 = .ok (.iconst (-1), 1) := by decide +kernel
theorem d_M_best_19 : decode m_M_best.2.1 19 = .ok (.ireturn, 1) := by decide +kernel
theorem d_M_best_20 : decode m_M_best.2.1 20 = .ok (.aload_n 0, 1) := by decide +kernel
theorem d_M_best_21 : decode m_M_best.2.1 21 = .ok (.iload_n 1, 1) := by decide +kernel
theorem d_M_best_22 : decode m_M_best.2.1 22 = .ok (.iload_n 2, 1) := by decide +kernel
theorem d_M_best_23 : decode m_M_best.2.1 23 = .ok (.invokevirtual 406, 3) := by decide +kernel
theorem d_M_best_26 : decode m_M_best.2.1 26 = .ok (.ifCond .ne 6, 3) := by decide +kernel
theorem d_M_best_29 : decode m_M_best.2.1 29 = .ok (.bipush (-2), 2) := by decide +kernel
theorem d_M_best_31 : decode m_M_best.2.1 31 = .ok (.ireturn, 1) := by decide +kernel
theorem d_M_best_32 : decode m_M_best.2.1 32 = .ok (.aload_n 0, 1) := by decide +kernel
theorem d_M_best_33 : decode m_M_best.2.1 33 = .ok (.aload_n 0, 1) := by decide +kernel
theorem d_M_best_34 : decode m_M_best.2.1 34 = .ok (.getfield 26, 3) := by decide +kernel
theorem d_M_best_37 : decode m_M_best.2.1 37 = .ok (.iconst 0, 1) := by decide +kernel
theorem d_M_best_38 : decode m_M_best.2.1 38 = .ok (.iaload, 1) := by decide +kernel
theorem d_M_best_39 : decode m_M_best.2.1 39 = .ok (.i2l, 1) := by decide +kernel
theorem d_M_best_40 : decode m_M_best.2.1 40 = .ok (.aload_n 0, 1) := by decide +kernel
theorem d_M_best_41 : decode m_M_best.2.1 41 = .ok (.getfield 379, 3) := by decide +kernel
theorem d_M_best_44 : decode m_M_best.2.1 44 = .ok (.i2l, 1) := by decide +kernel
theorem d_M_best_45 : decode m_M_best.2.1 45 = .ok (.invokevirtual 234, 3) := by decide +kernel
theorem d_M_best_48 : decode m_M_best.2.1 48 = .ok (.aload_n 0, 1) := by decide +kernel
theorem d_M_best_49 : decode m_M_best.2.1 49 = .ok (.iload_n 3, 1) := by decide +kernel
theorem d_M_best_50 : decode m_M_best.2.1 50 = .ok (.invokevirtual 273, 3) := by decide +kernel
theorem d_M_best_53 : decode m_M_best.2.1 53 = .ok (.l2i, 1) := by decide +kernel
theorem d_M_best_54 : decode m_M_best.2.1 54 = .ok (.ireturn, 1) := by decide +kernel
theorem b_M_best_0 {E : EV} {d : Nat} {Q : Option AV → St → Prop} {σ : St} (x1 x2 x3 : Int) (hF : Fix σ) (h : (WMi E m_M_isSquare d [aP 42, aI x1, aI x2] σ (fun v1 σ1 => Fix σ1 ∧ (rI v1) ∧ ((v1 = 0 → Q (some (aI (-1))) σ1) ∧ (¬ v1 = 0 → (WMi E m_M_in d [aI x3, aI 0, aI 1] σ1 (fun v3 σ3 => Fix σ3 ∧ (rI v3) ∧ ((¬ v3 = 0 → (WMi E m_M_laysBest d [aP 42, aI x1, aI x2] σ3 (fun v5 σ5 => Fix σ5 ∧ (rI v5) ∧ ((¬ v5 = 0 → (rI (σ5.1 47 0)) ∧ (rI (σ5.1 42 42)) ∧ (WMv E m_M_tells d [aP 42, aL (σ5.1 47 0), aL (σ5.1 42 42)] σ5 (fun σ9 => Fix σ9 ∧ (WMl E m_M_term d [aP 42, aI x3] σ9 (fun v10 σ10 => Q (some (aI v10)) σ10))))) ∧ (v5 = 0 → Q (some (aI (-2))) σ5))))) ∧ (v3 = 0 → Q (some (aI (-1))) σ3))))))))) : WP E m_M_best (d + 1) 0 [(0, aP 42), (1, aI x1), (2, aI x2), (3, aI x3)] [] σ Q := by
  refine s_aload_n 0 d_M_best_0 rfl rfl ?_
  refine s_iload_n 1 d_M_best_1 rfl rfl ?_
  refine s_iload_n 2 d_M_best_2 rfl rfl ?_
  refine s_callV (as := [aI x1, aI x2]) (ci := 10) d_M_best_3 ok_M_isSquare lk_M_206 io_M_isSquare so_M_isSquare (by decide) rfl rfl rfl (Nat.le_of_ble_eq_true rfl) rfl (sf_42 hF) (WM.mono h ?_)
  rintro _ σ1 ⟨v1, rfl, hp, h⟩
  obtain ⟨hF1, h⟩ := h
  show WP E m_M_best (d + 1) 6 [(0, aP 42), (1, aI x1), (2, aI x2), (3, aI x3)] [aI v1] σ1 Q
  obtain ⟨g2, h⟩ := h
  refine s_if_eq d_M_best_6 rfl g2 (fun c => ?_) (fun c => ?_)
  · have h := h.1 c
    refine s_iconst d_M_best_18 ?_
    exact s_ireturn d_M_best_19 rfl h
  · have h := h.2 c
    refine s_iload_n 3 d_M_best_9 rfl rfl ?_
    refine s_iconst d_M_best_10 ?_
    refine s_iconst d_M_best_11 ?_
    refine s_callS (as := [aI x3, aI 0, aI 1]) d_M_best_12 ok_M_in lk_M_167 to_M_in rfl (Nat.le_of_ble_eq_true rfl) rfl (WM.mono h ?_)
    rintro _ σ3 ⟨v3, rfl, hp, h⟩
    obtain ⟨hF3, h⟩ := h
    show WP E m_M_best (d + 1) 15 [(0, aP 42), (1, aI x1), (2, aI x2), (3, aI x3)] [aI v3] σ3 Q
    obtain ⟨g4, h⟩ := h
    refine s_if_ne d_M_best_15 rfl g4 (fun c => ?_) (fun c => ?_)
    · have h := h.1 c
      refine s_aload_n 0 d_M_best_20 rfl rfl ?_
      refine s_iload_n 1 d_M_best_21 rfl rfl ?_
      refine s_iload_n 2 d_M_best_22 rfl rfl ?_
      refine s_callV (as := [aI x1, aI x2]) (ci := 10) d_M_best_23 ok_M_laysBest lk_M_406 io_M_laysBest so_M_laysBest (by decide) rfl rfl rfl (Nat.le_of_ble_eq_true rfl) rfl (sf_42 hF3) (WM.mono h ?_)
      rintro _ σ5 ⟨v5, rfl, hp, h⟩
      obtain ⟨hF5, h⟩ := h
      show WP E m_M_best (d + 1) 26 [(0, aP 42), (1, aI x1), (2, aI x2), (3, aI x3)] [aI v5] σ5 Q
      obtain ⟨g6, h⟩ := h
      refine s_if_ne d_M_best_26 rfl g6 (fun c => ?_) (fun c => ?_)
      · have h := h.1 c
        refine s_aload_n 0 d_M_best_32 rfl rfl ?_
        refine s_aload_n 0 d_M_best_33 rfl rfl ?_
        refine s_getF (v := 47) d_M_best_34 fl_M_26 rfl (sf_42 hF5) (ff_32 hF5) ?_
        refine s_iconst d_M_best_37 ?_
        refine s_ialoadv (v := σ5.1 47 0) d_M_best_38 ⟨_, sf_47 hF5, by decide, by decide, by decide⟩ rfl ?_
        obtain ⟨g7, h⟩ := h
        refine s_i2l d_M_best_39 g7 ?_
        refine s_aload_n 0 d_M_best_40 rfl rfl ?_
        refine s_getF (v := σ5.1 42 42) d_M_best_41 fl_M_379 rfl (sf_42 hF5) rfl ?_
        obtain ⟨g8, h⟩ := h
        refine s_i2l d_M_best_44 g8 ?_
        refine s_callV (as := [aL (σ5.1 47 0), aL (σ5.1 42 42)]) (ci := 10) d_M_best_45 ok_M_tells lk_M_234 io_M_tells so_M_tells (by decide) rfl rfl rfl (Nat.le_of_ble_eq_true rfl) rfl (sf_42 hF5) (WM.mono h ?_)
        rintro _ σ9 ⟨rfl, hp, h⟩
        obtain ⟨hF9, h⟩ := h
        show WP E m_M_best (d + 1) 48 [(0, aP 42), (1, aI x1), (2, aI x2), (3, aI x3)] [] σ9 Q
        refine s_aload_n 0 d_M_best_48 rfl rfl ?_
        refine s_iload_n 3 d_M_best_49 rfl rfl ?_
        refine s_callV (as := [aI x3]) (ci := 10) d_M_best_50 ok_M_term lk_M_273 io_M_term so_M_term (by decide) rfl rfl rfl (Nat.le_of_ble_eq_true rfl) rfl (sf_42 hF9) (WM.mono h ?_)
        rintro _ σ10 ⟨v10, rfl, hp, h⟩
        show WP E m_M_best (d + 1) 53 [(0, aP 42), (1, aI x1), (2, aI x2), (3, aI x3)] [aL v10] σ10 Q
        refine s_l2i d_M_best_53 ?_
        exact s_ireturn d_M_best_54 rfl h
      · have h := h.2 c
        refine s_bipush d_M_best_29 (by decide) ?_
        exact s_ireturn d_M_best_31 rfl h
    · have h := h.2 c
      refine s_iconst d_M_best_18 ?_
      exact s_ireturn d_M_best_19 rfl h
theorem e_M_best {E : EV} {d : Nat} {Q : Option AV → St → Prop} {σ : St} (x1 x2 x3 : Int) (hF : Fix σ) (h : (WMi E m_M_isSquare d [aP 42, aI x1, aI x2] σ (fun v1 σ1 => Fix σ1 ∧ (rI v1) ∧ ((v1 = 0 → Q (some (aI (-1))) σ1) ∧ (¬ v1 = 0 → (WMi E m_M_in d [aI x3, aI 0, aI 1] σ1 (fun v3 σ3 => Fix σ3 ∧ (rI v3) ∧ ((¬ v3 = 0 → (WMi E m_M_laysBest d [aP 42, aI x1, aI x2] σ3 (fun v5 σ5 => Fix σ5 ∧ (rI v5) ∧ ((¬ v5 = 0 → (rI (σ5.1 47 0)) ∧ (rI (σ5.1 42 42)) ∧ (WMv E m_M_tells d [aP 42, aL (σ5.1 47 0), aL (σ5.1 42 42)] σ5 (fun σ9 => Fix σ9 ∧ (WMl E m_M_term d [aP 42, aI x3] σ9 (fun v10 σ10 => Q (some (aI v10)) σ10))))) ∧ (v5 = 0 → Q (some (aI (-2))) σ5))))) ∧ (v3 = 0 → Q (some (aI (-1))) σ3))))))))) : WM E m_M_best (d + 1) [aP 42, aI x1, aI x2, aI x3] σ Q := s_meth (by decide) (Nat.le_of_ble_eq_true rfl) rfl (b_M_best_0 x1 x2 x3 hF h)
theorem d_M_bestText_0 : decode m_M_bestText.2.1 0 = .ok (.aload_n 0, 1) := by decide +kernel
theorem d_M_bestText_1 : decode m_M_bestText.2.1 1 = .ok (.iload_n 1, 1) := by decide +kernel
theorem d_M_bestText_2 : decode m_M_bestText.2.1 2 = .ok (.iload_n 2, 1) := by decide +kernel
theorem d_M_bestText_3 : decode m_M_bestText.2.1 3 = .ok (.invokevirtual 206, 3) := by decide +kernel
theorem d_M_bestText_6 : decode m_M_bestText.2.1 6 = .ok (.ifCond .eq 8, 3) := by decide +kernel
theorem d_M_bestText_9 : decode m_M_bestText.2.1 9 = .ok (.iload_n 3, 1) := by decide +kernel
theorem d_M_bestText_10 : decode m_M_bestText.2.1 10 = .ok (.iconst (-1), 1) := by decide +kernel
theorem d_M_bestText_11 : decode m_M_bestText.2.1 11 = .ok (.if_icmp .ge 5, 3) := by decide +kernel
theorem d_M_bestText_14 : decode m_M_bestText.2.1 14 = .ok (.iconst (-1), 1) := by decide +kernel
theorem d_M_bestText_15 : decode m_M_bestText.2.1 15 = .ok (.ireturn, 1) := by decide +kernel
theorem d_M_bestText_16 : decode m_M_bestText.2.1 16 = .ok (.aload_n 0, 1) := by decide +kernel
theorem d_M_bestText_17 : decode m_M_bestText.2.1 17 = .ok (.iload_n 1, 1) := by decide +kernel
theorem d_M_bestText_18 : decode m_M_bestText.2.1 18 = .ok (.iload_n 2, 1) := by decide +kernel
theorem d_M_bestText_19 : decode m_M_bestText.2.1 19 = .ok (.invokevirtual 406, 3) := by decide +kernel
theorem d_M_bestText_22 : decode m_M_bestText.2.1 22 = .ok (.ifCond .ne 6, 3) := by decide +kernel
theorem d_M_bestText_25 : decode m_M_bestText.2.1 25 = .ok (.bipush (-2), 2) := by decide +kernel
theorem d_M_bestText_27 : decode m_M_bestText.2.1 27 = .ok (.ireturn, 1) := by decide +kernel
theorem d_M_bestText_28 : decode m_M_bestText.2.1 28 = .ok (.iload_n 3, 1) := by decide +kernel
theorem d_M_bestText_29 : decode m_M_bestText.2.1 29 = .ok (.iconst (-1), 1) := by decide +kernel
theorem d_M_bestText_30 : decode m_M_bestText.2.1 30 = .ok (.if_icmp .ne 10, 3) := by decide +kernel
theorem d_M_bestText_33 : decode m_M_bestText.2.1 33 = .ok (.aload_n 0, 1) := by decide +kernel
theorem d_M_bestText_34 : decode m_M_bestText.2.1 34 = .ok (.getfield 391, 3) := by decide +kernel
theorem d_M_bestText_37 : decode m_M_bestText.2.1 37 = .ok (.goto 21, 3) := by decide +kernel
theorem d_M_bestText_40 : decode m_M_bestText.2.1 40 = .ok (.iload_n 3, 1) := by decide +kernel
theorem d_M_bestText_41 : decode m_M_bestText.2.1 41 = .ok (.aload_n 0, 1) := by decide +kernel
theorem d_M_bestText_42 : decode m_M_bestText.2.1 42 = .ok (.getfield 391, 3) := by decide +kernel
theorem d_M_bestText_45 : decode m_M_bestText.2.1 45 = .ok (.if_icmp .ge 12, 3) := by decide +kernel
theorem d_M_bestText_48 : decode m_M_bestText.2.1 48 = .ok (.aload_n 0, 1) := by decide +kernel
theorem d_M_bestText_49 : decode m_M_bestText.2.1 49 = .ok (.getfield 112, 3) := by decide +kernel
theorem d_M_bestText_52 : decode m_M_bestText.2.1 52 = .ok (.iload_n 3, 1) := by decide +kernel
theorem d_M_bestText_53 : decode m_M_bestText.2.1 53 = .ok (.iaload, 1) := by decide +kernel
theorem d_M_bestText_54 : decode m_M_bestText.2.1 54 = .ok (.goto 4, 3) := by decide +kernel
theorem d_M_bestText_57 : decode m_M_bestText.2.1 57 = .ok (.iconst (-1), 1) := by decide +kernel
theorem d_M_bestText_58 : decode m_M_bestText.2.1 58 = .ok (.ireturn, 1) := by decide +kernel
theorem b_M_bestText_0 {E : EV} {d : Nat} {Q : Option AV → St → Prop} {σ : St} (x1 x2 x3 : Int) (hF : Fix σ) (h : (WMi E m_M_isSquare d [aP 42, aI x1, aI x2] σ (fun v1 σ1 => Fix σ1 ∧ (rI v1) ∧ ((v1 = 0 → Q (some (aI (-1))) σ1) ∧ (¬ v1 = 0 → (rI x3) ∧ (((-1) ≤ x3 → (WMi E m_M_laysBest d [aP 42, aI x1, aI x2] σ1 (fun v4 σ4 => Fix σ4 ∧ (rI v4) ∧ ((¬ v4 = 0 → (rI x3) ∧ ((¬ x3 = (-1) → (rI x3) ∧ (rI (σ4.1 42 45)) ∧ (((σ4.1 42 45) ≤ x3 → Q (some (aI (-1))) σ4) ∧ (¬ (σ4.1 42 45) ≤ x3 → (0 ≤ x3 ∧ x3 < 80) ∧ Q (some (aI (σ4.1 75 x3))) σ4))) ∧ (x3 = (-1) → Q (some (aI (σ4.1 42 45))) σ4))) ∧ (v4 = 0 → Q (some (aI (-2))) σ4))))) ∧ (¬ (-1) ≤ x3 → Q (some (aI (-1))) σ1))))))) : WP E m_M_bestText (d + 1) 0 [(0, aP 42), (1, aI x1), (2, aI x2), (3, aI x3)] [] σ Q := by
  refine s_aload_n 0 d_M_bestText_0 rfl rfl ?_
  refine s_iload_n 1 d_M_bestText_1 rfl rfl ?_
  refine s_iload_n 2 d_M_bestText_2 rfl rfl ?_
  refine s_callV (as := [aI x1, aI x2]) (ci := 10) d_M_bestText_3 ok_M_isSquare lk_M_206 io_M_isSquare so_M_isSquare (by decide) rfl rfl rfl (Nat.le_of_ble_eq_true rfl) rfl (sf_42 hF) (WM.mono h ?_)
  rintro _ σ1 ⟨v1, rfl, hp, h⟩
  obtain ⟨hF1, h⟩ := h
  show WP E m_M_bestText (d + 1) 6 [(0, aP 42), (1, aI x1), (2, aI x2), (3, aI x3)] [aI v1] σ1 Q
  obtain ⟨g2, h⟩ := h
  refine s_if_eq d_M_bestText_6 rfl g2 (fun c => ?_) (fun c => ?_)
  · have h := h.1 c
    refine s_iconst d_M_bestText_14 ?_
    exact s_ireturn d_M_bestText_15 rfl h
  · have h := h.2 c
    refine s_iload_n 3 d_M_bestText_9 rfl rfl ?_
    refine s_iconst d_M_bestText_10 ?_
    obtain ⟨g3, h⟩ := h
    refine s_icmp_ge d_M_bestText_11 rfl g3 (by decide) (fun c => ?_) (fun c => ?_)
    · have h := h.1 c
      refine s_aload_n 0 d_M_bestText_16 rfl rfl ?_
      refine s_iload_n 1 d_M_bestText_17 rfl rfl ?_
      refine s_iload_n 2 d_M_bestText_18 rfl rfl ?_
      refine s_callV (as := [aI x1, aI x2]) (ci := 10) d_M_bestText_19 ok_M_laysBest lk_M_406 io_M_laysBest so_M_laysBest (by decide) rfl rfl rfl (Nat.le_of_ble_eq_true rfl) rfl (sf_42 hF1) (WM.mono h ?_)
      rintro _ σ4 ⟨v4, rfl, hp, h⟩
      obtain ⟨hF4, h⟩ := h
      show WP E m_M_bestText (d + 1) 22 [(0, aP 42), (1, aI x1), (2, aI x2), (3, aI x3)] [aI v4] σ4 Q
      obtain ⟨g5, h⟩ := h
      refine s_if_ne d_M_bestText_22 rfl g5 (fun c => ?_) (fun c => ?_)
      · have h := h.1 c
        refine s_iload_n 3 d_M_bestText_28 rfl rfl ?_
        refine s_iconst d_M_bestText_29 ?_
        obtain ⟨g6, h⟩ := h
        refine s_icmp_ne d_M_bestText_30 rfl g6 (by decide) (fun c => ?_) (fun c => ?_)
        · have h := h.1 c
          refine s_iload_n 3 d_M_bestText_40 rfl rfl ?_
          refine s_aload_n 0 d_M_bestText_41 rfl rfl ?_
          refine s_getF (v := σ4.1 42 45) d_M_bestText_42 fl_M_391 rfl (sf_42 hF4) rfl ?_
          obtain ⟨g7, h⟩ := h
          obtain ⟨g8, h⟩ := h
          refine s_icmp_ge d_M_bestText_45 rfl g7 g8 (fun c => ?_) (fun c => ?_)
          · have h := h.1 c
            refine s_iconst d_M_bestText_57 ?_
            exact s_ireturn d_M_bestText_58 rfl h
          · have h := h.2 c
            refine s_aload_n 0 d_M_bestText_48 rfl rfl ?_
            refine s_getF (v := 75) d_M_bestText_49 fl_M_112 rfl (sf_42 hF4) (ff_60 hF4) ?_
            refine s_iload_n 3 d_M_bestText_52 rfl rfl ?_
            obtain ⟨g9, h⟩ := h
            refine s_ialoadv (v := σ4.1 75 x3) d_M_bestText_53 ⟨_, sf_75 hF4, g9.1, g9.2, by have := g9.2; omega⟩ rfl ?_
            refine s_goto d_M_bestText_54 rfl ?_
            exact s_ireturn d_M_bestText_58 rfl h
        · have h := h.2 c
          refine s_aload_n 0 d_M_bestText_33 rfl rfl ?_
          refine s_getF (v := σ4.1 42 45) d_M_bestText_34 fl_M_391 rfl (sf_42 hF4) rfl ?_
          refine s_goto d_M_bestText_37 rfl ?_
          exact s_ireturn d_M_bestText_58 rfl h
      · have h := h.2 c
        refine s_bipush d_M_bestText_25 (by decide) ?_
        exact s_ireturn d_M_bestText_27 rfl h
    · have h := h.2 c
      refine s_iconst d_M_bestText_14 ?_
      exact s_ireturn d_M_bestText_15 rfl h
theorem e_M_bestText {E : EV} {d : Nat} {Q : Option AV → St → Prop} {σ : St} (x1 x2 x3 : Int) (hF : Fix σ) (h : (WMi E m_M_isSquare d [aP 42, aI x1, aI x2] σ (fun v1 σ1 => Fix σ1 ∧ (rI v1) ∧ ((v1 = 0 → Q (some (aI (-1))) σ1) ∧ (¬ v1 = 0 → (rI x3) ∧ (((-1) ≤ x3 → (WMi E m_M_laysBest d [aP 42, aI x1, aI x2] σ1 (fun v4 σ4 => Fix σ4 ∧ (rI v4) ∧ ((¬ v4 = 0 → (rI x3) ∧ ((¬ x3 = (-1) → (rI x3) ∧ (rI (σ4.1 42 45)) ∧ (((σ4.1 42 45) ≤ x3 → Q (some (aI (-1))) σ4) ∧ (¬ (σ4.1 42 45) ≤ x3 → (0 ≤ x3 ∧ x3 < 80) ∧ Q (some (aI (σ4.1 75 x3))) σ4))) ∧ (x3 = (-1) → Q (some (aI (σ4.1 42 45))) σ4))) ∧ (v4 = 0 → Q (some (aI (-2))) σ4))))) ∧ (¬ (-1) ≤ x3 → Q (some (aI (-1))) σ1))))))) : WM E m_M_bestText (d + 1) [aP 42, aI x1, aI x2, aI x3] σ Q := s_meth (by decide) (Nat.le_of_ble_eq_true rfl) rfl (b_M_bestText_0 x1 x2 x3 hF h)
theorem d_M_joined_0 : decode m_M_joined.2.1 0 = .ok (.aload_n 0, 1) := by decide +kernel
theorem d_M_joined_1 : decode m_M_joined.2.1 1 = .ok (.iload_n 1, 1) := by decide +kernel
theorem d_M_joined_2 : decode m_M_joined.2.1 2 = .ok (.iload_n 2, 1) := by decide +kernel
theorem d_M_joined_3 : decode m_M_joined.2.1 3 = .ok (.invokevirtual 206, 3) := by decide +kernel
theorem d_M_joined_6 : decode m_M_joined.2.1 6 = .ok (.ifCond .eq 23, 3) := by decide +kernel
theorem d_M_joined_9 : decode m_M_joined.2.1 9 = .ok (.aload_n 0, 1) := by decide +kernel
theorem d_M_joined_10 : decode m_M_joined.2.1 10 = .ok (.iload_n 1, 1) := by decide +kernel
theorem d_M_joined_11 : decode m_M_joined.2.1 11 = .ok (.iload_n 2, 1) := by decide +kernel
theorem d_M_joined_12 : decode m_M_joined.2.1 12 = .ok (.iconst 1, 1) := by decide +kernel
theorem d_M_joined_13 : decode m_M_joined.2.1 13 = .ok (.iadd, 1) := by decide +kernel
theorem d_M_joined_14 : decode m_M_joined.2.1 14 = .ok (.invokevirtual 206, 3) := by decide +kernel
theorem d_M_joined_17 : decode m_M_joined.2.1 17 = .ok (.ifCond .eq 12, 3) := by decide +kernel
theorem d_M_joined_20 : decode m_M_joined.2.1 20 = .ok (.iload_n 3, 1) := by decide +kernel
theorem d_M_joined_21 : decode m_M_joined.2.1 21 = .ok (.iconst 0, 1) := by decide +kernel
theorem d_M_joined_22 : decode m_M_joined.2.1 22 = .ok (.iconst 1, 1) := by decide +kernel
theorem d_M_joined_23 : decode m_M_joined.2.1 23 = .ok (.invokestatic 167, 3) := by decide +kernel
theorem d_M_joined_26 : decode m_M_joined.2.1 26 = .ok (.ifCond .ne 5, 3) := by decide +kernel
theorem d_M_joined_29 : decode m_M_joined.2.1 29 = .ok (.iconst (-1), 1) := by decide +kernel
theorem d_M_joined_30 : decode m_M_joined.2.1 30 = .ok (.ireturn, 1) := by decide +kernel
theorem d_M_joined_31 : decode m_M_joined.2.1 31 = .ok (.aload_n 0, 1) := by decide +kernel
theorem d_M_joined_32 : decode m_M_joined.2.1 32 = .ok (.iload_n 1, 1) := by decide +kernel
theorem d_M_joined_33 : decode m_M_joined.2.1 33 = .ok (.iload_n 2, 1) := by decide +kernel
theorem d_M_joined_34 : decode m_M_joined.2.1 34 = .ok (.invokevirtual 310, 3) := by decide +kernel
theorem d_M_joined_37 : decode m_M_joined.2.1 37 = .ok (.ifCond .ne 6, 3) := by decide +kernel
theorem d_M_joined_40 : decode m_M_joined.2.1 40 = .ok (.bipush (-2), 2) := by decide +kernel
theorem d_M_joined_42 : decode m_M_joined.2.1 42 = .ok (.ireturn, 1) := by decide +kernel
theorem d_M_joined_43 : decode m_M_joined.2.1 43 = .ok (.aload_n 0, 1) := by decide +kernel
theorem d_M_joined_44 : decode m_M_joined.2.1 44 = .ok (.aload_n 0, 1) := by decide +kernel
theorem d_M_joined_45 : decode m_M_joined.2.1 45 = .ok (.getfield 192, 3) := by decide +kernel
theorem d_M_joined_48 : decode m_M_joined.2.1 48 = .ok (.putfield 189, 3) := by decide +kernel
theorem d_M_joined_51 : decode m_M_joined.2.1 51 = .ok (.iconst 0, 1) := by decide +kernel
theorem d_M_joined_52 : decode m_M_joined.2.1 52 = .ok (.istore 4, 2) := by decide +kernel
theorem d_M_joined_54 : decode m_M_joined.2.1 54 = .ok (.iload 4, 2) := by decide +kernel
theorem d_M_joined_56 : decode m_M_joined.2.1 56 = .ok (.aload_n 0, 1) := by decide +kernel
theorem d_M_joined_57 : decode m_M_joined.2.1 57 = .ok (.getfield 189, 3) := by decide +kernel
theorem d_M_joined_60 : decode m_M_joined.2.1 60 = .ok (.if_icmp .ge 23, 3) := by decide +kernel
theorem d_M_joined_63 : decode m_M_joined.2.1 63 = .ok (.aload_n 0, 1) := by decide +kernel
theorem d_M_joined_64 : decode m_M_joined.2.1 64 = .ok (.getfield 35, 3) := by decide +kernel
theorem d_M_joined_67 : decode m_M_joined.2.1 67 = .ok (.iload 4, 2) := by decide +kernel
theorem d_M_joined_69 : decode m_M_joined.2.1 69 = .ok (.aload_n 0, 1) := by decide +kernel
theorem d_M_joined_70 : decode m_M_joined.2.1 70 = .ok (.getfield 38, 3) := by decide +kernel
theorem d_M_joined_73 : decode m_M_joined.2.1 73 = .ok (.iload 4, 2) := by decide +kernel
theorem d_M_joined_75 : decode m_M_joined.2.1 75 = .ok (.iaload, 1) := by decide +kernel
theorem d_M_joined_76 : decode m_M_joined.2.1 76 = .ok (.iastore, 1) := by decide +kernel
theorem d_M_joined_77 : decode m_M_joined.2.1 77 = .ok (.iinc 4 1, 3) := by decide +kernel
theorem d_M_joined_80 : decode m_M_joined.2.1 80 = .ok (.goto (-26), 3) := by decide +kernel
theorem d_M_joined_83 : decode m_M_joined.2.1 83 = .ok (.aload_n 0, 1) := by decide +kernel
theorem d_M_joined_84 : decode m_M_joined.2.1 84 = .ok (.aload_n 0, 1) := by decide +kernel
theorem d_M_joined_85 : decode m_M_joined.2.1 85 = .ok (.getfield 26, 3) := by decide +kernel
theorem d_M_joined_88 : decode m_M_joined.2.1 88 = .ok (.iconst 0, 1) := by decide +kernel
theorem d_M_joined_89 : decode m_M_joined.2.1 89 = .ok (.iaload, 1) := by decide +kernel
theorem d_M_joined_90 : decode m_M_joined.2.1 90 = .ok (.i2l, 1) := by decide +kernel
theorem d_M_joined_91 : decode m_M_joined.2.1 91 = .ok (.aload_n 0, 1) := by decide +kernel
theorem d_M_joined_92 : decode m_M_joined.2.1 92 = .ok (.invokevirtual 250, 3) := by decide +kernel
theorem d_M_joined_95 : decode m_M_joined.2.1 95 = .ok (.i2l, 1) := by decide +kernel
theorem d_M_joined_96 : decode m_M_joined.2.1 96 = .ok (.invokevirtual 234, 3) := by decide +kernel
theorem d_M_joined_99 : decode m_M_joined.2.1 99 = .ok (.aload_n 0, 1) := by decide +kernel
theorem d_M_joined_100 : decode m_M_joined.2.1 100 = .ok (.iload_n 3, 1) := by decide +kernel
theorem d_M_joined_101 : decode m_M_joined.2.1 101 = .ok (.invokevirtual 273, 3) := by decide +kernel
theorem d_M_joined_104 : decode m_M_joined.2.1 104 = .ok (.l2i, 1) := by decide +kernel
theorem d_M_joined_105 : decode m_M_joined.2.1 105 = .ok (.ireturn, 1) := by decide +kernel
theorem b_M_joined_0 {E : EV} {d : Nat} {Q : Option AV → St → Prop} {σ : St} (x1 x2 x3 : Int) (hF : Fix σ) (h : (WMi E m_M_isSquare d [aP 42, aI x1, aI x2] σ (fun v1 σ1 => Fix σ1 ∧ (rI v1) ∧ ((v1 = 0 → Q (some (aI (-1))) σ1) ∧ (¬ v1 = 0 → (WMi E m_M_isSquare d [aP 42, aI x1, aI (x2 + 1)] σ1 (fun v3 σ3 => Fix σ3 ∧ (rI v3) ∧ ((v3 = 0 → Q (some (aI (-1))) σ3) ∧ (¬ v3 = 0 → (WMi E m_M_in d [aI x3, aI 0, aI 1] σ3 (fun v5 σ5 => Fix σ5 ∧ (rI v5) ∧ ((¬ v5 = 0 → (WMi E m_M_joins d [aP 42, aI x1, aI x2] σ5 (fun v7 σ7 => Fix σ7 ∧ (rI v7) ∧ ((¬ v7 = 0 → WP E m_M_joined (d + 1) 54 [(0, aP 42), (3, aI x3), (4, aI 0)] [] (wr σ7 42 10 (σ7.1 42 12)) Q) ∧ (v7 = 0 → Q (some (aI (-2))) σ7))))) ∧ (v5 = 0 → Q (some (aI (-1))) σ5))))))))))))) : WP E m_M_joined (d + 1) 0 [(0, aP 42), (1, aI x1), (2, aI x2), (3, aI x3)] [] σ Q := by
  refine s_aload_n 0 d_M_joined_0 rfl rfl ?_
  refine s_iload_n 1 d_M_joined_1 rfl rfl ?_
  refine s_iload_n 2 d_M_joined_2 rfl rfl ?_
  refine s_callV (as := [aI x1, aI x2]) (ci := 10) d_M_joined_3 ok_M_isSquare lk_M_206 io_M_isSquare so_M_isSquare (by decide) rfl rfl rfl (Nat.le_of_ble_eq_true rfl) rfl (sf_42 hF) (WM.mono h ?_)
  rintro _ σ1 ⟨v1, rfl, hp, h⟩
  obtain ⟨hF1, h⟩ := h
  show WP E m_M_joined (d + 1) 6 [(0, aP 42), (1, aI x1), (2, aI x2), (3, aI x3)] [aI v1] σ1 Q
  obtain ⟨g2, h⟩ := h
  refine s_if_eq d_M_joined_6 rfl g2 (fun c => ?_) (fun c => ?_)
  · have h := h.1 c
    refine s_iconst d_M_joined_29 ?_
    exact s_ireturn d_M_joined_30 rfl h
  · have h := h.2 c
    refine s_aload_n 0 d_M_joined_9 rfl rfl ?_
    refine s_iload_n 1 d_M_joined_10 rfl rfl ?_
    refine s_iload_n 2 d_M_joined_11 rfl rfl ?_
    refine s_iconst d_M_joined_12 ?_
    refine s_iadd d_M_joined_13 ?_
    refine s_callV (as := [aI x1, aI (x2 + 1)]) (ci := 10) d_M_joined_14 ok_M_isSquare lk_M_206 io_M_isSquare so_M_isSquare (by decide) rfl rfl rfl (Nat.le_of_ble_eq_true rfl) rfl (sf_42 hF1) (WM.mono h ?_)
    rintro _ σ3 ⟨v3, rfl, hp, h⟩
    obtain ⟨hF3, h⟩ := h
    show WP E m_M_joined (d + 1) 17 [(0, aP 42), (1, aI x1), (2, aI x2), (3, aI x3)] [aI v3] σ3 Q
    obtain ⟨g4, h⟩ := h
    refine s_if_eq d_M_joined_17 rfl g4 (fun c => ?_) (fun c => ?_)
    · have h := h.1 c
      refine s_iconst d_M_joined_29 ?_
      exact s_ireturn d_M_joined_30 rfl h
    · have h := h.2 c
      refine s_iload_n 3 d_M_joined_20 rfl rfl ?_
      refine s_iconst d_M_joined_21 ?_
      refine s_iconst d_M_joined_22 ?_
      refine s_callS (as := [aI x3, aI 0, aI 1]) d_M_joined_23 ok_M_in lk_M_167 to_M_in rfl (Nat.le_of_ble_eq_true rfl) rfl (WM.mono h ?_)
      rintro _ σ5 ⟨v5, rfl, hp, h⟩
      obtain ⟨hF5, h⟩ := h
      show WP E m_M_joined (d + 1) 26 [(0, aP 42), (1, aI x1), (2, aI x2), (3, aI x3)] [aI v5] σ5 Q
      obtain ⟨g6, h⟩ := h
      refine s_if_ne d_M_joined_26 rfl g6 (fun c => ?_) (fun c => ?_)
      · have h := h.1 c
        refine s_aload_n 0 d_M_joined_31 rfl rfl ?_
        refine s_iload_n 1 d_M_joined_32 rfl rfl ?_
        refine s_iload_n 2 d_M_joined_33 rfl rfl ?_
        refine s_callV (as := [aI x1, aI x2]) (ci := 10) d_M_joined_34 ok_M_joins lk_M_310 io_M_joins so_M_joins (by decide) rfl rfl rfl (Nat.le_of_ble_eq_true rfl) rfl (sf_42 hF5) (WM.mono h ?_)
        rintro _ σ7 ⟨v7, rfl, hp, h⟩
        obtain ⟨hF7, h⟩ := h
        show WP E m_M_joined (d + 1) 37 [(0, aP 42), (1, aI x1), (2, aI x2), (3, aI x3)] [aI v7] σ7 Q
        obtain ⟨g8, h⟩ := h
        refine s_if_ne d_M_joined_37 rfl g8 (fun c => ?_) (fun c => ?_)
        · have h := h.1 c
          refine s_aload_n 0 d_M_joined_43 rfl rfl ?_
          refine s_aload_n 0 d_M_joined_44 rfl rfl ?_
          refine s_getF (v := σ7.1 42 12) d_M_joined_45 fl_M_192 rfl (sf_42 hF7) rfl ?_
          refine s_putf 10 rfl d_M_joined_48 fl_M_189 (fun C T h => by cases h; exact Or.inl rfl) rfl (Or.inl rfl) (fun h => nomatch h) (sf_42 hF7) ?_
          refine s_iconst d_M_joined_51 ?_
          refine s_istore d_M_joined_52 (by decide) rfl ?_
          refine wp_drop [1, 4, 0] rfl ?_
          exact h
        · have h := h.2 c
          refine s_bipush d_M_joined_40 (by decide) ?_
          exact s_ireturn d_M_joined_42 rfl h
      · have h := h.2 c
        refine s_iconst d_M_joined_29 ?_
        exact s_ireturn d_M_joined_30 rfl h
theorem e_M_joined {E : EV} {d : Nat} {Q : Option AV → St → Prop} {σ : St} (x1 x2 x3 : Int) (hF : Fix σ) (h : (WMi E m_M_isSquare d [aP 42, aI x1, aI x2] σ (fun v1 σ1 => Fix σ1 ∧ (rI v1) ∧ ((v1 = 0 → Q (some (aI (-1))) σ1) ∧ (¬ v1 = 0 → (WMi E m_M_isSquare d [aP 42, aI x1, aI (x2 + 1)] σ1 (fun v3 σ3 => Fix σ3 ∧ (rI v3) ∧ ((v3 = 0 → Q (some (aI (-1))) σ3) ∧ (¬ v3 = 0 → (WMi E m_M_in d [aI x3, aI 0, aI 1] σ3 (fun v5 σ5 => Fix σ5 ∧ (rI v5) ∧ ((¬ v5 = 0 → (WMi E m_M_joins d [aP 42, aI x1, aI x2] σ5 (fun v7 σ7 => Fix σ7 ∧ (rI v7) ∧ ((¬ v7 = 0 → WP E m_M_joined (d + 1) 54 [(0, aP 42), (3, aI x3), (4, aI 0)] [] (wr σ7 42 10 (σ7.1 42 12)) Q) ∧ (v7 = 0 → Q (some (aI (-2))) σ7))))) ∧ (v5 = 0 → Q (some (aI (-1))) σ5))))))))))))) : WM E m_M_joined (d + 1) [aP 42, aI x1, aI x2, aI x3] σ Q := s_meth (by decide) (Nat.le_of_ble_eq_true rfl) rfl (b_M_joined_0 x1 x2 x3 hF h)
theorem b_M_joined_54 {E : EV} {d : Nat} {Q : Option AV → St → Prop} {σ : St} (x3 x4 : Int) (hF : Fix σ) (h : (rI x4) ∧ (rI (σ.1 42 10)) ∧ (((σ.1 42 10) ≤ x4 → (rI (σ.1 47 0)) ∧ (WMi E m_M_greatest d [aP 42] σ (fun v4 σ4 => Fix σ4 ∧ (rI v4) ∧ (WMv E m_M_tells d [aP 42, aL (σ.1 47 0), aL v4] σ4 (fun σ6 => Fix σ6 ∧ (WMl E m_M_term d [aP 42, aI x3] σ6 (fun v7 σ7 => Q (some (aI v7)) σ7))))))) ∧ (¬ (σ.1 42 10) ≤ x4 → (0 ≤ x4 ∧ x4 < 48) ∧ (0 ≤ x4 ∧ x4 < 24) ∧ WP E m_M_joined (d + 1) 54 [(0, aP 42), (3, aI x3), (4, aI (x4 + 1))] [] (wr σ 50 x4 (σ.1 51 x4)) Q))) : WP E m_M_joined (d + 1) 54 [(0, aP 42), (3, aI x3), (4, aI x4)] [] σ Q := by
  refine s_iload 2 d_M_joined_54 rfl ?_
  refine s_aload_n 0 d_M_joined_56 rfl rfl ?_
  refine s_getF (v := σ.1 42 10) d_M_joined_57 fl_M_189 rfl (sf_42 hF) rfl ?_
  obtain ⟨g1, h⟩ := h
  obtain ⟨g2, h⟩ := h
  refine s_icmp_ge d_M_joined_60 rfl g1 g2 (fun c => ?_) (fun c => ?_)
  · have h := h.1 c
    refine s_aload_n 0 d_M_joined_83 rfl rfl ?_
    refine s_aload_n 0 d_M_joined_84 rfl rfl ?_
    refine s_getF (v := 47) d_M_joined_85 fl_M_26 rfl (sf_42 hF) (ff_32 hF) ?_
    refine s_iconst d_M_joined_88 ?_
    refine s_ialoadv (v := σ.1 47 0) d_M_joined_89 ⟨_, sf_47 hF, by decide, by decide, by decide⟩ rfl ?_
    obtain ⟨g3, h⟩ := h
    refine s_i2l d_M_joined_90 g3 ?_
    refine s_aload_n 0 d_M_joined_91 rfl rfl ?_
    refine s_callV (as := []) (ci := 10) d_M_joined_92 ok_M_greatest lk_M_250 io_M_greatest so_M_greatest (by decide) rfl rfl rfl (Nat.le_of_ble_eq_true rfl) rfl (sf_42 hF) (WM.mono h ?_)
    rintro _ σ4 ⟨v4, rfl, hp, h⟩
    obtain ⟨hF4, h⟩ := h
    show WP E m_M_joined (d + 1) 95 [(0, aP 42), (3, aI x3), (4, aI x4)] [aI v4, aL (σ.1 47 0), aP 42] σ4 Q
    obtain ⟨g5, h⟩ := h
    refine s_i2l d_M_joined_95 g5 ?_
    refine s_callV (as := [aL (σ.1 47 0), aL v4]) (ci := 10) d_M_joined_96 ok_M_tells lk_M_234 io_M_tells so_M_tells (by decide) rfl rfl rfl (Nat.le_of_ble_eq_true rfl) rfl (sf_42 hF4) (WM.mono h ?_)
    rintro _ σ6 ⟨rfl, hp, h⟩
    obtain ⟨hF6, h⟩ := h
    show WP E m_M_joined (d + 1) 99 [(0, aP 42), (3, aI x3), (4, aI x4)] [] σ6 Q
    refine s_aload_n 0 d_M_joined_99 rfl rfl ?_
    refine s_iload_n 1 d_M_joined_100 rfl rfl ?_
    refine s_callV (as := [aI x3]) (ci := 10) d_M_joined_101 ok_M_term lk_M_273 io_M_term so_M_term (by decide) rfl rfl rfl (Nat.le_of_ble_eq_true rfl) rfl (sf_42 hF6) (WM.mono h ?_)
    rintro _ σ7 ⟨v7, rfl, hp, h⟩
    show WP E m_M_joined (d + 1) 104 [(0, aP 42), (3, aI x3), (4, aI x4)] [aL v7] σ7 Q
    refine s_l2i d_M_joined_104 ?_
    exact s_ireturn d_M_joined_105 rfl h
  · have h := h.2 c
    refine s_aload_n 0 d_M_joined_63 rfl rfl ?_
    refine s_getF (v := 50) d_M_joined_64 fl_M_35 rfl (sf_42 hF) (ff_35 hF) ?_
    refine s_iload 2 d_M_joined_67 rfl ?_
    refine s_aload_n 0 d_M_joined_69 rfl rfl ?_
    refine s_getF (v := 51) d_M_joined_70 fl_M_38 rfl (sf_42 hF) (ff_36 hF) ?_
    refine s_iload 2 d_M_joined_73 rfl ?_
    obtain ⟨g8, h⟩ := h
    refine s_ialoadv (v := σ.1 51 x4) d_M_joined_75 ⟨_, sf_51 hF, g8.1, g8.2, by have := g8.2; omega⟩ rfl ?_
    obtain ⟨g9, h⟩ := h
    refine s_iastore d_M_joined_76 ⟨_, sf_50 hF, g9.1, g9.2, by have := g9.2; omega⟩ ?_
    refine s_iinc 2 d_M_joined_77 rfl (by decide) rfl ?_
    refine s_goto d_M_joined_80 rfl ?_
    refine wp_drop [1, 2, 0] rfl ?_
    exact h
theorem d_M_sign_0 : decode m_M_sign.2.1 0 = .ok (.iload_n 1, 1) := by decide +kernel
theorem d_M_sign_1 : decode m_M_sign.2.1 1 = .ok (.iconst 0, 1) := by decide +kernel
theorem d_M_sign_2 : decode m_M_sign.2.1 2 = .ok (.bipush 25, 2) := by decide +kernel
theorem d_M_sign_4 : decode m_M_sign.2.1 4 = .ok (.invokestatic 167, 3) := by decide +kernel
theorem d_M_sign_7 : decode m_M_sign.2.1 7 = .ok (.ifCond .eq 12, 3) := by decide +kernel
theorem d_M_sign_10 : decode m_M_sign.2.1 10 = .ok (.iload_n 2, 1) := by decide +kernel
theorem d_M_sign_11 : decode m_M_sign.2.1 11 = .ok (.iconst 0, 1) := by decide +kernel
theorem d_M_sign_12 : decode m_M_sign.2.1 12 = .ok (.iconst 4, 1) := by decide +kernel
theorem d_M_sign_13 : decode m_M_sign.2.1 13 = .ok (.invokestatic 167, 3) := by decide +kernel
theorem d_M_sign_16 : decode m_M_sign.2.1 16 = .ok (.ifCond .ne 5, 3) := by decide +kernel
theorem d_M_sign_19 : decode m_M_sign.2.1 19 = .ok (.iconst (-1), 1) := by decide +kernel
theorem d_M_sign_20 : decode m_M_sign.2.1 20 = .ok (.ireturn, 1) := by decide +kernel
theorem d_M_sign_21 : decode m_M_sign.2.1 21 = .ok (.aload_n 0, 1) := by decide +kernel
theorem d_M_sign_22 : decode m_M_sign.2.1 22 = .ok (.iload_n 1, 1) := by decide +kernel
theorem d_M_sign_23 : decode m_M_sign.2.1 23 = .ok (.invokevirtual 287, 3) := by decide +kernel
theorem d_M_sign_26 : decode m_M_sign.2.1 26 = .ok (.ifCond .ne 6, 3) := by decide +kernel
theorem d_M_sign_29 : decode m_M_sign.2.1 29 = .ok (.bipush (-2), 2) := by decide +kernel
theorem d_M_sign_31 : decode m_M_sign.2.1 31 = .ok (.ireturn, 1) := by decide +kernel
theorem d_M_sign_32 : decode m_M_sign.2.1 32 = .ok (.iload_n 2, 1) := by decide +kernel
theorem d_M_sign_33 : decode m_M_sign.2.1 33 = .ok (.tableswitch 59 0 3 #[31, 38, 45, 52], 31) := by decide +kernel
theorem d_M_sign_64 : decode m_M_sign.2.1 64 = .ok (.aload_n 0, 1) := by decide +kernel
theorem d_M_sign_65 : decode m_M_sign.2.1 65 = .ok (.getfield 13, 3) := by decide +kernel
theorem d_M_sign_68 : decode m_M_sign.2.1 68 = .ok (.iload_n 1, 1) := by decide +kernel
theorem d_M_sign_69 : decode m_M_sign.2.1 69 = .ok (.iaload, 1) := by decide +kernel
theorem d_M_sign_70 : decode m_M_sign.2.1 70 = .ok (.ireturn, 1) := by decide +kernel
theorem d_M_sign_71 : decode m_M_sign.2.1 71 = .ok (.aload_n 0, 1) := by decide +kernel
theorem d_M_sign_72 : decode m_M_sign.2.1 72 = .ok (.getfield 17, 3) := by decide +kernel
theorem d_M_sign_75 : decode m_M_sign.2.1 75 = .ok (.iload_n 1, 1) := by decide +kernel
theorem d_M_sign_76 : decode m_M_sign.2.1 76 = .ok (.iaload, 1) := by decide +kernel
theorem d_M_sign_77 : decode m_M_sign.2.1 77 = .ok (.ireturn, 1) := by decide +kernel
theorem d_M_sign_78 : decode m_M_sign.2.1 78 = .ok (.aload_n 0, 1) := by decide +kernel
theorem d_M_sign_79 : decode m_M_sign.2.1 79 = .ok (.getfield 20, 3) := by decide +kernel
theorem d_M_sign_82 : decode m_M_sign.2.1 82 = .ok (.iload_n 1, 1) := by decide +kernel
theorem d_M_sign_83 : decode m_M_sign.2.1 83 = .ok (.iaload, 1) := by decide +kernel
theorem d_M_sign_84 : decode m_M_sign.2.1 84 = .ok (.ireturn, 1) := by decide +kernel
theorem d_M_sign_85 : decode m_M_sign.2.1 85 = .ok (.aload_n 0, 1) := by decide +kernel
theorem d_M_sign_86 : decode m_M_sign.2.1 86 = .ok (.getfield 23, 3) := by decide +kernel
theorem d_M_sign_89 : decode m_M_sign.2.1 89 = .ok (.iload_n 1, 1) := by decide +kernel
theorem d_M_sign_90 : decode m_M_sign.2.1 90 = .ok (.iaload, 1) := by decide +kernel
theorem d_M_sign_91 : decode m_M_sign.2.1 91 = .ok (.ireturn, 1) := by decide +kernel
theorem d_M_sign_92 : decode m_M_sign.2.1 92 = .ok (.aload_n 0, 1) := by decide +kernel
theorem d_M_sign_93 : decode m_M_sign.2.1 93 = .ok (.iload_n 1, 1) := by decide +kernel
theorem d_M_sign_94 : decode m_M_sign.2.1 94 = .ok (.invokevirtual 409, 3) := by decide +kernel
theorem d_M_sign_97 : decode m_M_sign.2.1 97 = .ok (.ireturn, 1) := by decide +kernel
theorem b_M_sign_0 {E : EV} {d : Nat} {Q : Option AV → St → Prop} {σ : St} (x1 x2 : Int) (hF : Fix σ) (h : (WMi E m_M_in d [aI x1, aI 0, aI 25] σ (fun v1 σ1 => Fix σ1 ∧ (rI v1) ∧ ((v1 = 0 → Q (some (aI (-1))) σ1) ∧ (¬ v1 = 0 → (WMi E m_M_in d [aI x2, aI 0, aI 4] σ1 (fun v3 σ3 => Fix σ3 ∧ (rI v3) ∧ ((¬ v3 = 0 → (WMi E m_M_isTold d [aP 42, aI x1] σ3 (fun v5 σ5 => Fix σ5 ∧ (rI v5) ∧ ((¬ v5 = 0 → (rI x2) ∧ ((x2 = 0 → (0 ≤ x1 ∧ x1 < 26) ∧ Q (some (aI (σ5.1 43 x1))) σ5) ∧ (x2 = 1 → (0 ≤ x1 ∧ x1 < 26) ∧ Q (some (aI (σ5.1 44 x1))) σ5) ∧ (x2 = 2 → (0 ≤ x1 ∧ x1 < 26) ∧ Q (some (aI (σ5.1 45 x1))) σ5) ∧ (x2 = 3 → (0 ≤ x1 ∧ x1 < 26) ∧ Q (some (aI (σ5.1 46 x1))) σ5) ∧ (¬ (0 ≤ x2 ∧ x2 ≤ 3) → (WMi E m_M_standing d [aP 42, aI x1] σ5 (fun v12 σ12 => Q (some (aI v12)) σ12))))) ∧ (v5 = 0 → Q (some (aI (-2))) σ5))))) ∧ (v3 = 0 → Q (some (aI (-1))) σ3))))))))) : WP E m_M_sign (d + 1) 0 [(0, aP 42), (1, aI x1), (2, aI x2)] [] σ Q := by
  refine s_iload_n 1 d_M_sign_0 rfl rfl ?_
  refine s_iconst d_M_sign_1 ?_
  refine s_bipush d_M_sign_2 (by decide) ?_
  refine s_callS (as := [aI x1, aI 0, aI 25]) d_M_sign_4 ok_M_in lk_M_167 to_M_in rfl (Nat.le_of_ble_eq_true rfl) rfl (WM.mono h ?_)
  rintro _ σ1 ⟨v1, rfl, hp, h⟩
  obtain ⟨hF1, h⟩ := h
  show WP E m_M_sign (d + 1) 7 [(0, aP 42), (1, aI x1), (2, aI x2)] [aI v1] σ1 Q
  obtain ⟨g2, h⟩ := h
  refine s_if_eq d_M_sign_7 rfl g2 (fun c => ?_) (fun c => ?_)
  · have h := h.1 c
    refine s_iconst d_M_sign_19 ?_
    exact s_ireturn d_M_sign_20 rfl h
  · have h := h.2 c
    refine s_iload_n 2 d_M_sign_10 rfl rfl ?_
    refine s_iconst d_M_sign_11 ?_
    refine s_iconst d_M_sign_12 ?_
    refine s_callS (as := [aI x2, aI 0, aI 4]) d_M_sign_13 ok_M_in lk_M_167 to_M_in rfl (Nat.le_of_ble_eq_true rfl) rfl (WM.mono h ?_)
    rintro _ σ3 ⟨v3, rfl, hp, h⟩
    obtain ⟨hF3, h⟩ := h
    show WP E m_M_sign (d + 1) 16 [(0, aP 42), (1, aI x1), (2, aI x2)] [aI v3] σ3 Q
    obtain ⟨g4, h⟩ := h
    refine s_if_ne d_M_sign_16 rfl g4 (fun c => ?_) (fun c => ?_)
    · have h := h.1 c
      refine s_aload_n 0 d_M_sign_21 rfl rfl ?_
      refine s_iload_n 1 d_M_sign_22 rfl rfl ?_
      refine s_callV (as := [aI x1]) (ci := 10) d_M_sign_23 ok_M_isTold lk_M_287 io_M_isTold so_M_isTold (by decide) rfl rfl rfl (Nat.le_of_ble_eq_true rfl) rfl (sf_42 hF3) (WM.mono h ?_)
      rintro _ σ5 ⟨v5, rfl, hp, h⟩
      obtain ⟨hF5, h⟩ := h
      show WP E m_M_sign (d + 1) 26 [(0, aP 42), (1, aI x1), (2, aI x2)] [aI v5] σ5 Q
      obtain ⟨g6, h⟩ := h
      refine s_if_ne d_M_sign_26 rfl g6 (fun c => ?_) (fun c => ?_)
      · have h := h.1 c
        refine s_iload_n 2 d_M_sign_32 rfl rfl ?_
        obtain ⟨g7, h⟩ := h
        by_cases c0 : x2 = 0
        · have h := h.1 c0
          refine s_tableIn d_M_sign_33 g7 (by rw [c0]; decide) (by rw [c0]; rfl) (tgt := 64) rfl ?_
          refine s_aload_n 0 d_M_sign_64 rfl rfl ?_
          refine s_getF (v := 43) d_M_sign_65 fl_M_13 rfl (sf_42 hF5) (ff_28 hF5) ?_
          refine s_iload_n 1 d_M_sign_68 rfl rfl ?_
          obtain ⟨g8, h⟩ := h
          refine s_ialoadv (v := σ5.1 43 x1) d_M_sign_69 ⟨_, sf_43 hF5, g8.1, g8.2, by have := g8.2; omega⟩ rfl ?_
          exact s_ireturn d_M_sign_70 rfl h
        by_cases c1 : x2 = 1
        · have h := h.2.1 c1
          refine s_tableIn d_M_sign_33 g7 (by rw [c1]; decide) (by rw [c1]; rfl) (tgt := 71) rfl ?_
          refine s_aload_n 0 d_M_sign_71 rfl rfl ?_
          refine s_getF (v := 44) d_M_sign_72 fl_M_17 rfl (sf_42 hF5) (ff_29 hF5) ?_
          refine s_iload_n 1 d_M_sign_75 rfl rfl ?_
          obtain ⟨g9, h⟩ := h
          refine s_ialoadv (v := σ5.1 44 x1) d_M_sign_76 ⟨_, sf_44 hF5, g9.1, g9.2, by have := g9.2; omega⟩ rfl ?_
          exact s_ireturn d_M_sign_77 rfl h
        by_cases c2 : x2 = 2
        · have h := h.2.2.1 c2
          refine s_tableIn d_M_sign_33 g7 (by rw [c2]; decide) (by rw [c2]; rfl) (tgt := 78) rfl ?_
          refine s_aload_n 0 d_M_sign_78 rfl rfl ?_
          refine s_getF (v := 45) d_M_sign_79 fl_M_20 rfl (sf_42 hF5) (ff_30 hF5) ?_
          refine s_iload_n 1 d_M_sign_82 rfl rfl ?_
          obtain ⟨g10, h⟩ := h
          refine s_ialoadv (v := σ5.1 45 x1) d_M_sign_83 ⟨_, sf_45 hF5, g10.1, g10.2, by have := g10.2; omega⟩ rfl ?_
          exact s_ireturn d_M_sign_84 rfl h
        by_cases c3 : x2 = 3
        · have h := h.2.2.2.1 c3
          refine s_tableIn d_M_sign_33 g7 (by rw [c3]; decide) (by rw [c3]; rfl) (tgt := 85) rfl ?_
          refine s_aload_n 0 d_M_sign_85 rfl rfl ?_
          refine s_getF (v := 46) d_M_sign_86 fl_M_23 rfl (sf_42 hF5) (ff_31 hF5) ?_
          refine s_iload_n 1 d_M_sign_89 rfl rfl ?_
          obtain ⟨g11, h⟩ := h
          refine s_ialoadv (v := σ5.1 46 x1) d_M_sign_90 ⟨_, sf_46 hF5, g11.1, g11.2, by have := g11.2; omega⟩ rfl ?_
          exact s_ireturn d_M_sign_91 rfl h
        have c : ¬ (0 ≤ x2 ∧ x2 ≤ 3) := by omega
        have h := h.2.2.2.2 c
        refine s_tableOut d_M_sign_33 g7 c (tgt := 92) rfl ?_
        refine s_aload_n 0 d_M_sign_92 rfl rfl ?_
        refine s_iload_n 1 d_M_sign_93 rfl rfl ?_
        refine s_callV (as := [aI x1]) (ci := 10) d_M_sign_94 ok_M_standing lk_M_409 io_M_standing so_M_standing (by decide) rfl rfl rfl (Nat.le_of_ble_eq_true rfl) rfl (sf_42 hF5) (WM.mono h ?_)
        rintro _ σ12 ⟨v12, rfl, hp, h⟩
        show WP E m_M_sign (d + 1) 97 [(0, aP 42), (1, aI x1), (2, aI x2)] [aI v12] σ12 Q
        exact s_ireturn d_M_sign_97 rfl h
      · have h := h.2 c
        refine s_bipush d_M_sign_29 (by decide) ?_
        exact s_ireturn d_M_sign_31 rfl h
    · have h := h.2 c
      refine s_iconst d_M_sign_19 ?_
      exact s_ireturn d_M_sign_20 rfl h
theorem e_M_sign {E : EV} {d : Nat} {Q : Option AV → St → Prop} {σ : St} (x1 x2 : Int) (hF : Fix σ) (h : (WMi E m_M_in d [aI x1, aI 0, aI 25] σ (fun v1 σ1 => Fix σ1 ∧ (rI v1) ∧ ((v1 = 0 → Q (some (aI (-1))) σ1) ∧ (¬ v1 = 0 → (WMi E m_M_in d [aI x2, aI 0, aI 4] σ1 (fun v3 σ3 => Fix σ3 ∧ (rI v3) ∧ ((¬ v3 = 0 → (WMi E m_M_isTold d [aP 42, aI x1] σ3 (fun v5 σ5 => Fix σ5 ∧ (rI v5) ∧ ((¬ v5 = 0 → (rI x2) ∧ ((x2 = 0 → (0 ≤ x1 ∧ x1 < 26) ∧ Q (some (aI (σ5.1 43 x1))) σ5) ∧ (x2 = 1 → (0 ≤ x1 ∧ x1 < 26) ∧ Q (some (aI (σ5.1 44 x1))) σ5) ∧ (x2 = 2 → (0 ≤ x1 ∧ x1 < 26) ∧ Q (some (aI (σ5.1 45 x1))) σ5) ∧ (x2 = 3 → (0 ≤ x1 ∧ x1 < 26) ∧ Q (some (aI (σ5.1 46 x1))) σ5) ∧ (¬ (0 ≤ x2 ∧ x2 ≤ 3) → (WMi E m_M_standing d [aP 42, aI x1] σ5 (fun v12 σ12 => Q (some (aI v12)) σ12))))) ∧ (v5 = 0 → Q (some (aI (-2))) σ5))))) ∧ (v3 = 0 → Q (some (aI (-1))) σ3))))))))) : WM E m_M_sign (d + 1) [aP 42, aI x1, aI x2] σ Q := s_meth (by decide) (Nat.le_of_ble_eq_true rfl) rfl (b_M_sign_0 x1 x2 hF h)
theorem d_M_standing_0 : decode m_M_standing.2.1 0 = .ok (.iconst 0, 1) := by decide +kernel
theorem d_M_standing_1 : decode m_M_standing.2.1 1 = .ok (.istore_n 2, 1) := by decide +kernel
theorem d_M_standing_2 : decode m_M_standing.2.1 2 = .ok (.iconst 0, 1) := by decide +kernel
theorem d_M_standing_3 : decode m_M_standing.2.1 3 = .ok (.istore_n 3, 1) := by decide +kernel
theorem d_M_standing_4 : decode m_M_standing.2.1 4 = .ok (.iload_n 3, 1) := by decide +kernel
theorem d_M_standing_5 : decode m_M_standing.2.1 5 = .ok (.aload_n 0, 1) := by decide +kernel
theorem d_M_standing_6 : decode m_M_standing.2.1 6 = .ok (.getfield 26, 3) := by decide +kernel
theorem d_M_standing_9 : decode m_M_standing.2.1 9 = .ok (.iconst 2, 1) := by decide +kernel
theorem d_M_standing_10 : decode m_M_standing.2.1 10 = .ok (.iaload, 1) := by decide +kernel
theorem d_M_standing_11 : decode m_M_standing.2.1 11 = .ok (.if_icmp .ge 83, 3) := by decide +kernel
theorem d_M_standing_14 : decode m_M_standing.2.1 14 = .ok (.iconst 0, 1) := by decide +kernel
theorem d_M_standing_15 : decode m_M_standing.2.1 15 = .ok (.istore 4, 2) := by decide +kernel
theorem d_M_standing_17 : decode m_M_standing.2.1 17 = .ok (.iload 4, 2) := by decide +kernel
theorem d_M_standing_19 : decode m_M_standing.2.1 19 = .ok (.aload_n 0, 1) := by decide +kernel
theorem d_M_standing_20 : decode m_M_standing.2.1 20 = .ok (.iload_n 3, 1) := by decide +kernel
theorem d_M_standing_21 : decode m_M_standing.2.1 21 = .ok (.invokevirtual 178, 3) := by decide +kernel
theorem d_M_standing_24 : decode m_M_standing.2.1 24 = .ok (.if_icmp .ge 64, 3) := by decide +kernel
theorem d_M_standing_27 : decode m_M_standing.2.1 27 = .ok (.aload_n 0, 1) := by decide +kernel
theorem d_M_standing_28 : decode m_M_standing.2.1 28 = .ok (.iload_n 3, 1) := by decide +kernel
theorem d_M_standing_29 : decode m_M_standing.2.1 29 = .ok (.iload 4, 2) := by decide +kernel
theorem d_M_standing_31 : decode m_M_standing.2.1 31 = .ok (.invokevirtual 210, 3) := by decide +kernel
theorem d_M_standing_34 : decode m_M_standing.2.1 34 = .ok (.iconst 0, 1) := by decide +kernel
theorem d_M_standing_35 : decode m_M_standing.2.1 35 = .ok (.istore 5, 2) := by decide +kernel
theorem d_M_standing_37 : decode m_M_standing.2.1 37 = .ok (.iload 5, 2) := by decide +kernel
theorem d_M_standing_39 : decode m_M_standing.2.1 39 = .ok (.aload_n 0, 1) := by decide +kernel
theorem d_M_standing_40 : decode m_M_standing.2.1 40 = .ok (.getfield 189, 3) := by decide +kernel
theorem d_M_standing_43 : decode m_M_standing.2.1 43 = .ok (.if_icmp .ge 39, 3) := by decide +kernel
theorem d_M_standing_46 : decode m_M_standing.2.1 46 = .ok (.aload_n 0, 1) := by decide +kernel
theorem d_M_standing_47 : decode m_M_standing.2.1 47 = .ok (.getfield 35, 3) := by decide +kernel
theorem d_M_standing_50 : decode m_M_standing.2.1 50 = .ok (.iload 5, 2) := by decide +kernel
theorem d_M_standing_52 : decode m_M_standing.2.1 52 = .ok (.iaload, 1) := by decide +kernel
theorem d_M_standing_53 : decode m_M_standing.2.1 53 = .ok (.invokestatic 199, 3) := by decide +kernel
theorem d_M_standing_56 : decode m_M_standing.2.1 56 = .ok (.ifCond .eq 20, 3) := by decide +kernel
theorem d_M_standing_59 : decode m_M_standing.2.1 59 = .ok (.aload_n 0, 1) := by decide +kernel
theorem d_M_standing_60 : decode m_M_standing.2.1 60 = .ok (.getfield 35, 3) := by decide +kernel
theorem d_M_standing_63 : decode m_M_standing.2.1 63 = .ok (.iload 5, 2) := by decide +kernel
theorem d_M_standing_65 : decode m_M_standing.2.1 65 = .ok (.iaload, 1) := by decide +kernel
theorem d_M_standing_66 : decode m_M_standing.2.1 66 = .ok (.invokestatic 217, 3) := by decide +kernel
theorem d_M_standing_69 : decode m_M_standing.2.1 69 = .ok (.iload_n 1, 1) := by decide +kernel
theorem d_M_standing_70 : decode m_M_standing.2.1 70 = .ok (.if_icmp .ne 6, 3) := by decide +kernel
theorem d_M_standing_73 : decode m_M_standing.2.1 73 = .ok (.iinc 2 1, 3) := by decide +kernel
theorem d_M_standing_76 : decode m_M_standing.2.1 76 = .ok (.iinc 5 1, 3) := by decide +kernel
theorem d_M_standing_79 : decode m_M_standing.2.1 79 = .ok (.goto (-42), 3) := by decide +kernel
theorem d_M_standing_82 : decode m_M_standing.2.1 82 = .ok (.iinc 4 1, 3) := by decide +kernel
theorem d_M_standing_85 : decode m_M_standing.2.1 85 = .ok (.goto (-68), 3) := by decide +kernel
theorem d_M_standing_88 : decode m_M_standing.2.1 88 = .ok (.iinc 3 1, 3) := by decide +kernel
theorem d_M_standing_91 : decode m_M_standing.2.1 91 = .ok (.goto (-87), 3) := by decide +kernel
theorem d_M_standing_94 : decode m_M_standing.2.1 94 = .ok (.iload_n 2, 1) := by decide +kernel
theorem d_M_standing_95 : decode m_M_standing.2.1 95 = .ok (.ireturn, 1) := by decide +kernel
theorem b_M_standing_0 {E : EV} {d : Nat} {Q : Option AV → St → Prop} {σ : St} (x1 : Int) (h : WP E m_M_standing (d + 1) 4 [(0, aP 42), (1, aI x1), (2, aI 0), (3, aI 0)] [] σ Q) : WP E m_M_standing (d + 1) 0 [(0, aP 42), (1, aI x1)] [] σ Q := by
  refine s_iconst d_M_standing_0 ?_
  refine s_istore_n d_M_standing_1 rfl (by decide) rfl ?_
  refine s_iconst d_M_standing_2 ?_
  refine s_istore_n d_M_standing_3 rfl (by decide) rfl ?_
  refine wp_drop [2, 3, 1, 0] rfl ?_
  exact h
theorem e_M_standing {E : EV} {d : Nat} {Q : Option AV → St → Prop} {σ : St} (x1 : Int) (h : WP E m_M_standing (d + 1) 4 [(0, aP 42), (1, aI x1), (2, aI 0), (3, aI 0)] [] σ Q) : WM E m_M_standing (d + 1) [aP 42, aI x1] σ Q := s_meth (by decide) (Nat.le_of_ble_eq_true rfl) rfl (b_M_standing_0 x1 h)
theorem b_M_standing_4 {E : EV} {d : Nat} {Q : Option AV → St → Prop} {σ : St} (x1 x2 x3 : Int) (hF : Fix σ) (h : (rI x3) ∧ (rI (σ.1 47 2)) ∧ (((σ.1 47 2) ≤ x3 → Q (some (aI x2)) σ) ∧ (¬ (σ.1 47 2) ≤ x3 → WP E m_M_standing (d + 1) 17 [(0, aP 42), (1, aI x1), (2, aI x2), (3, aI x3), (4, aI 0)] [] σ Q))) : WP E m_M_standing (d + 1) 4 [(0, aP 42), (1, aI x1), (2, aI x2), (3, aI x3)] [] σ Q := by
  refine s_iload_n 3 d_M_standing_4 rfl rfl ?_
  refine s_aload_n 0 d_M_standing_5 rfl rfl ?_
  refine s_getF (v := 47) d_M_standing_6 fl_M_26 rfl (sf_42 hF) (ff_32 hF) ?_
  refine s_iconst d_M_standing_9 ?_
  refine s_ialoadv (v := σ.1 47 2) d_M_standing_10 ⟨_, sf_47 hF, by decide, by decide, by decide⟩ rfl ?_
  obtain ⟨g1, h⟩ := h
  obtain ⟨g2, h⟩ := h
  refine s_icmp_ge d_M_standing_11 rfl g1 g2 (fun c => ?_) (fun c => ?_)
  · have h := h.1 c
    refine s_iload_n 2 d_M_standing_94 rfl rfl ?_
    exact s_ireturn d_M_standing_95 rfl h
  · have h := h.2 c
    refine s_iconst d_M_standing_14 ?_
    refine s_istore d_M_standing_15 (by decide) rfl ?_
    refine wp_drop [1, 2, 3, 4, 0] rfl ?_
    exact h
theorem b_M_standing_17 {E : EV} {d : Nat} {Q : Option AV → St → Prop} {σ : St} (x1 x2 x3 x4 : Int) (hF : Fix σ) (h : (WMi E m_M_squaresOf d [aP 42, aI x3] σ (fun v1 σ1 => Fix σ1 ∧ (rI x4) ∧ (rI v1) ∧ ((v1 ≤ x4 → WP E m_M_standing (d + 1) 4 [(0, aP 42), (1, aI x1), (2, aI x2), (3, aI (x3 + 1))] [] σ1 Q) ∧ (¬ v1 ≤ x4 → (WMv E m_M_takes d [aP 42, aI x3, aI x4] σ1 (fun σ4 => WP E m_M_standing (d + 1) 37 [(0, aP 42), (1, aI x1), (2, aI x2), (3, aI x3), (4, aI x4), (5, aI 0)] [] σ4 Q))))))) : WP E m_M_standing (d + 1) 17 [(0, aP 42), (1, aI x1), (2, aI x2), (3, aI x3), (4, aI x4)] [] σ Q := by
  refine s_iload 4 d_M_standing_17 rfl ?_
  refine s_aload_n 0 d_M_standing_19 rfl rfl ?_
  refine s_iload_n 3 d_M_standing_20 rfl rfl ?_
  refine s_callV (as := [aI x3]) (ci := 10) d_M_standing_21 ok_M_squaresOf lk_M_178 io_M_squaresOf so_M_squaresOf (by decide) rfl rfl rfl (Nat.le_of_ble_eq_true rfl) rfl (sf_42 hF) (WM.mono h ?_)
  rintro _ σ1 ⟨v1, rfl, hp, h⟩
  obtain ⟨hF1, h⟩ := h
  show WP E m_M_standing (d + 1) 24 [(0, aP 42), (1, aI x1), (2, aI x2), (3, aI x3), (4, aI x4)] [aI v1, aI x4] σ1 Q
  obtain ⟨g2, h⟩ := h
  obtain ⟨g3, h⟩ := h
  refine s_icmp_ge d_M_standing_24 rfl g2 g3 (fun c => ?_) (fun c => ?_)
  · have h := h.1 c
    refine s_iinc 3 d_M_standing_88 rfl (by decide) rfl ?_
    refine s_goto d_M_standing_91 rfl ?_
    refine wp_drop [1, 2, 3, 0] rfl ?_
    exact h
  · have h := h.2 c
    refine s_aload_n 0 d_M_standing_27 rfl rfl ?_
    refine s_iload_n 3 d_M_standing_28 rfl rfl ?_
    refine s_iload 4 d_M_standing_29 rfl ?_
    refine s_callV (as := [aI x3, aI x4]) (ci := 10) d_M_standing_31 ok_M_takes lk_M_210 io_M_takes so_M_takes (by decide) rfl rfl rfl (Nat.le_of_ble_eq_true rfl) rfl (sf_42 hF1) (WM.mono h ?_)
    rintro _ σ4 ⟨rfl, hp, h⟩
    show WP E m_M_standing (d + 1) 34 [(0, aP 42), (1, aI x1), (2, aI x2), (3, aI x3), (4, aI x4)] [] σ4 Q
    refine s_iconst d_M_standing_34 ?_
    refine s_istore d_M_standing_35 (by decide) rfl ?_
    refine wp_drop [1, 2, 3, 4, 5, 0] rfl ?_
    exact h
theorem b_M_standing_37 {E : EV} {d : Nat} {Q : Option AV → St → Prop} {σ : St} (x1 x2 x3 x4 x5 : Int) (hF : Fix σ) (h : (rI x5) ∧ (rI (σ.1 42 10)) ∧ (((σ.1 42 10) ≤ x5 → WP E m_M_standing (d + 1) 17 [(0, aP 42), (1, aI x1), (2, aI x2), (3, aI x3), (4, aI (x4 + 1))] [] σ Q) ∧ (¬ (σ.1 42 10) ≤ x5 → (0 ≤ x5 ∧ x5 < 24) ∧ (WMi E m_M_isSign d [aI (σ.1 50 x5)] σ (fun v4 σ4 => Fix σ4 ∧ (rI v4) ∧ ((v4 = 0 → WP E m_M_standing (d + 1) 76 [(0, aP 42), (1, aI x1), (2, aI x2), (3, aI x3), (4, aI x4), (5, aI x5)] [] σ4 Q) ∧ (¬ v4 = 0 → (0 ≤ x5 ∧ x5 < 24) ∧ (WMi E m_M_letterOf d [aI (σ4.1 50 x5)] σ4 (fun v7 σ7 => (rI v7) ∧ (rI x1) ∧ ((¬ v7 = x1 → WP E m_M_standing (d + 1) 76 [(0, aP 42), (1, aI x1), (2, aI x2), (3, aI x3), (4, aI x4), (5, aI x5)] [] σ7 Q) ∧ (v7 = x1 → WP E m_M_standing (d + 1) 76 [(0, aP 42), (1, aI x1), (2, aI (x2 + 1)), (3, aI x3), (4, aI x4), (5, aI x5)] [] σ7 Q))))))))))) : WP E m_M_standing (d + 1) 37 [(0, aP 42), (1, aI x1), (2, aI x2), (3, aI x3), (4, aI x4), (5, aI x5)] [] σ Q := by
  refine s_iload 5 d_M_standing_37 rfl ?_
  refine s_aload_n 0 d_M_standing_39 rfl rfl ?_
  refine s_getF (v := σ.1 42 10) d_M_standing_40 fl_M_189 rfl (sf_42 hF) rfl ?_
  obtain ⟨g1, h⟩ := h
  obtain ⟨g2, h⟩ := h
  refine s_icmp_ge d_M_standing_43 rfl g1 g2 (fun c => ?_) (fun c => ?_)
  · have h := h.1 c
    refine s_iinc 4 d_M_standing_82 rfl (by decide) rfl ?_
    refine s_goto d_M_standing_85 rfl ?_
    refine wp_drop [1, 2, 3, 4, 0] rfl ?_
    exact h
  · have h := h.2 c
    refine s_aload_n 0 d_M_standing_46 rfl rfl ?_
    refine s_getF (v := 50) d_M_standing_47 fl_M_35 rfl (sf_42 hF) (ff_35 hF) ?_
    refine s_iload 5 d_M_standing_50 rfl ?_
    obtain ⟨g3, h⟩ := h
    refine s_ialoadv (v := σ.1 50 x5) d_M_standing_52 ⟨_, sf_50 hF, g3.1, g3.2, by have := g3.2; omega⟩ rfl ?_
    refine s_callS (as := [aI (σ.1 50 x5)]) d_M_standing_53 ok_M_isSign lk_M_199 to_M_isSign rfl (Nat.le_of_ble_eq_true rfl) rfl (WM.mono h ?_)
    rintro _ σ4 ⟨v4, rfl, hp, h⟩
    obtain ⟨hF4, h⟩ := h
    show WP E m_M_standing (d + 1) 56 [(0, aP 42), (1, aI x1), (2, aI x2), (3, aI x3), (4, aI x4), (5, aI x5)] [aI v4] σ4 Q
    obtain ⟨g5, h⟩ := h
    refine s_if_eq d_M_standing_56 rfl g5 (fun c => ?_) (fun c => ?_)
    · have h := h.1 c
      exact h
    · have h := h.2 c
      refine s_aload_n 0 d_M_standing_59 rfl rfl ?_
      refine s_getF (v := 50) d_M_standing_60 fl_M_35 rfl (sf_42 hF4) (ff_35 hF4) ?_
      refine s_iload 5 d_M_standing_63 rfl ?_
      obtain ⟨g6, h⟩ := h
      refine s_ialoadv (v := σ4.1 50 x5) d_M_standing_65 ⟨_, sf_50 hF4, g6.1, g6.2, by have := g6.2; omega⟩ rfl ?_
      refine s_callS (as := [aI (σ4.1 50 x5)]) d_M_standing_66 ok_M_letterOf lk_M_217 to_M_letterOf rfl (Nat.le_of_ble_eq_true rfl) rfl (WM.mono h ?_)
      rintro _ σ7 ⟨v7, rfl, hp, h⟩
      show WP E m_M_standing (d + 1) 69 [(0, aP 42), (1, aI x1), (2, aI x2), (3, aI x3), (4, aI x4), (5, aI x5)] [aI v7] σ7 Q
      refine s_iload_n 1 d_M_standing_69 rfl rfl ?_
      obtain ⟨g8, h⟩ := h
      obtain ⟨g9, h⟩ := h
      refine s_icmp_ne d_M_standing_70 rfl g8 g9 (fun c => ?_) (fun c => ?_)
      · have h := h.1 c
        exact h
      · have h := h.2 c
        refine s_iinc 2 d_M_standing_73 rfl (by decide) rfl ?_
        refine wp_drop [1, 2, 0, 3, 4, 5] rfl ?_
        exact h
theorem b_M_standing_76 {E : EV} {d : Nat} {Q : Option AV → St → Prop} {σ : St} (x1 x2 x3 x4 x5 : Int) (h : WP E m_M_standing (d + 1) 37 [(0, aP 42), (1, aI x1), (2, aI x2), (3, aI x3), (4, aI x4), (5, aI (x5 + 1))] [] σ Q) : WP E m_M_standing (d + 1) 76 [(0, aP 42), (1, aI x1), (2, aI x2), (3, aI x3), (4, aI x4), (5, aI x5)] [] σ Q := by
  refine s_iinc 5 d_M_standing_76 rfl (by decide) rfl ?_
  refine s_goto d_M_standing_79 rfl ?_
  refine wp_drop [1, 2, 3, 4, 5, 0] rfl ?_
  exact h
theorem d_M_line_0 : decode m_M_line.2.1 0 = .ok (.aload_n 0, 1) := by decide +kernel
theorem d_M_line_1 : decode m_M_line.2.1 1 = .ok (.iload_n 1, 1) := by decide +kernel
theorem d_M_line_2 : decode m_M_line.2.1 2 = .ok (.invokevirtual 174, 3) := by decide +kernel
theorem d_M_line_5 : decode m_M_line.2.1 5 = .ok (.ifCond .ne 5, 3) := by decide +kernel
theorem d_M_line_8 : decode m_M_line.2.1 8 = .ok (.iconst (-1), 1) := by decide +kernel
theorem d_M_line_9 : decode m_M_line.2.1 9 = .ok (.ireturn, 1) := by decide +kernel
theorem d_M_line_10 : decode m_M_line.2.1 10 = .ok (.iload_n 2, 1) := by decide +kernel
theorem d_M_line_11 : decode m_M_line.2.1 11 = .ok (.tableswitch 51 0 2 #[25, 31, 37], 25) := by decide +kernel
theorem d_M_line_36 : decode m_M_line.2.1 36 = .ok (.aload_n 0, 1) := by decide +kernel
theorem d_M_line_37 : decode m_M_line.2.1 37 = .ok (.iload_n 1, 1) := by decide +kernel
theorem d_M_line_38 : decode m_M_line.2.1 38 = .ok (.invokevirtual 178, 3) := by decide +kernel
theorem d_M_line_41 : decode m_M_line.2.1 41 = .ok (.ireturn, 1) := by decide +kernel
theorem d_M_line_42 : decode m_M_line.2.1 42 = .ok (.aload_n 0, 1) := by decide +kernel
theorem d_M_line_43 : decode m_M_line.2.1 43 = .ok (.iload_n 1, 1) := by decide +kernel
theorem d_M_line_44 : decode m_M_line.2.1 44 = .ok (.invokevirtual 412, 3) := by decide +kernel
theorem d_M_line_47 : decode m_M_line.2.1 47 = .ok (.ireturn, 1) := by decide +kernel
theorem d_M_line_48 : decode m_M_line.2.1 48 = .ok (.aload_n 0, 1) := by decide +kernel
theorem d_M_line_49 : decode m_M_line.2.1 49 = .ok (.iload_n 1, 1) := by decide +kernel
theorem d_M_line_50 : decode m_M_line.2.1 50 = .ok (.invokevirtual 266, 3) := by decide +kernel
theorem d_M_line_53 : decode m_M_line.2.1 53 = .ok (.ifCond .eq 7, 3) := by decide +kernel
theorem d_M_line_56 : decode m_M_line.2.1 56 = .ok (.iconst 1, 1) := by decide +kernel
theorem d_M_line_57 : decode m_M_line.2.1 57 = .ok (.goto 4, 3) := by decide +kernel
theorem d_M_line_60 : decode m_M_line.2.1 60 = .ok (.iconst 0, 1) := by decide +kernel
theorem d_M_line_61 : decode m_M_line.2.1 61 = .ok (.ireturn, 1) := by decide +kernel
theorem d_M_line_62 : decode m_M_line.2.1 62 = .ok (.iconst (-1), 1) := by decide +kernel
theorem d_M_line_63 : decode m_M_line.2.1 63 = .ok (.ireturn, 1) := by decide +kernel
theorem b_M_line_0 {E : EV} {d : Nat} {Q : Option AV → St → Prop} {σ : St} (x1 x2 : Int) (hF : Fix σ) (h : (WMi E m_M_isLine d [aP 42, aI x1] σ (fun v1 σ1 => Fix σ1 ∧ (rI v1) ∧ ((¬ v1 = 0 → (rI x2) ∧ ((x2 = 0 → (WMi E m_M_squaresOf d [aP 42, aI x1] σ1 (fun v4 σ4 => Q (some (aI v4)) σ4))) ∧ (x2 = 1 → (WMi E m_M_signsOfLine d [aP 42, aI x1] σ1 (fun v5 σ5 => Q (some (aI v5)) σ5))) ∧ (x2 = 2 → (WMi E m_M_isLeft d [aP 42, aI x1] σ1 (fun v6 σ6 => (rI v6) ∧ ((v6 = 0 → Q (some (aI 0)) σ6) ∧ (¬ v6 = 0 → Q (some (aI 1)) σ6))))) ∧ (¬ (0 ≤ x2 ∧ x2 ≤ 2) → Q (some (aI (-1))) σ1))) ∧ (v1 = 0 → Q (some (aI (-1))) σ1))))) : WP E m_M_line (d + 1) 0 [(0, aP 42), (1, aI x1), (2, aI x2)] [] σ Q := by
  refine s_aload_n 0 d_M_line_0 rfl rfl ?_
  refine s_iload_n 1 d_M_line_1 rfl rfl ?_
  refine s_callV (as := [aI x1]) (ci := 10) d_M_line_2 ok_M_isLine lk_M_174 io_M_isLine so_M_isLine (by decide) rfl rfl rfl (Nat.le_of_ble_eq_true rfl) rfl (sf_42 hF) (WM.mono h ?_)
  rintro _ σ1 ⟨v1, rfl, hp, h⟩
  obtain ⟨hF1, h⟩ := h
  show WP E m_M_line (d + 1) 5 [(0, aP 42), (1, aI x1), (2, aI x2)] [aI v1] σ1 Q
  obtain ⟨g2, h⟩ := h
  refine s_if_ne d_M_line_5 rfl g2 (fun c => ?_) (fun c => ?_)
  · have h := h.1 c
    refine s_iload_n 2 d_M_line_10 rfl rfl ?_
    obtain ⟨g3, h⟩ := h
    by_cases c0 : x2 = 0
    · have h := h.1 c0
      refine s_tableIn d_M_line_11 g3 (by rw [c0]; decide) (by rw [c0]; rfl) (tgt := 36) rfl ?_
      refine s_aload_n 0 d_M_line_36 rfl rfl ?_
      refine s_iload_n 1 d_M_line_37 rfl rfl ?_
      refine s_callV (as := [aI x1]) (ci := 10) d_M_line_38 ok_M_squaresOf lk_M_178 io_M_squaresOf so_M_squaresOf (by decide) rfl rfl rfl (Nat.le_of_ble_eq_true rfl) rfl (sf_42 hF1) (WM.mono h ?_)
      rintro _ σ4 ⟨v4, rfl, hp, h⟩
      show WP E m_M_line (d + 1) 41 [(0, aP 42), (1, aI x1), (2, aI x2)] [aI v4] σ4 Q
      exact s_ireturn d_M_line_41 rfl h
    by_cases c1 : x2 = 1
    · have h := h.2.1 c1
      refine s_tableIn d_M_line_11 g3 (by rw [c1]; decide) (by rw [c1]; rfl) (tgt := 42) rfl ?_
      refine s_aload_n 0 d_M_line_42 rfl rfl ?_
      refine s_iload_n 1 d_M_line_43 rfl rfl ?_
      refine s_callV (as := [aI x1]) (ci := 10) d_M_line_44 ok_M_signsOfLine lk_M_412 io_M_signsOfLine so_M_signsOfLine (by decide) rfl rfl rfl (Nat.le_of_ble_eq_true rfl) rfl (sf_42 hF1) (WM.mono h ?_)
      rintro _ σ5 ⟨v5, rfl, hp, h⟩
      show WP E m_M_line (d + 1) 47 [(0, aP 42), (1, aI x1), (2, aI x2)] [aI v5] σ5 Q
      exact s_ireturn d_M_line_47 rfl h
    by_cases c2 : x2 = 2
    · have h := h.2.2.1 c2
      refine s_tableIn d_M_line_11 g3 (by rw [c2]; decide) (by rw [c2]; rfl) (tgt := 48) rfl ?_
      refine s_aload_n 0 d_M_line_48 rfl rfl ?_
      refine s_iload_n 1 d_M_line_49 rfl rfl ?_
      refine s_callV (as := [aI x1]) (ci := 10) d_M_line_50 ok_M_isLeft lk_M_266 io_M_isLeft so_M_isLeft (by decide) rfl rfl rfl (Nat.le_of_ble_eq_true rfl) rfl (sf_42 hF1) (WM.mono h ?_)
      rintro _ σ6 ⟨v6, rfl, hp, h⟩
      show WP E m_M_line (d + 1) 53 [(0, aP 42), (1, aI x1), (2, aI x2)] [aI v6] σ6 Q
      obtain ⟨g7, h⟩ := h
      refine s_if_eq d_M_line_53 rfl g7 (fun c => ?_) (fun c => ?_)
      · have h := h.1 c
        refine s_iconst d_M_line_60 ?_
        exact s_ireturn d_M_line_61 rfl h
      · have h := h.2 c
        refine s_iconst d_M_line_56 ?_
        refine s_goto d_M_line_57 rfl ?_
        exact s_ireturn d_M_line_61 rfl h
    have c : ¬ (0 ≤ x2 ∧ x2 ≤ 2) := by omega
    have h := h.2.2.2 c
    refine s_tableOut d_M_line_11 g3 c (tgt := 62) rfl ?_
    refine s_iconst d_M_line_62 ?_
    exact s_ireturn d_M_line_63 rfl h
  · have h := h.2 c
    refine s_iconst d_M_line_8 ?_
    exact s_ireturn d_M_line_9 rfl h
theorem e_M_line {E : EV} {d : Nat} {Q : Option AV → St → Prop} {σ : St} (x1 x2 : Int) (hF : Fix σ) (h : (WMi E m_M_isLine d [aP 42, aI x1] σ (fun v1 σ1 => Fix σ1 ∧ (rI v1) ∧ ((¬ v1 = 0 → (rI x2) ∧ ((x2 = 0 → (WMi E m_M_squaresOf d [aP 42, aI x1] σ1 (fun v4 σ4 => Q (some (aI v4)) σ4))) ∧ (x2 = 1 → (WMi E m_M_signsOfLine d [aP 42, aI x1] σ1 (fun v5 σ5 => Q (some (aI v5)) σ5))) ∧ (x2 = 2 → (WMi E m_M_isLeft d [aP 42, aI x1] σ1 (fun v6 σ6 => (rI v6) ∧ ((v6 = 0 → Q (some (aI 0)) σ6) ∧ (¬ v6 = 0 → Q (some (aI 1)) σ6))))) ∧ (¬ (0 ≤ x2 ∧ x2 ≤ 2) → Q (some (aI (-1))) σ1))) ∧ (v1 = 0 → Q (some (aI (-1))) σ1))))) : WM E m_M_line (d + 1) [aP 42, aI x1, aI x2] σ Q := s_meth (by decide) (Nat.le_of_ble_eq_true rfl) rfl (b_M_line_0 x1 x2 hF h)
theorem d_M_signsOfLine_0 : decode m_M_signsOfLine.2.1 0 = .ok (.iconst 0, 1) := by decide +kernel
theorem d_M_signsOfLine_1 : decode m_M_signsOfLine.2.1 1 = .ok (.istore_n 2, 1) := by decide +kernel
theorem d_M_signsOfLine_2 : decode m_M_signsOfLine.2.1 2 = .ok (.iconst 0, 1) := by decide +kernel
theorem d_M_signsOfLine_3 : decode m_M_signsOfLine.2.1 3 = .ok (.istore_n 3, 1) := by decide +kernel
theorem d_M_signsOfLine_4 : decode m_M_signsOfLine.2.1 4 = .ok (.iload_n 3, 1) := by decide +kernel
theorem d_M_signsOfLine_5 : decode m_M_signsOfLine.2.1 5 = .ok (.aload_n 0, 1) := by decide +kernel
theorem d_M_signsOfLine_6 : decode m_M_signsOfLine.2.1 6 = .ok (.iload_n 1, 1) := by decide +kernel
theorem d_M_signsOfLine_7 : decode m_M_signsOfLine.2.1 7 = .ok (.invokevirtual 178, 3) := by decide +kernel
theorem d_M_signsOfLine_10 : decode m_M_signsOfLine.2.1 10 = .ok (.if_icmp .ge 18, 3) := by decide +kernel
theorem d_M_signsOfLine_13 : decode m_M_signsOfLine.2.1 13 = .ok (.iload_n 2, 1) := by decide +kernel
theorem d_M_signsOfLine_14 : decode m_M_signsOfLine.2.1 14 = .ok (.aload_n 0, 1) := by decide +kernel
theorem d_M_signsOfLine_15 : decode m_M_signsOfLine.2.1 15 = .ok (.iload_n 1, 1) := by decide +kernel
theorem d_M_signsOfLine_16 : decode m_M_signsOfLine.2.1 16 = .ok (.iload_n 3, 1) := by decide +kernel
theorem d_M_signsOfLine_17 : decode m_M_signsOfLine.2.1 17 = .ok (.invokevirtual 307, 3) := by decide +kernel
theorem d_M_signsOfLine_20 : decode m_M_signsOfLine.2.1 20 = .ok (.iadd, 1) := by decide +kernel
theorem d_M_signsOfLine_21 : decode m_M_signsOfLine.2.1 21 = .ok (.istore_n 2, 1) := by decide +kernel
theorem d_M_signsOfLine_22 : decode m_M_signsOfLine.2.1 22 = .ok (.iinc 3 1, 3) := by decide +kernel
theorem d_M_signsOfLine_25 : decode m_M_signsOfLine.2.1 25 = .ok (.goto (-21), 3) := by decide +kernel
theorem d_M_signsOfLine_28 : decode m_M_signsOfLine.2.1 28 = .ok (.iload_n 2, 1) := by decide +kernel
theorem d_M_signsOfLine_29 : decode m_M_signsOfLine.2.1 29 = .ok (.ireturn, 1) := by decide +kernel
theorem b_M_signsOfLine_0 {E : EV} {d : Nat} {Q : Option AV → St → Prop} {σ : St} (x1 : Int) (h : WP E m_M_signsOfLine (d + 1) 4 [(0, aP 42), (1, aI x1), (2, aI 0), (3, aI 0)] [] σ Q) : WP E m_M_signsOfLine (d + 1) 0 [(0, aP 42), (1, aI x1)] [] σ Q := by
  refine s_iconst d_M_signsOfLine_0 ?_
  refine s_istore_n d_M_signsOfLine_1 rfl (by decide) rfl ?_
  refine s_iconst d_M_signsOfLine_2 ?_
  refine s_istore_n d_M_signsOfLine_3 rfl (by decide) rfl ?_
  refine wp_drop [2, 3, 1, 0] rfl ?_
  exact h
theorem e_M_signsOfLine {E : EV} {d : Nat} {Q : Option AV → St → Prop} {σ : St} (x1 : Int) (h : WP E m_M_signsOfLine (d + 1) 4 [(0, aP 42), (1, aI x1), (2, aI 0), (3, aI 0)] [] σ Q) : WM E m_M_signsOfLine (d + 1) [aP 42, aI x1] σ Q := s_meth (by decide) (Nat.le_of_ble_eq_true rfl) rfl (b_M_signsOfLine_0 x1 h)
theorem b_M_signsOfLine_4 {E : EV} {d : Nat} {Q : Option AV → St → Prop} {σ : St} (x1 x2 x3 : Int) (hF : Fix σ) (h : (WMi E m_M_squaresOf d [aP 42, aI x1] σ (fun v1 σ1 => Fix σ1 ∧ (rI x3) ∧ (rI v1) ∧ ((v1 ≤ x3 → Q (some (aI x2)) σ1) ∧ (¬ v1 ≤ x3 → (WMi E m_M_signsOf d [aP 42, aI x1, aI x3] σ1 (fun v4 σ4 => WP E m_M_signsOfLine (d + 1) 4 [(0, aP 42), (1, aI x1), (2, aI (x2 + v4)), (3, aI (x3 + 1))] [] σ4 Q))))))) : WP E m_M_signsOfLine (d + 1) 4 [(0, aP 42), (1, aI x1), (2, aI x2), (3, aI x3)] [] σ Q := by
  refine s_iload_n 3 d_M_signsOfLine_4 rfl rfl ?_
  refine s_aload_n 0 d_M_signsOfLine_5 rfl rfl ?_
  refine s_iload_n 1 d_M_signsOfLine_6 rfl rfl ?_
  refine s_callV (as := [aI x1]) (ci := 10) d_M_signsOfLine_7 ok_M_squaresOf lk_M_178 io_M_squaresOf so_M_squaresOf (by decide) rfl rfl rfl (Nat.le_of_ble_eq_true rfl) rfl (sf_42 hF) (WM.mono h ?_)
  rintro _ σ1 ⟨v1, rfl, hp, h⟩
  obtain ⟨hF1, h⟩ := h
  show WP E m_M_signsOfLine (d + 1) 10 [(0, aP 42), (1, aI x1), (2, aI x2), (3, aI x3)] [aI v1, aI x3] σ1 Q
  obtain ⟨g2, h⟩ := h
  obtain ⟨g3, h⟩ := h
  refine s_icmp_ge d_M_signsOfLine_10 rfl g2 g3 (fun c => ?_) (fun c => ?_)
  · have h := h.1 c
    refine s_iload_n 2 d_M_signsOfLine_28 rfl rfl ?_
    exact s_ireturn d_M_signsOfLine_29 rfl h
  · have h := h.2 c
    refine s_iload_n 2 d_M_signsOfLine_13 rfl rfl ?_
    refine s_aload_n 0 d_M_signsOfLine_14 rfl rfl ?_
    refine s_iload_n 1 d_M_signsOfLine_15 rfl rfl ?_
    refine s_iload_n 3 d_M_signsOfLine_16 rfl rfl ?_
    refine s_callV (as := [aI x1, aI x3]) (ci := 10) d_M_signsOfLine_17 ok_M_signsOf lk_M_307 io_M_signsOf so_M_signsOf (by decide) rfl rfl rfl (Nat.le_of_ble_eq_true rfl) rfl (sf_42 hF1) (WM.mono h ?_)
    rintro _ σ4 ⟨v4, rfl, hp, h⟩
    show WP E m_M_signsOfLine (d + 1) 20 [(0, aP 42), (1, aI x1), (2, aI x2), (3, aI x3)] [aI v4, aI x2] σ4 Q
    refine s_iadd d_M_signsOfLine_20 ?_
    refine s_istore_n d_M_signsOfLine_21 rfl (by decide) rfl ?_
    refine s_iinc 3 d_M_signsOfLine_22 rfl (by decide) rfl ?_
    refine s_goto d_M_signsOfLine_25 rfl ?_
    refine wp_drop [2, 3, 1, 0] rfl ?_
    exact h
theorem d_M_square_0 : decode m_M_square.2.1 0 = .ok (.aload_n 0, 1) := by decide +kernel
theorem d_M_square_1 : decode m_M_square.2.1 1 = .ok (.iload_n 1, 1) := by decide +kernel
theorem d_M_square_2 : decode m_M_square.2.1 2 = .ok (.iload_n 2, 1) := by decide +kernel
theorem d_M_square_3 : decode m_M_square.2.1 3 = .ok (.invokevirtual 206, 3) := by decide +kernel
theorem d_M_square_6 : decode m_M_square.2.1 6 = .ok (.ifCond .ne 5, 3) := by decide +kernel
theorem d_M_square_9 : decode m_M_square.2.1 9 = .ok (.iconst (-1), 1) := by decide +kernel
theorem d_M_square_10 : decode m_M_square.2.1 10 = .ok (.ireturn, 1) := by decide +kernel
theorem d_M_square_11 : decode m_M_square.2.1 11 = .ok (.aload_n 0, 1) := by decide +kernel
theorem d_M_square_12 : decode m_M_square.2.1 12 = .ok (.iload_n 1, 1) := by decide +kernel
theorem d_M_square_13 : decode m_M_square.2.1 13 = .ok (.iload_n 2, 1) := by decide +kernel
theorem d_M_square_14 : decode m_M_square.2.1 14 = .ok (.invokevirtual 210, 3) := by decide +kernel
theorem d_M_square_17 : decode m_M_square.2.1 17 = .ok (.aload_n 0, 1) := by decide +kernel
theorem d_M_square_18 : decode m_M_square.2.1 18 = .ok (.invokevirtual 220, 3) := by decide +kernel
theorem d_M_square_21 : decode m_M_square.2.1 21 = .ok (.aload_n 0, 1) := by decide +kernel
theorem d_M_square_22 : decode m_M_square.2.1 22 = .ok (.iconst 0, 1) := by decide +kernel
theorem d_M_square_23 : decode m_M_square.2.1 23 = .ok (.putfield 331, 3) := by decide +kernel
theorem d_M_square_26 : decode m_M_square.2.1 26 = .ok (.aload_n 0, 1) := by decide +kernel
theorem d_M_square_27 : decode m_M_square.2.1 27 = .ok (.invokevirtual 347, 3) := by decide +kernel
theorem d_M_square_30 : decode m_M_square.2.1 30 = .ok (.aload_n 0, 1) := by decide +kernel
theorem d_M_square_31 : decode m_M_square.2.1 31 = .ok (.getfield 35, 3) := by decide +kernel
theorem d_M_square_34 : decode m_M_square.2.1 34 = .ok (.iconst 0, 1) := by decide +kernel
theorem d_M_square_35 : decode m_M_square.2.1 35 = .ok (.iaload, 1) := by decide +kernel
theorem d_M_square_36 : decode m_M_square.2.1 36 = .ok (.sipush 300, 3) := by decide +kernel
theorem d_M_square_39 : decode m_M_square.2.1 39 = .ok (.if_icmp .lt 7, 3) := by decide +kernel
theorem d_M_square_42 : decode m_M_square.2.1 42 = .ok (.iconst 1, 1) := by decide +kernel
theorem d_M_square_43 : decode m_M_square.2.1 43 = .ok (.goto 4, 3) := by decide +kernel
theorem d_M_square_46 : decode m_M_square.2.1 46 = .ok (.iconst 0, 1) := by decide +kernel
theorem d_M_square_47 : decode m_M_square.2.1 47 = .ok (.istore 4, 2) := by decide +kernel
theorem d_M_square_49 : decode m_M_square.2.1 49 = .ok (.iload 4, 2) := by decide +kernel
theorem d_M_square_51 : decode m_M_square.2.1 51 = .ok (.ifCond .eq 7, 3) := by decide +kernel
theorem d_M_square_54 : decode m_M_square.2.1 54 = .ok (.iconst 1, 1) := by decide +kernel
theorem d_M_square_55 : decode m_M_square.2.1 55 = .ok (.goto 4, 3) := by decide +kernel
theorem d_M_square_58 : decode m_M_square.2.1 58 = .ok (.iconst 0, 1) := by decide +kernel
theorem d_M_square_59 : decode m_M_square.2.1 59 = .ok (.istore 5, 2) := by decide +kernel
theorem d_M_square_61 : decode m_M_square.2.1 61 = .ok (.iload_n 3, 1) := by decide +kernel
theorem d_M_square_62 : decode m_M_square.2.1 62 = .ok (.tableswitch 183 0 7 #[46, 59, 66, 73, 126, 145, 173, 178], 46) := by decide +kernel
theorem d_M_square_108 : decode m_M_square.2.1 108 = .ok (.aload_n 0, 1) := by decide +kernel
theorem d_M_square_109 : decode m_M_square.2.1 109 = .ok (.getfield 35, 3) := by decide +kernel
theorem d_M_square_112 : decode m_M_square.2.1 112 = .ok (.iconst 0, 1) := by decide +kernel
theorem d_M_square_113 : decode m_M_square.2.1 113 = .ok (.aload_n 0, 1) := by decide +kernel
theorem d_M_square_114 : decode m_M_square.2.1 114 = .ok (.getfield 189, 3) := by decide +kernel
theorem d_M_square_117 : decode m_M_square.2.1 117 = .ok (.invokestatic 202, 3) := by decide +kernel
theorem d_M_square_120 : decode m_M_square.2.1 120 = .ok (.ireturn, 1) := by decide +kernel
theorem d_M_square_121 : decode m_M_square.2.1 121 = .ok (.aload_n 0, 1) := by decide +kernel
theorem d_M_square_122 : decode m_M_square.2.1 122 = .ok (.getfield 41, 3) := by decide +kernel
theorem d_M_square_125 : decode m_M_square.2.1 125 = .ok (.iconst 0, 1) := by decide +kernel
theorem d_M_square_126 : decode m_M_square.2.1 126 = .ok (.iaload, 1) := by decide +kernel
theorem d_M_square_127 : decode m_M_square.2.1 127 = .ok (.ireturn, 1) := by decide +kernel
theorem d_M_square_128 : decode m_M_square.2.1 128 = .ok (.aload_n 0, 1) := by decide +kernel
theorem d_M_square_129 : decode m_M_square.2.1 129 = .ok (.getfield 44, 3) := by decide +kernel
theorem d_M_square_132 : decode m_M_square.2.1 132 = .ok (.iconst 0, 1) := by decide +kernel
theorem d_M_square_133 : decode m_M_square.2.1 133 = .ok (.iaload, 1) := by decide +kernel
theorem d_M_square_134 : decode m_M_square.2.1 134 = .ok (.ireturn, 1) := by decide +kernel
theorem d_M_square_135 : decode m_M_square.2.1 135 = .ok (.iconst 0, 1) := by decide +kernel
theorem d_M_square_136 : decode m_M_square.2.1 136 = .ok (.istore 6, 2) := by decide +kernel
theorem d_M_square_138 : decode m_M_square.2.1 138 = .ok (.iconst 0, 1) := by decide +kernel
theorem d_M_square_139 : decode m_M_square.2.1 139 = .ok (.istore 7, 2) := by decide +kernel
theorem d_M_square_141 : decode m_M_square.2.1 141 = .ok (.iload 7, 2) := by decide +kernel
theorem d_M_square_143 : decode m_M_square.2.1 143 = .ok (.aload_n 0, 1) := by decide +kernel
theorem d_M_square_144 : decode m_M_square.2.1 144 = .ok (.getfield 189, 3) := by decide +kernel
theorem d_M_square_147 : decode m_M_square.2.1 147 = .ok (.if_icmp .ge 38, 3) := by decide +kernel
theorem d_M_square_150 : decode m_M_square.2.1 150 = .ok (.aload_n 0, 1) := by decide +kernel
theorem d_M_square_151 : decode m_M_square.2.1 151 = .ok (.getfield 35, 3) := by decide +kernel
theorem d_M_square_154 : decode m_M_square.2.1 154 = .ok (.iload 7, 2) := by decide +kernel
theorem d_M_square_156 : decode m_M_square.2.1 156 = .ok (.iaload, 1) := by decide +kernel
theorem d_M_square_157 : decode m_M_square.2.1 157 = .ok (.invokestatic 199, 3) := by decide +kernel
theorem d_M_square_160 : decode m_M_square.2.1 160 = .ok (.ifCond .eq 19, 3) := by decide +kernel
theorem d_M_square_163 : decode m_M_square.2.1 163 = .ok (.aload_n 0, 1) := by decide +kernel
theorem d_M_square_164 : decode m_M_square.2.1 164 = .ok (.getfield 35, 3) := by decide +kernel
theorem d_M_square_167 : decode m_M_square.2.1 167 = .ok (.iconst 0, 1) := by decide +kernel
theorem d_M_square_168 : decode m_M_square.2.1 168 = .ok (.iload 7, 2) := by decide +kernel
theorem d_M_square_170 : decode m_M_square.2.1 170 = .ok (.invokestatic 322, 3) := by decide +kernel
theorem d_M_square_173 : decode m_M_square.2.1 173 = .ok (.ifCond .le 6, 3) := by decide +kernel
theorem d_M_square_176 : decode m_M_square.2.1 176 = .ok (.iinc 6 1, 3) := by decide +kernel
theorem d_M_square_179 : decode m_M_square.2.1 179 = .ok (.iinc 7 1, 3) := by decide +kernel
theorem d_M_square_182 : decode m_M_square.2.1 182 = .ok (.goto (-41), 3) := by decide +kernel
theorem d_M_square_185 : decode m_M_square.2.1 185 = .ok (.iload 6, 2) := by decide +kernel
theorem d_M_square_187 : decode m_M_square.2.1 187 = .ok (.ireturn, 1) := by decide +kernel
theorem d_M_square_188 : decode m_M_square.2.1 188 = .ok (.iload 4, 2) := by decide +kernel
theorem d_M_square_190 : decode m_M_square.2.1 190 = .ok (.ifCond .eq 15, 3) := by decide +kernel
theorem d_M_square_193 : decode m_M_square.2.1 193 = .ok (.aload_n 0, 1) := by decide +kernel
theorem d_M_square_194 : decode m_M_square.2.1 194 = .ok (.getfield 35, 3) := by decide +kernel
theorem d_M_square_197 : decode m_M_square.2.1 197 = .ok (.iconst 0, 1) := by decide +kernel
theorem d_M_square_198 : decode m_M_square.2.1 198 = .ok (.iaload, 1) := by decide +kernel
theorem d_M_square_199 : decode m_M_square.2.1 199 = .ok (.invokestatic 182, 3) := by decide +kernel
theorem d_M_square_202 : decode m_M_square.2.1 202 = .ok (.goto 4, 3) := by decide +kernel
theorem d_M_square_205 : decode m_M_square.2.1 205 = .ok (.iconst 1, 1) := by decide +kernel
theorem d_M_square_206 : decode m_M_square.2.1 206 = .ok (.ireturn, 1) := by decide +kernel
theorem d_M_square_207 : decode m_M_square.2.1 207 = .ok (.aload_n 0, 1) := by decide +kernel
theorem d_M_square_208 : decode m_M_square.2.1 208 = .ok (.getfield 35, 3) := by decide +kernel
theorem d_M_square_211 : decode m_M_square.2.1 211 = .ok (.iload 5, 2) := by decide +kernel
theorem d_M_square_213 : decode m_M_square.2.1 213 = .ok (.iaload, 1) := by decide +kernel
theorem d_M_square_214 : decode m_M_square.2.1 214 = .ok (.invokestatic 199, 3) := by decide +kernel
theorem d_M_square_217 : decode m_M_square.2.1 217 = .ok (.ifCond .eq 7, 3) := by decide +kernel
theorem d_M_square_220 : decode m_M_square.2.1 220 = .ok (.iconst 1, 1) := by decide +kernel
theorem d_M_square_221 : decode m_M_square.2.1 221 = .ok (.goto 13, 3) := by decide +kernel
theorem d_M_square_224 : decode m_M_square.2.1 224 = .ok (.aload_n 0, 1) := by decide +kernel
theorem d_M_square_225 : decode m_M_square.2.1 225 = .ok (.getfield 35, 3) := by decide +kernel
theorem d_M_square_228 : decode m_M_square.2.1 228 = .ok (.iload 5, 2) := by decide +kernel
theorem d_M_square_230 : decode m_M_square.2.1 230 = .ok (.iaload, 1) := by decide +kernel
theorem d_M_square_231 : decode m_M_square.2.1 231 = .ok (.invokestatic 182, 3) := by decide +kernel
theorem d_M_square_234 : decode m_M_square.2.1 234 = .ok (.ireturn, 1) := by decide +kernel
theorem d_M_square_235 : decode m_M_square.2.1 235 = .ok (.aload_n 0, 1) := by decide +kernel
theorem d_M_square_236 : decode m_M_square.2.1 236 = .ok (.invokevirtual 382, 3) := by decide +kernel
theorem d_M_square_239 : decode m_M_square.2.1 239 = .ok (.ireturn, 1) := by decide +kernel
theorem d_M_square_240 : decode m_M_square.2.1 240 = .ok (.aload_n 0, 1) := by decide +kernel
theorem d_M_square_241 : decode m_M_square.2.1 241 = .ok (.invokevirtual 415, 3) := by decide +kernel
theorem d_M_square_244 : decode m_M_square.2.1 244 = .ok (.ireturn, 1) := by decide +kernel
theorem d_M_square_245 : decode m_M_square.2.1 245 = .ok (.iconst (-1), 1) := by decide +kernel
theorem d_M_square_246 : decode m_M_square.2.1 246 = .ok (.ireturn, 1) := by decide +kernel
theorem b_M_square_0 {E : EV} {d : Nat} {Q : Option AV → St → Prop} {σ : St} (x1 x2 x3 : Int) (hF : Fix σ) (h : (WMi E m_M_isSquare d [aP 42, aI x1, aI x2] σ (fun v1 σ1 => Fix σ1 ∧ (rI v1) ∧ ((¬ v1 = 0 → (WMv E m_M_takes d [aP 42, aI x1, aI x2] σ1 (fun σ3 => Fix σ3 ∧ (WMv E m_M_measures d [aP 42] σ3 (fun σ4 => Fix σ4 ∧ (WMv E m_M_writesRow d [aP 42] (wr σ4 42 29 0) (fun σ5 => Fix σ5 ∧ (rI (σ5.1 50 0)) ∧ (((σ5.1 50 0) < 300 → WP E m_M_square (d + 1) 47 [(0, aP 42), (3, aI x3)] [aI 0] σ5 Q) ∧ (¬ (σ5.1 50 0) < 300 → WP E m_M_square (d + 1) 47 [(0, aP 42), (3, aI x3)] [aI 1] σ5 Q))))))))) ∧ (v1 = 0 → Q (some (aI (-1))) σ1))))) : WP E m_M_square (d + 1) 0 [(0, aP 42), (1, aI x1), (2, aI x2), (3, aI x3)] [] σ Q := by
  refine s_aload_n 0 d_M_square_0 rfl rfl ?_
  refine s_iload_n 1 d_M_square_1 rfl rfl ?_
  refine s_iload_n 2 d_M_square_2 rfl rfl ?_
  refine s_callV (as := [aI x1, aI x2]) (ci := 10) d_M_square_3 ok_M_isSquare lk_M_206 io_M_isSquare so_M_isSquare (by decide) rfl rfl rfl (Nat.le_of_ble_eq_true rfl) rfl (sf_42 hF) (WM.mono h ?_)
  rintro _ σ1 ⟨v1, rfl, hp, h⟩
  obtain ⟨hF1, h⟩ := h
  show WP E m_M_square (d + 1) 6 [(0, aP 42), (1, aI x1), (2, aI x2), (3, aI x3)] [aI v1] σ1 Q
  obtain ⟨g2, h⟩ := h
  refine s_if_ne d_M_square_6 rfl g2 (fun c => ?_) (fun c => ?_)
  · have h := h.1 c
    refine s_aload_n 0 d_M_square_11 rfl rfl ?_
    refine s_iload_n 1 d_M_square_12 rfl rfl ?_
    refine s_iload_n 2 d_M_square_13 rfl rfl ?_
    refine s_callV (as := [aI x1, aI x2]) (ci := 10) d_M_square_14 ok_M_takes lk_M_210 io_M_takes so_M_takes (by decide) rfl rfl rfl (Nat.le_of_ble_eq_true rfl) rfl (sf_42 hF1) (WM.mono h ?_)
    rintro _ σ3 ⟨rfl, hp, h⟩
    obtain ⟨hF3, h⟩ := h
    show WP E m_M_square (d + 1) 17 [(0, aP 42), (1, aI x1), (2, aI x2), (3, aI x3)] [] σ3 Q
    refine s_aload_n 0 d_M_square_17 rfl rfl ?_
    refine s_callV (as := []) (ci := 10) d_M_square_18 ok_M_measures lk_M_220 io_M_measures so_M_measures (by decide) rfl rfl rfl (Nat.le_of_ble_eq_true rfl) rfl (sf_42 hF3) (WM.mono h ?_)
    rintro _ σ4 ⟨rfl, hp, h⟩
    obtain ⟨hF4, h⟩ := h
    show WP E m_M_square (d + 1) 21 [(0, aP 42), (1, aI x1), (2, aI x2), (3, aI x3)] [] σ4 Q
    refine s_aload_n 0 d_M_square_21 rfl rfl ?_
    refine s_iconst d_M_square_22 ?_
    refine s_putf 29 rfl d_M_square_23 fl_M_331 (fun C T h => by cases h; exact Or.inl rfl) rfl (Or.inl rfl) (fun h => nomatch h) (sf_42 hF4) ?_
    refine s_aload_n 0 d_M_square_26 rfl rfl ?_
    refine s_callV (as := []) (ci := 10) d_M_square_27 ok_M_writesRow lk_M_347 io_M_writesRow so_M_writesRow (by decide) rfl rfl rfl (Nat.le_of_ble_eq_true rfl) rfl (sf_42 (hF4.wf (a := 42) (k := 29) (by decide))) (WM.mono h ?_)
    rintro _ σ5 ⟨rfl, hp, h⟩
    obtain ⟨hF5, h⟩ := h
    show WP E m_M_square (d + 1) 30 [(0, aP 42), (1, aI x1), (2, aI x2), (3, aI x3)] [] σ5 Q
    refine s_aload_n 0 d_M_square_30 rfl rfl ?_
    refine s_getF (v := 50) d_M_square_31 fl_M_35 rfl (sf_42 hF5) (ff_35 hF5) ?_
    refine s_iconst d_M_square_34 ?_
    refine s_ialoadv (v := σ5.1 50 0) d_M_square_35 ⟨_, sf_50 hF5, by decide, by decide, by decide⟩ rfl ?_
    refine s_sipush d_M_square_36 (by decide) ?_
    obtain ⟨g6, h⟩ := h
    refine s_icmp_lt d_M_square_39 rfl g6 (by decide) (fun c => ?_) (fun c => ?_)
    · have h := h.1 c
      refine s_iconst d_M_square_46 ?_
      refine wp_drop [0, 3] rfl ?_
      exact h
    · have h := h.2 c
      refine s_iconst d_M_square_42 ?_
      refine s_goto d_M_square_43 rfl ?_
      refine wp_drop [0, 3] rfl ?_
      exact h
  · have h := h.2 c
    refine s_iconst d_M_square_9 ?_
    exact s_ireturn d_M_square_10 rfl h
theorem e_M_square {E : EV} {d : Nat} {Q : Option AV → St → Prop} {σ : St} (x1 x2 x3 : Int) (hF : Fix σ) (h : (WMi E m_M_isSquare d [aP 42, aI x1, aI x2] σ (fun v1 σ1 => Fix σ1 ∧ (rI v1) ∧ ((¬ v1 = 0 → (WMv E m_M_takes d [aP 42, aI x1, aI x2] σ1 (fun σ3 => Fix σ3 ∧ (WMv E m_M_measures d [aP 42] σ3 (fun σ4 => Fix σ4 ∧ (WMv E m_M_writesRow d [aP 42] (wr σ4 42 29 0) (fun σ5 => Fix σ5 ∧ (rI (σ5.1 50 0)) ∧ (((σ5.1 50 0) < 300 → WP E m_M_square (d + 1) 47 [(0, aP 42), (3, aI x3)] [aI 0] σ5 Q) ∧ (¬ (σ5.1 50 0) < 300 → WP E m_M_square (d + 1) 47 [(0, aP 42), (3, aI x3)] [aI 1] σ5 Q))))))))) ∧ (v1 = 0 → Q (some (aI (-1))) σ1))))) : WM E m_M_square (d + 1) [aP 42, aI x1, aI x2, aI x3] σ Q := s_meth (by decide) (Nat.le_of_ble_eq_true rfl) rfl (b_M_square_0 x1 x2 x3 hF h)
theorem b_M_square_47 {E : EV} {d : Nat} {Q : Option AV → St → Prop} {σ : St} (x3 s0 : Int) (h : (rI s0) ∧ ((s0 = 0 → WP E m_M_square (d + 1) 59 [(0, aP 42), (3, aI x3), (4, aI s0)] [aI 0] σ Q) ∧ (¬ s0 = 0 → WP E m_M_square (d + 1) 59 [(0, aP 42), (3, aI x3), (4, aI s0)] [aI 1] σ Q))) : WP E m_M_square (d + 1) 47 [(0, aP 42), (3, aI x3)] [aI s0] σ Q := by
  refine s_istore d_M_square_47 (by decide) rfl ?_
  refine s_iload 0 d_M_square_49 rfl ?_
  obtain ⟨g1, h⟩ := h
  refine s_if_eq d_M_square_51 rfl g1 (fun c => ?_) (fun c => ?_)
  · have h := h.1 c
    refine s_iconst d_M_square_58 ?_
    refine wp_drop [1, 2, 0] rfl ?_
    exact h
  · have h := h.2 c
    refine s_iconst d_M_square_54 ?_
    refine s_goto d_M_square_55 rfl ?_
    refine wp_drop [1, 2, 0] rfl ?_
    exact h
theorem b_M_square_59 {E : EV} {d : Nat} {Q : Option AV → St → Prop} {σ : St} (x3 x4 s0 : Int) (hF : Fix σ) (h : (rI x3) ∧ ((x3 = 0 → (WMi E m_M_signsIn d [aP 50, aI 0, aI (σ.1 42 10)] σ (fun v2 σ2 => Q (some (aI v2)) σ2))) ∧ (x3 = 1 → Q (some (aI (σ.1 52 0))) σ) ∧ (x3 = 2 → Q (some (aI (σ.1 53 0))) σ) ∧ (x3 = 3 → WP E m_M_square (d + 1) 141 [(0, aP 42), (6, aI 0), (7, aI 0)] [] σ Q) ∧ (x3 = 4 → (rI x4) ∧ ((x4 = 0 → Q (some (aI 1)) σ) ∧ (¬ x4 = 0 → (WMi E m_M_partsOf d [aI (σ.1 50 0)] σ (fun v4 σ4 => Q (some (aI v4)) σ4))))) ∧ (x3 = 5 → (0 ≤ s0 ∧ s0 < 24) ∧ (WMi E m_M_isSign d [aI (σ.1 50 s0)] σ (fun v6 σ6 => Fix σ6 ∧ (rI v6) ∧ ((v6 = 0 → (0 ≤ s0 ∧ s0 < 24) ∧ (WMi E m_M_partsOf d [aI (σ6.1 50 s0)] σ6 (fun v9 σ9 => Q (some (aI v9)) σ9))) ∧ (¬ v6 = 0 → Q (some (aI 1)) σ6))))) ∧ (x3 = 6 → (WMi E m_M_bracketsInText d [aP 42] σ (fun v10 σ10 => Q (some (aI v10)) σ10))) ∧ (x3 = 7 → (WMi E m_M_deepInText d [aP 42] σ (fun v11 σ11 => Q (some (aI v11)) σ11))) ∧ (¬ (0 ≤ x3 ∧ x3 ≤ 7) → Q (some (aI (-1))) σ))) : WP E m_M_square (d + 1) 59 [(0, aP 42), (3, aI x3), (4, aI x4)] [aI s0] σ Q := by
  refine s_istore d_M_square_59 (by decide) rfl ?_
  refine s_iload_n 2 d_M_square_61 rfl rfl ?_
  obtain ⟨g1, h⟩ := h
  by_cases c0 : x3 = 0
  · have h := h.1 c0
    refine s_tableIn d_M_square_62 g1 (by rw [c0]; decide) (by rw [c0]; rfl) (tgt := 108) rfl ?_
    refine s_aload_n 1 d_M_square_108 rfl rfl ?_
    refine s_getF (v := 50) d_M_square_109 fl_M_35 rfl (sf_42 hF) (ff_35 hF) ?_
    refine s_iconst d_M_square_112 ?_
    refine s_aload_n 1 d_M_square_113 rfl rfl ?_
    refine s_getF (v := σ.1 42 10) d_M_square_114 fl_M_189 rfl (sf_42 hF) rfl ?_
    refine s_callS (as := [aP 50, aI 0, aI (σ.1 42 10)]) d_M_square_117 ok_M_signsIn lk_M_202 to_M_signsIn rfl (Nat.le_of_ble_eq_true rfl) rfl (WM.mono h ?_)
    rintro _ σ2 ⟨v2, rfl, hp, h⟩
    show WP E m_M_square (d + 1) 120 [(5, aI s0), (0, aP 42), (3, aI x3), (4, aI x4)] [aI v2] σ2 Q
    exact s_ireturn d_M_square_120 rfl h
  by_cases c1 : x3 = 1
  · have h := h.2.1 c1
    refine s_tableIn d_M_square_62 g1 (by rw [c1]; decide) (by rw [c1]; rfl) (tgt := 121) rfl ?_
    refine s_aload_n 1 d_M_square_121 rfl rfl ?_
    refine s_getF (v := 52) d_M_square_122 fl_M_41 rfl (sf_42 hF) (ff_37 hF) ?_
    refine s_iconst d_M_square_125 ?_
    refine s_ialoadv (v := σ.1 52 0) d_M_square_126 ⟨_, sf_52 hF, by decide, by decide, by decide⟩ rfl ?_
    exact s_ireturn d_M_square_127 rfl h
  by_cases c2 : x3 = 2
  · have h := h.2.2.1 c2
    refine s_tableIn d_M_square_62 g1 (by rw [c2]; decide) (by rw [c2]; rfl) (tgt := 128) rfl ?_
    refine s_aload_n 1 d_M_square_128 rfl rfl ?_
    refine s_getF (v := 53) d_M_square_129 fl_M_44 rfl (sf_42 hF) (ff_38 hF) ?_
    refine s_iconst d_M_square_132 ?_
    refine s_ialoadv (v := σ.1 53 0) d_M_square_133 ⟨_, sf_53 hF, by decide, by decide, by decide⟩ rfl ?_
    exact s_ireturn d_M_square_134 rfl h
  by_cases c3 : x3 = 3
  · have h := h.2.2.2.1 c3
    refine s_tableIn d_M_square_62 g1 (by rw [c3]; decide) (by rw [c3]; rfl) (tgt := 135) rfl ?_
    refine s_iconst d_M_square_135 ?_
    refine s_istore d_M_square_136 (by decide) rfl ?_
    refine s_iconst d_M_square_138 ?_
    refine s_istore d_M_square_139 (by decide) rfl ?_
    refine wp_drop [3, 1, 0] rfl ?_
    exact h
  by_cases c4 : x3 = 4
  · have h := h.2.2.2.2.1 c4
    refine s_tableIn d_M_square_62 g1 (by rw [c4]; decide) (by rw [c4]; rfl) (tgt := 188) rfl ?_
    refine s_iload 3 d_M_square_188 rfl ?_
    obtain ⟨g3, h⟩ := h
    refine s_if_eq d_M_square_190 rfl g3 (fun c => ?_) (fun c => ?_)
    · have h := h.1 c
      refine s_iconst d_M_square_205 ?_
      exact s_ireturn d_M_square_206 rfl h
    · have h := h.2 c
      refine s_aload_n 1 d_M_square_193 rfl rfl ?_
      refine s_getF (v := 50) d_M_square_194 fl_M_35 rfl (sf_42 hF) (ff_35 hF) ?_
      refine s_iconst d_M_square_197 ?_
      refine s_ialoadv (v := σ.1 50 0) d_M_square_198 ⟨_, sf_50 hF, by decide, by decide, by decide⟩ rfl ?_
      refine s_callS (as := [aI (σ.1 50 0)]) d_M_square_199 ok_M_partsOf lk_M_182 to_M_partsOf rfl (Nat.le_of_ble_eq_true rfl) rfl (WM.mono h ?_)
      rintro _ σ4 ⟨v4, rfl, hp, h⟩
      show WP E m_M_square (d + 1) 202 [(5, aI s0), (0, aP 42), (3, aI x3), (4, aI x4)] [aI v4] σ4 Q
      refine s_goto d_M_square_202 rfl ?_
      exact s_ireturn d_M_square_206 rfl h
  by_cases c5 : x3 = 5
  · have h := h.2.2.2.2.2.1 c5
    refine s_tableIn d_M_square_62 g1 (by rw [c5]; decide) (by rw [c5]; rfl) (tgt := 207) rfl ?_
    refine s_aload_n 1 d_M_square_207 rfl rfl ?_
    refine s_getF (v := 50) d_M_square_208 fl_M_35 rfl (sf_42 hF) (ff_35 hF) ?_
    refine s_iload 0 d_M_square_211 rfl ?_
    obtain ⟨g5, h⟩ := h
    refine s_ialoadv (v := σ.1 50 s0) d_M_square_213 ⟨_, sf_50 hF, g5.1, g5.2, by have := g5.2; omega⟩ rfl ?_
    refine s_callS (as := [aI (σ.1 50 s0)]) d_M_square_214 ok_M_isSign lk_M_199 to_M_isSign rfl (Nat.le_of_ble_eq_true rfl) rfl (WM.mono h ?_)
    rintro _ σ6 ⟨v6, rfl, hp, h⟩
    obtain ⟨hF6, h⟩ := h
    show WP E m_M_square (d + 1) 217 [(5, aI s0), (0, aP 42), (3, aI x3), (4, aI x4)] [aI v6] σ6 Q
    obtain ⟨g7, h⟩ := h
    refine s_if_eq d_M_square_217 rfl g7 (fun c => ?_) (fun c => ?_)
    · have h := h.1 c
      refine s_aload_n 1 d_M_square_224 rfl rfl ?_
      refine s_getF (v := 50) d_M_square_225 fl_M_35 rfl (sf_42 hF6) (ff_35 hF6) ?_
      refine s_iload 0 d_M_square_228 rfl ?_
      obtain ⟨g8, h⟩ := h
      refine s_ialoadv (v := σ6.1 50 s0) d_M_square_230 ⟨_, sf_50 hF6, g8.1, g8.2, by have := g8.2; omega⟩ rfl ?_
      refine s_callS (as := [aI (σ6.1 50 s0)]) d_M_square_231 ok_M_partsOf lk_M_182 to_M_partsOf rfl (Nat.le_of_ble_eq_true rfl) rfl (WM.mono h ?_)
      rintro _ σ9 ⟨v9, rfl, hp, h⟩
      show WP E m_M_square (d + 1) 234 [(5, aI s0), (0, aP 42), (3, aI x3), (4, aI x4)] [aI v9] σ9 Q
      exact s_ireturn d_M_square_234 rfl h
    · have h := h.2 c
      refine s_iconst d_M_square_220 ?_
      refine s_goto d_M_square_221 rfl ?_
      exact s_ireturn d_M_square_234 rfl h
  by_cases c6 : x3 = 6
  · have h := h.2.2.2.2.2.2.1 c6
    refine s_tableIn d_M_square_62 g1 (by rw [c6]; decide) (by rw [c6]; rfl) (tgt := 235) rfl ?_
    refine s_aload_n 1 d_M_square_235 rfl rfl ?_
    refine s_callV (as := []) (ci := 10) d_M_square_236 ok_M_bracketsInText lk_M_382 io_M_bracketsInText so_M_bracketsInText (by decide) rfl rfl rfl (Nat.le_of_ble_eq_true rfl) rfl (sf_42 hF) (WM.mono h ?_)
    rintro _ σ10 ⟨v10, rfl, hp, h⟩
    show WP E m_M_square (d + 1) 239 [(5, aI s0), (0, aP 42), (3, aI x3), (4, aI x4)] [aI v10] σ10 Q
    exact s_ireturn d_M_square_239 rfl h
  by_cases c7 : x3 = 7
  · have h := h.2.2.2.2.2.2.2.1 c7
    refine s_tableIn d_M_square_62 g1 (by rw [c7]; decide) (by rw [c7]; rfl) (tgt := 240) rfl ?_
    refine s_aload_n 1 d_M_square_240 rfl rfl ?_
    refine s_callV (as := []) (ci := 10) d_M_square_241 ok_M_deepInText lk_M_415 io_M_deepInText so_M_deepInText (by decide) rfl rfl rfl (Nat.le_of_ble_eq_true rfl) rfl (sf_42 hF) (WM.mono h ?_)
    rintro _ σ11 ⟨v11, rfl, hp, h⟩
    show WP E m_M_square (d + 1) 244 [(5, aI s0), (0, aP 42), (3, aI x3), (4, aI x4)] [aI v11] σ11 Q
    exact s_ireturn d_M_square_244 rfl h
  have c : ¬ (0 ≤ x3 ∧ x3 ≤ 7) := by omega
  have h := h.2.2.2.2.2.2.2.2 c
  refine s_tableOut d_M_square_62 g1 c (tgt := 245) rfl ?_
  refine s_iconst d_M_square_245 ?_
  exact s_ireturn d_M_square_246 rfl h
theorem b_M_square_141 {E : EV} {d : Nat} {Q : Option AV → St → Prop} {σ : St} (x6 x7 : Int) (hF : Fix σ) (h : (rI x7) ∧ (rI (σ.1 42 10)) ∧ (((σ.1 42 10) ≤ x7 → Q (some (aI x6)) σ) ∧ (¬ (σ.1 42 10) ≤ x7 → (0 ≤ x7 ∧ x7 < 24) ∧ (WMi E m_M_isSign d [aI (σ.1 50 x7)] σ (fun v4 σ4 => Fix σ4 ∧ (rI v4) ∧ ((v4 = 0 → WP E m_M_square (d + 1) 179 [(0, aP 42), (6, aI x6), (7, aI x7)] [] σ4 Q) ∧ (¬ v4 = 0 → (WMi E m_M_around d [aP 50, aI 0, aI x7] σ4 (fun v6 σ6 => (rI v6) ∧ ((v6 ≤ 0 → WP E m_M_square (d + 1) 179 [(0, aP 42), (6, aI x6), (7, aI x7)] [] σ6 Q) ∧ (¬ v6 ≤ 0 → WP E m_M_square (d + 1) 179 [(0, aP 42), (6, aI (x6 + 1)), (7, aI x7)] [] σ6 Q))))))))))) : WP E m_M_square (d + 1) 141 [(0, aP 42), (6, aI x6), (7, aI x7)] [] σ Q := by
  refine s_iload 2 d_M_square_141 rfl ?_
  refine s_aload_n 0 d_M_square_143 rfl rfl ?_
  refine s_getF (v := σ.1 42 10) d_M_square_144 fl_M_189 rfl (sf_42 hF) rfl ?_
  obtain ⟨g1, h⟩ := h
  obtain ⟨g2, h⟩ := h
  refine s_icmp_ge d_M_square_147 rfl g1 g2 (fun c => ?_) (fun c => ?_)
  · have h := h.1 c
    refine s_iload 1 d_M_square_185 rfl ?_
    exact s_ireturn d_M_square_187 rfl h
  · have h := h.2 c
    refine s_aload_n 0 d_M_square_150 rfl rfl ?_
    refine s_getF (v := 50) d_M_square_151 fl_M_35 rfl (sf_42 hF) (ff_35 hF) ?_
    refine s_iload 2 d_M_square_154 rfl ?_
    obtain ⟨g3, h⟩ := h
    refine s_ialoadv (v := σ.1 50 x7) d_M_square_156 ⟨_, sf_50 hF, g3.1, g3.2, by have := g3.2; omega⟩ rfl ?_
    refine s_callS (as := [aI (σ.1 50 x7)]) d_M_square_157 ok_M_isSign lk_M_199 to_M_isSign rfl (Nat.le_of_ble_eq_true rfl) rfl (WM.mono h ?_)
    rintro _ σ4 ⟨v4, rfl, hp, h⟩
    obtain ⟨hF4, h⟩ := h
    show WP E m_M_square (d + 1) 160 [(0, aP 42), (6, aI x6), (7, aI x7)] [aI v4] σ4 Q
    obtain ⟨g5, h⟩ := h
    refine s_if_eq d_M_square_160 rfl g5 (fun c => ?_) (fun c => ?_)
    · have h := h.1 c
      exact h
    · have h := h.2 c
      refine s_aload_n 0 d_M_square_163 rfl rfl ?_
      refine s_getF (v := 50) d_M_square_164 fl_M_35 rfl (sf_42 hF4) (ff_35 hF4) ?_
      refine s_iconst d_M_square_167 ?_
      refine s_iload 2 d_M_square_168 rfl ?_
      refine s_callS (as := [aP 50, aI 0, aI x7]) d_M_square_170 ok_M_around lk_M_322 to_M_around rfl (Nat.le_of_ble_eq_true rfl) rfl (WM.mono h ?_)
      rintro _ σ6 ⟨v6, rfl, hp, h⟩
      show WP E m_M_square (d + 1) 173 [(0, aP 42), (6, aI x6), (7, aI x7)] [aI v6] σ6 Q
      obtain ⟨g7, h⟩ := h
      refine s_if_le d_M_square_173 rfl g7 (fun c => ?_) (fun c => ?_)
      · have h := h.1 c
        exact h
      · have h := h.2 c
        refine s_iinc 1 d_M_square_176 rfl (by decide) rfl ?_
        refine wp_drop [1, 0, 2] rfl ?_
        exact h
theorem b_M_square_179 {E : EV} {d : Nat} {Q : Option AV → St → Prop} {σ : St} (x6 x7 : Int) (h : WP E m_M_square (d + 1) 141 [(0, aP 42), (6, aI x6), (7, aI (x7 + 1))] [] σ Q) : WP E m_M_square (d + 1) 179 [(0, aP 42), (6, aI x6), (7, aI x7)] [] σ Q := by
  refine s_iinc 2 d_M_square_179 rfl (by decide) rfl ?_
  refine s_goto d_M_square_182 rfl ?_
  refine wp_drop [1, 2, 0] rfl ?_
  exact h
theorem d_M_deepInText_0 : decode m_M_deepInText.2.1 0 = .ok (.iconst 0, 1) := by decide +kernel
theorem d_M_deepInText_1 : decode m_M_deepInText.2.1 1 = .ok (.istore_n 1, 1) := by decide +kernel
theorem d_M_deepInText_2 : decode m_M_deepInText.2.1 2 = .ok (.iconst 0, 1) := by decide +kernel
theorem d_M_deepInText_3 : decode m_M_deepInText.2.1 3 = .ok (.istore_n 2, 1) := by decide +kernel
theorem d_M_deepInText_4 : decode m_M_deepInText.2.1 4 = .ok (.iconst 0, 1) := by decide +kernel
theorem d_M_deepInText_5 : decode m_M_deepInText.2.1 5 = .ok (.istore_n 3, 1) := by decide +kernel
theorem d_M_deepInText_6 : decode m_M_deepInText.2.1 6 = .ok (.iload_n 3, 1) := by decide +kernel
theorem d_M_deepInText_7 : decode m_M_deepInText.2.1 7 = .ok (.aload_n 0, 1) := by decide +kernel
theorem d_M_deepInText_8 : decode m_M_deepInText.2.1 8 = .ok (.getfield 331, 3) := by decide +kernel
theorem d_M_deepInText_11 : decode m_M_deepInText.2.1 11 = .ok (.if_icmp .ge 66, 3) := by decide +kernel
theorem d_M_deepInText_14 : decode m_M_deepInText.2.1 14 = .ok (.aload_n 0, 1) := by decide +kernel
theorem d_M_deepInText_15 : decode m_M_deepInText.2.1 15 = .ok (.getfield 78, 3) := by decide +kernel
theorem d_M_deepInText_18 : decode m_M_deepInText.2.1 18 = .ok (.iload_n 3, 1) := by decide +kernel
theorem d_M_deepInText_19 : decode m_M_deepInText.2.1 19 = .ok (.iaload, 1) := by decide +kernel
theorem d_M_deepInText_20 : decode m_M_deepInText.2.1 20 = .ok (.bipush 40, 2) := by decide +kernel
theorem d_M_deepInText_22 : decode m_M_deepInText.2.1 22 = .ok (.if_icmp .eq 14, 3) := by decide +kernel
theorem d_M_deepInText_25 : decode m_M_deepInText.2.1 25 = .ok (.aload_n 0, 1) := by decide +kernel
theorem d_M_deepInText_26 : decode m_M_deepInText.2.1 26 = .ok (.getfield 78, 3) := by decide +kernel
theorem d_M_deepInText_29 : decode m_M_deepInText.2.1 29 = .ok (.iload_n 3, 1) := by decide +kernel
theorem d_M_deepInText_30 : decode m_M_deepInText.2.1 30 = .ok (.iaload, 1) := by decide +kernel
theorem d_M_deepInText_31 : decode m_M_deepInText.2.1 31 = .ok (.bipush 60, 2) := by decide +kernel
theorem d_M_deepInText_33 : decode m_M_deepInText.2.1 33 = .ok (.if_icmp .ne 6, 3) := by decide +kernel
theorem d_M_deepInText_36 : decode m_M_deepInText.2.1 36 = .ok (.iinc 2 1, 3) := by decide +kernel
theorem d_M_deepInText_39 : decode m_M_deepInText.2.1 39 = .ok (.aload_n 0, 1) := by decide +kernel
theorem d_M_deepInText_40 : decode m_M_deepInText.2.1 40 = .ok (.getfield 78, 3) := by decide +kernel
theorem d_M_deepInText_43 : decode m_M_deepInText.2.1 43 = .ok (.iload_n 3, 1) := by decide +kernel
theorem d_M_deepInText_44 : decode m_M_deepInText.2.1 44 = .ok (.iaload, 1) := by decide +kernel
theorem d_M_deepInText_45 : decode m_M_deepInText.2.1 45 = .ok (.bipush 41, 2) := by decide +kernel
theorem d_M_deepInText_47 : decode m_M_deepInText.2.1 47 = .ok (.if_icmp .eq 14, 3) := by decide +kernel
theorem d_M_deepInText_50 : decode m_M_deepInText.2.1 50 = .ok (.aload_n 0, 1) := by decide +kernel
theorem d_M_deepInText_51 : decode m_M_deepInText.2.1 51 = .ok (.getfield 78, 3) := by decide +kernel
theorem d_M_deepInText_54 : decode m_M_deepInText.2.1 54 = .ok (.iload_n 3, 1) := by decide +kernel
theorem d_M_deepInText_55 : decode m_M_deepInText.2.1 55 = .ok (.iaload, 1) := by decide +kernel
theorem d_M_deepInText_56 : decode m_M_deepInText.2.1 56 = .ok (.bipush 62, 2) := by decide +kernel
theorem d_M_deepInText_58 : decode m_M_deepInText.2.1 58 = .ok (.if_icmp .ne 6, 3) := by decide +kernel
theorem d_M_deepInText_61 : decode m_M_deepInText.2.1 61 = .ok (.iinc 2 (-1), 3) := by decide +kernel
theorem d_M_deepInText_64 : decode m_M_deepInText.2.1 64 = .ok (.iload_n 2, 1) := by decide +kernel
theorem d_M_deepInText_65 : decode m_M_deepInText.2.1 65 = .ok (.iload_n 1, 1) := by decide +kernel
theorem d_M_deepInText_66 : decode m_M_deepInText.2.1 66 = .ok (.if_icmp .le 5, 3) := by decide +kernel
theorem d_M_deepInText_69 : decode m_M_deepInText.2.1 69 = .ok (.iload_n 2, 1) := by decide +kernel
theorem d_M_deepInText_70 : decode m_M_deepInText.2.1 70 = .ok (.istore_n 1, 1) := by decide +kernel
theorem d_M_deepInText_71 : decode m_M_deepInText.2.1 71 = .ok (.iinc 3 1, 3) := by decide +kernel
theorem d_M_deepInText_74 : decode m_M_deepInText.2.1 74 = .ok (.goto (-68), 3) := by decide +kernel
theorem d_M_deepInText_77 : decode m_M_deepInText.2.1 77 = .ok (.iload_n 1, 1) := by decide +kernel
theorem d_M_deepInText_78 : decode m_M_deepInText.2.1 78 = .ok (.ireturn, 1) := by decide +kernel
theorem b_M_deepInText_0 {E : EV} {d : Nat} {Q : Option AV → St → Prop} {σ : St} (h : WP E m_M_deepInText d 6 [(0, aP 42), (1, aI 0), (2, aI 0), (3, aI 0)] [] σ Q) : WP E m_M_deepInText d 0 [(0, aP 42)] [] σ Q := by
  refine s_iconst d_M_deepInText_0 ?_
  refine s_istore_n d_M_deepInText_1 rfl (by decide) rfl ?_
  refine s_iconst d_M_deepInText_2 ?_
  refine s_istore_n d_M_deepInText_3 rfl (by decide) rfl ?_
  refine s_iconst d_M_deepInText_4 ?_
  refine s_istore_n d_M_deepInText_5 rfl (by decide) rfl ?_
  refine wp_drop [3, 2, 1, 0] rfl ?_
  exact h
theorem e_M_deepInText {E : EV} {d : Nat} {Q : Option AV → St → Prop} {σ : St} (h : WP E m_M_deepInText d 6 [(0, aP 42), (1, aI 0), (2, aI 0), (3, aI 0)] [] σ Q) : WM E m_M_deepInText d [aP 42] σ Q := s_meth (by decide) (Nat.le_of_ble_eq_true rfl) rfl (b_M_deepInText_0 h)
theorem b_M_deepInText_6 {E : EV} {d : Nat} {Q : Option AV → St → Prop} {σ : St} (x1 x2 x3 : Int) (hF : Fix σ) (h : (rI x3) ∧ (rI (σ.1 42 29)) ∧ (((σ.1 42 29) ≤ x3 → Q (some (aI x1)) σ) ∧ (¬ (σ.1 42 29) ≤ x3 → (0 ≤ x3 ∧ x3 < 2600) ∧ (rI (σ.1 64 x3)) ∧ (((σ.1 64 x3) = 40 → WP E m_M_deepInText d 36 [(0, aP 42), (1, aI x1), (2, aI x2), (3, aI x3)] [] σ Q) ∧ (¬ (σ.1 64 x3) = 40 → (0 ≤ x3 ∧ x3 < 2600) ∧ (rI (σ.1 64 x3)) ∧ ((¬ (σ.1 64 x3) = 60 → WP E m_M_deepInText d 39 [(0, aP 42), (1, aI x1), (2, aI x2), (3, aI x3)] [] σ Q) ∧ ((σ.1 64 x3) = 60 → WP E m_M_deepInText d 36 [(0, aP 42), (1, aI x1), (2, aI x2), (3, aI x3)] [] σ Q))))))) : WP E m_M_deepInText d 6 [(0, aP 42), (1, aI x1), (2, aI x2), (3, aI x3)] [] σ Q := by
  refine s_iload_n 3 d_M_deepInText_6 rfl rfl ?_
  refine s_aload_n 0 d_M_deepInText_7 rfl rfl ?_
  refine s_getF (v := σ.1 42 29) d_M_deepInText_8 fl_M_331 rfl (sf_42 hF) rfl ?_
  obtain ⟨g1, h⟩ := h
  obtain ⟨g2, h⟩ := h
  refine s_icmp_ge d_M_deepInText_11 rfl g1 g2 (fun c => ?_) (fun c => ?_)
  · have h := h.1 c
    refine s_iload_n 1 d_M_deepInText_77 rfl rfl ?_
    exact s_ireturn d_M_deepInText_78 rfl h
  · have h := h.2 c
    refine s_aload_n 0 d_M_deepInText_14 rfl rfl ?_
    refine s_getF (v := 64) d_M_deepInText_15 fl_M_78 rfl (sf_42 hF) (ff_49 hF) ?_
    refine s_iload_n 3 d_M_deepInText_18 rfl rfl ?_
    obtain ⟨g3, h⟩ := h
    refine s_ialoadv (v := σ.1 64 x3) d_M_deepInText_19 ⟨_, sf_64 hF, g3.1, g3.2, by have := g3.2; omega⟩ rfl ?_
    refine s_bipush d_M_deepInText_20 (by decide) ?_
    obtain ⟨g4, h⟩ := h
    refine s_icmp_eq d_M_deepInText_22 rfl g4 (by decide) (fun c => ?_) (fun c => ?_)
    · have h := h.1 c
      exact h
    · have h := h.2 c
      refine s_aload_n 0 d_M_deepInText_25 rfl rfl ?_
      refine s_getF (v := 64) d_M_deepInText_26 fl_M_78 rfl (sf_42 hF) (ff_49 hF) ?_
      refine s_iload_n 3 d_M_deepInText_29 rfl rfl ?_
      obtain ⟨g5, h⟩ := h
      refine s_ialoadv (v := σ.1 64 x3) d_M_deepInText_30 ⟨_, sf_64 hF, g5.1, g5.2, by have := g5.2; omega⟩ rfl ?_
      refine s_bipush d_M_deepInText_31 (by decide) ?_
      obtain ⟨g6, h⟩ := h
      refine s_icmp_ne d_M_deepInText_33 rfl g6 (by decide) (fun c => ?_) (fun c => ?_)
      · have h := h.1 c
        exact h
      · have h := h.2 c
        exact h
theorem b_M_deepInText_36 {E : EV} {d : Nat} {Q : Option AV → St → Prop} {σ : St} (x1 x2 x3 : Int) (h : WP E m_M_deepInText d 39 [(0, aP 42), (1, aI x1), (2, aI (x2 + 1)), (3, aI x3)] [] σ Q) : WP E m_M_deepInText d 36 [(0, aP 42), (1, aI x1), (2, aI x2), (3, aI x3)] [] σ Q := by
  refine s_iinc 2 d_M_deepInText_36 rfl (by decide) rfl ?_
  refine wp_drop [1, 2, 0, 3] rfl ?_
  exact h
theorem b_M_deepInText_39 {E : EV} {d : Nat} {Q : Option AV → St → Prop} {σ : St} (x1 x2 x3 : Int) (hF : Fix σ) (h : (0 ≤ x3 ∧ x3 < 2600) ∧ (rI (σ.1 64 x3)) ∧ (((σ.1 64 x3) = 41 → WP E m_M_deepInText d 61 [(0, aP 42), (1, aI x1), (2, aI x2), (3, aI x3)] [] σ Q) ∧ (¬ (σ.1 64 x3) = 41 → (0 ≤ x3 ∧ x3 < 2600) ∧ (rI (σ.1 64 x3)) ∧ ((¬ (σ.1 64 x3) = 62 → WP E m_M_deepInText d 64 [(0, aP 42), (1, aI x1), (2, aI x2), (3, aI x3)] [] σ Q) ∧ ((σ.1 64 x3) = 62 → WP E m_M_deepInText d 61 [(0, aP 42), (1, aI x1), (2, aI x2), (3, aI x3)] [] σ Q))))) : WP E m_M_deepInText d 39 [(0, aP 42), (1, aI x1), (2, aI x2), (3, aI x3)] [] σ Q := by
  refine s_aload_n 0 d_M_deepInText_39 rfl rfl ?_
  refine s_getF (v := 64) d_M_deepInText_40 fl_M_78 rfl (sf_42 hF) (ff_49 hF) ?_
  refine s_iload_n 3 d_M_deepInText_43 rfl rfl ?_
  obtain ⟨g1, h⟩ := h
  refine s_ialoadv (v := σ.1 64 x3) d_M_deepInText_44 ⟨_, sf_64 hF, g1.1, g1.2, by have := g1.2; omega⟩ rfl ?_
  refine s_bipush d_M_deepInText_45 (by decide) ?_
  obtain ⟨g2, h⟩ := h
  refine s_icmp_eq d_M_deepInText_47 rfl g2 (by decide) (fun c => ?_) (fun c => ?_)
  · have h := h.1 c
    exact h
  · have h := h.2 c
    refine s_aload_n 0 d_M_deepInText_50 rfl rfl ?_
    refine s_getF (v := 64) d_M_deepInText_51 fl_M_78 rfl (sf_42 hF) (ff_49 hF) ?_
    refine s_iload_n 3 d_M_deepInText_54 rfl rfl ?_
    obtain ⟨g3, h⟩ := h
    refine s_ialoadv (v := σ.1 64 x3) d_M_deepInText_55 ⟨_, sf_64 hF, g3.1, g3.2, by have := g3.2; omega⟩ rfl ?_
    refine s_bipush d_M_deepInText_56 (by decide) ?_
    obtain ⟨g4, h⟩ := h
    refine s_icmp_ne d_M_deepInText_58 rfl g4 (by decide) (fun c => ?_) (fun c => ?_)
    · have h := h.1 c
      exact h
    · have h := h.2 c
      exact h
theorem b_M_deepInText_61 {E : EV} {d : Nat} {Q : Option AV → St → Prop} {σ : St} (x1 x2 x3 : Int) (h : WP E m_M_deepInText d 64 [(0, aP 42), (1, aI x1), (2, aI (x2 + (-1))), (3, aI x3)] [] σ Q) : WP E m_M_deepInText d 61 [(0, aP 42), (1, aI x1), (2, aI x2), (3, aI x3)] [] σ Q := by
  refine s_iinc 2 d_M_deepInText_61 rfl (by decide) rfl ?_
  refine wp_drop [1, 2, 0, 3] rfl ?_
  exact h
theorem b_M_deepInText_64 {E : EV} {d : Nat} {Q : Option AV → St → Prop} {σ : St} (x1 x2 x3 : Int) (h : (rI x2) ∧ (rI x1) ∧ ((x2 ≤ x1 → WP E m_M_deepInText d 71 [(0, aP 42), (1, aI x1), (2, aI x2), (3, aI x3)] [] σ Q) ∧ (¬ x2 ≤ x1 → WP E m_M_deepInText d 71 [(0, aP 42), (1, aI x2), (2, aI x2), (3, aI x3)] [] σ Q))) : WP E m_M_deepInText d 64 [(0, aP 42), (1, aI x1), (2, aI x2), (3, aI x3)] [] σ Q := by
  refine s_iload_n 2 d_M_deepInText_64 rfl rfl ?_
  refine s_iload_n 1 d_M_deepInText_65 rfl rfl ?_
  obtain ⟨g1, h⟩ := h
  obtain ⟨g2, h⟩ := h
  refine s_icmp_le d_M_deepInText_66 rfl g1 g2 (fun c => ?_) (fun c => ?_)
  · have h := h.1 c
    exact h
  · have h := h.2 c
    refine s_iload_n 2 d_M_deepInText_69 rfl rfl ?_
    refine s_istore_n d_M_deepInText_70 rfl (by decide) rfl ?_
    refine wp_drop [1, 0, 2, 3] rfl ?_
    exact h
theorem b_M_deepInText_71 {E : EV} {d : Nat} {Q : Option AV → St → Prop} {σ : St} (x1 x2 x3 : Int) (h : WP E m_M_deepInText d 6 [(0, aP 42), (1, aI x1), (2, aI x2), (3, aI (x3 + 1))] [] σ Q) : WP E m_M_deepInText d 71 [(0, aP 42), (1, aI x1), (2, aI x2), (3, aI x3)] [] σ Q := by
  refine s_iinc 3 d_M_deepInText_71 rfl (by decide) rfl ?_
  refine s_goto d_M_deepInText_74 rfl ?_
  refine wp_drop [1, 2, 3, 0] rfl ?_
  exact h
theorem d_M_letter_0 : decode m_M_letter.2.1 0 = .ok (.aload_n 0, 1) := by decide +kernel
theorem d_M_letter_1 : decode m_M_letter.2.1 1 = .ok (.iload_n 1, 1) := by decide +kernel
theorem d_M_letter_2 : decode m_M_letter.2.1 2 = .ok (.iload_n 2, 1) := by decide +kernel
theorem d_M_letter_3 : decode m_M_letter.2.1 3 = .ok (.iload_n 3, 1) := by decide +kernel
theorem d_M_letter_4 : decode m_M_letter.2.1 4 = .ok (.invokevirtual 257, 3) := by decide +kernel
theorem d_M_letter_7 : decode m_M_letter.2.1 7 = .ok (.istore 4, 2) := by decide +kernel
theorem d_M_letter_9 : decode m_M_letter.2.1 9 = .ok (.iload 4, 2) := by decide +kernel
theorem d_M_letter_11 : decode m_M_letter.2.1 11 = .ok (.iconst (-1), 1) := by decide +kernel
theorem d_M_letter_12 : decode m_M_letter.2.1 12 = .ok (.if_icmp .ne 7, 3) := by decide +kernel
theorem d_M_letter_15 : decode m_M_letter.2.1 15 = .ok (.iconst (-1), 1) := by decide +kernel
theorem d_M_letter_16 : decode m_M_letter.2.1 16 = .ok (.goto 13, 3) := by decide +kernel
theorem d_M_letter_19 : decode m_M_letter.2.1 19 = .ok (.aload_n 0, 1) := by decide +kernel
theorem d_M_letter_20 : decode m_M_letter.2.1 20 = .ok (.getfield 35, 3) := by decide +kernel
theorem d_M_letter_23 : decode m_M_letter.2.1 23 = .ok (.iload 4, 2) := by decide +kernel
theorem d_M_letter_25 : decode m_M_letter.2.1 25 = .ok (.iaload, 1) := by decide +kernel
theorem d_M_letter_26 : decode m_M_letter.2.1 26 = .ok (.invokestatic 217, 3) := by decide +kernel
theorem d_M_letter_29 : decode m_M_letter.2.1 29 = .ok (.ireturn, 1) := by decide +kernel
theorem b_M_letter_0 {E : EV} {d : Nat} {Q : Option AV → St → Prop} {σ : St} (x1 x2 x3 : Int) (hF : Fix σ) (h : (WMi E m_M_takesSign d [aP 42, aI x1, aI x2, aI x3] σ (fun v1 σ1 => Fix σ1 ∧ (rI v1) ∧ ((¬ v1 = (-1) → (0 ≤ v1 ∧ v1 < 24) ∧ (WMi E m_M_letterOf d [aI (σ1.1 50 v1)] σ1 (fun v4 σ4 => Q (some (aI v4)) σ4))) ∧ (v1 = (-1) → Q (some (aI (-1))) σ1))))) : WP E m_M_letter (d + 1) 0 [(0, aP 42), (1, aI x1), (2, aI x2), (3, aI x3)] [] σ Q := by
  refine s_aload_n 0 d_M_letter_0 rfl rfl ?_
  refine s_iload_n 1 d_M_letter_1 rfl rfl ?_
  refine s_iload_n 2 d_M_letter_2 rfl rfl ?_
  refine s_iload_n 3 d_M_letter_3 rfl rfl ?_
  refine s_callV (as := [aI x1, aI x2, aI x3]) (ci := 10) d_M_letter_4 ok_M_takesSign lk_M_257 io_M_takesSign so_M_takesSign (by decide) rfl rfl rfl (Nat.le_of_ble_eq_true rfl) rfl (sf_42 hF) (WM.mono h ?_)
  rintro _ σ1 ⟨v1, rfl, hp, h⟩
  obtain ⟨hF1, h⟩ := h
  show WP E m_M_letter (d + 1) 7 [(0, aP 42), (1, aI x1), (2, aI x2), (3, aI x3)] [aI v1] σ1 Q
  refine s_istore d_M_letter_7 (by decide) rfl ?_
  refine s_iload 0 d_M_letter_9 rfl ?_
  refine s_iconst d_M_letter_11 ?_
  obtain ⟨g2, h⟩ := h
  refine s_icmp_ne d_M_letter_12 rfl g2 (by decide) (fun c => ?_) (fun c => ?_)
  · have h := h.1 c
    refine s_aload_n 1 d_M_letter_19 rfl rfl ?_
    refine s_getF (v := 50) d_M_letter_20 fl_M_35 rfl (sf_42 hF1) (ff_35 hF1) ?_
    refine s_iload 0 d_M_letter_23 rfl ?_
    obtain ⟨g3, h⟩ := h
    refine s_ialoadv (v := σ1.1 50 v1) d_M_letter_25 ⟨_, sf_50 hF1, g3.1, g3.2, by have := g3.2; omega⟩ rfl ?_
    refine s_callS (as := [aI (σ1.1 50 v1)]) d_M_letter_26 ok_M_letterOf lk_M_217 to_M_letterOf rfl (Nat.le_of_ble_eq_true rfl) rfl (WM.mono h ?_)
    rintro _ σ4 ⟨v4, rfl, hp, h⟩
    show WP E m_M_letter (d + 1) 29 [(4, aI v1), (0, aP 42), (1, aI x1), (2, aI x2), (3, aI x3)] [aI v4] σ4 Q
    exact s_ireturn d_M_letter_29 rfl h
  · have h := h.2 c
    refine s_iconst d_M_letter_15 ?_
    refine s_goto d_M_letter_16 rfl ?_
    exact s_ireturn d_M_letter_29 rfl h
theorem e_M_letter {E : EV} {d : Nat} {Q : Option AV → St → Prop} {σ : St} (x1 x2 x3 : Int) (hF : Fix σ) (h : (WMi E m_M_takesSign d [aP 42, aI x1, aI x2, aI x3] σ (fun v1 σ1 => Fix σ1 ∧ (rI v1) ∧ ((¬ v1 = (-1) → (0 ≤ v1 ∧ v1 < 24) ∧ (WMi E m_M_letterOf d [aI (σ1.1 50 v1)] σ1 (fun v4 σ4 => Q (some (aI v4)) σ4))) ∧ (v1 = (-1) → Q (some (aI (-1))) σ1))))) : WM E m_M_letter (d + 1) [aP 42, aI x1, aI x2, aI x3] σ Q := s_meth (by decide) (Nat.le_of_ble_eq_true rfl) rfl (b_M_letter_0 x1 x2 x3 hF h)
theorem d_M_inside_0 : decode m_M_inside.2.1 0 = .ok (.aload_n 0, 1) := by decide +kernel
theorem d_M_inside_1 : decode m_M_inside.2.1 1 = .ok (.iload_n 1, 1) := by decide +kernel
theorem d_M_inside_2 : decode m_M_inside.2.1 2 = .ok (.iload_n 2, 1) := by decide +kernel
theorem d_M_inside_3 : decode m_M_inside.2.1 3 = .ok (.iload_n 3, 1) := by decide +kernel
theorem d_M_inside_4 : decode m_M_inside.2.1 4 = .ok (.invokevirtual 257, 3) := by decide +kernel
theorem d_M_inside_7 : decode m_M_inside.2.1 7 = .ok (.istore 4, 2) := by decide +kernel
theorem d_M_inside_9 : decode m_M_inside.2.1 9 = .ok (.iload 4, 2) := by decide +kernel
theorem d_M_inside_11 : decode m_M_inside.2.1 11 = .ok (.iconst (-1), 1) := by decide +kernel
theorem d_M_inside_12 : decode m_M_inside.2.1 12 = .ok (.if_icmp .ne 5, 3) := by decide +kernel
theorem d_M_inside_15 : decode m_M_inside.2.1 15 = .ok (.iconst (-1), 1) := by decide +kernel
theorem d_M_inside_16 : decode m_M_inside.2.1 16 = .ok (.ireturn, 1) := by decide +kernel
theorem d_M_inside_17 : decode m_M_inside.2.1 17 = .ok (.bipush (-2), 2) := by decide +kernel
theorem d_M_inside_19 : decode m_M_inside.2.1 19 = .ok (.istore 5, 2) := by decide +kernel
theorem d_M_inside_21 : decode m_M_inside.2.1 21 = .ok (.iconst 0, 1) := by decide +kernel
theorem d_M_inside_22 : decode m_M_inside.2.1 22 = .ok (.istore 6, 2) := by decide +kernel
theorem d_M_inside_24 : decode m_M_inside.2.1 24 = .ok (.iconst 0, 1) := by decide +kernel
theorem d_M_inside_25 : decode m_M_inside.2.1 25 = .ok (.istore 7, 2) := by decide +kernel
theorem d_M_inside_27 : decode m_M_inside.2.1 27 = .ok (.iload 7, 2) := by decide +kernel
theorem d_M_inside_29 : decode m_M_inside.2.1 29 = .ok (.iload 4, 2) := by decide +kernel
theorem d_M_inside_31 : decode m_M_inside.2.1 31 = .ok (.if_icmp .ge 58, 3) := by decide +kernel
theorem d_M_inside_34 : decode m_M_inside.2.1 34 = .ok (.aload_n 0, 1) := by decide +kernel
theorem d_M_inside_35 : decode m_M_inside.2.1 35 = .ok (.getfield 35, 3) := by decide +kernel
theorem d_M_inside_38 : decode m_M_inside.2.1 38 = .ok (.iload 7, 2) := by decide +kernel
theorem d_M_inside_40 : decode m_M_inside.2.1 40 = .ok (.iaload, 1) := by decide +kernel
theorem d_M_inside_41 : decode m_M_inside.2.1 41 = .ok (.invokestatic 199, 3) := by decide +kernel
theorem d_M_inside_44 : decode m_M_inside.2.1 44 = .ok (.ifCond .ne 6, 3) := by decide +kernel
theorem d_M_inside_47 : decode m_M_inside.2.1 47 = .ok (.goto 36, 3) := by decide +kernel
theorem d_M_inside_50 : decode m_M_inside.2.1 50 = .ok (.aload_n 0, 1) := by decide +kernel
theorem d_M_inside_51 : decode m_M_inside.2.1 51 = .ok (.getfield 35, 3) := by decide +kernel
theorem d_M_inside_54 : decode m_M_inside.2.1 54 = .ok (.iload 7, 2) := by decide +kernel
theorem d_M_inside_56 : decode m_M_inside.2.1 56 = .ok (.iaload, 1) := by decide +kernel
theorem d_M_inside_57 : decode m_M_inside.2.1 57 = .ok (.bipush 100, 2) := by decide +kernel
theorem d_M_inside_59 : decode m_M_inside.2.1 59 = .ok (.if_icmp .lt 21, 3) := by decide +kernel
theorem d_M_inside_62 : decode m_M_inside.2.1 62 = .ok (.aload_n 0, 1) := by decide +kernel
theorem d_M_inside_63 : decode m_M_inside.2.1 63 = .ok (.getfield 35, 3) := by decide +kernel
theorem d_M_inside_66 : decode m_M_inside.2.1 66 = .ok (.iload 7, 2) := by decide +kernel
theorem d_M_inside_68 : decode m_M_inside.2.1 68 = .ok (.invokestatic 296, 3) := by decide +kernel
theorem d_M_inside_71 : decode m_M_inside.2.1 71 = .ok (.iload 4, 2) := by decide +kernel
theorem d_M_inside_73 : decode m_M_inside.2.1 73 = .ok (.if_icmp .le 7, 3) := by decide +kernel
theorem d_M_inside_76 : decode m_M_inside.2.1 76 = .ok (.iload 6, 2) := by decide +kernel
theorem d_M_inside_78 : decode m_M_inside.2.1 78 = .ok (.istore 5, 2) := by decide +kernel
theorem d_M_inside_80 : decode m_M_inside.2.1 80 = .ok (.iinc 6 1, 3) := by decide +kernel
theorem d_M_inside_83 : decode m_M_inside.2.1 83 = .ok (.iinc 7 1, 3) := by decide +kernel
theorem d_M_inside_86 : decode m_M_inside.2.1 86 = .ok (.goto (-59), 3) := by decide +kernel
theorem d_M_inside_89 : decode m_M_inside.2.1 89 = .ok (.iload 5, 2) := by decide +kernel
theorem d_M_inside_91 : decode m_M_inside.2.1 91 = .ok (.ireturn, 1) := by decide +kernel
theorem b_M_inside_0 {E : EV} {d : Nat} {Q : Option AV → St → Prop} {σ : St} (x1 x2 x3 : Int) (hF : Fix σ) (h : (WMi E m_M_takesSign d [aP 42, aI x1, aI x2, aI x3] σ (fun v1 σ1 => (rI v1) ∧ ((¬ v1 = (-1) → WP E m_M_inside (d + 1) 27 [(0, aP 42), (4, aI v1), (5, aI (-2)), (6, aI 0), (7, aI 0)] [] σ1 Q) ∧ (v1 = (-1) → Q (some (aI (-1))) σ1))))) : WP E m_M_inside (d + 1) 0 [(0, aP 42), (1, aI x1), (2, aI x2), (3, aI x3)] [] σ Q := by
  refine s_aload_n 0 d_M_inside_0 rfl rfl ?_
  refine s_iload_n 1 d_M_inside_1 rfl rfl ?_
  refine s_iload_n 2 d_M_inside_2 rfl rfl ?_
  refine s_iload_n 3 d_M_inside_3 rfl rfl ?_
  refine s_callV (as := [aI x1, aI x2, aI x3]) (ci := 10) d_M_inside_4 ok_M_takesSign lk_M_257 io_M_takesSign so_M_takesSign (by decide) rfl rfl rfl (Nat.le_of_ble_eq_true rfl) rfl (sf_42 hF) (WM.mono h ?_)
  rintro _ σ1 ⟨v1, rfl, hp, h⟩
  show WP E m_M_inside (d + 1) 7 [(0, aP 42), (1, aI x1), (2, aI x2), (3, aI x3)] [aI v1] σ1 Q
  refine s_istore d_M_inside_7 (by decide) rfl ?_
  refine s_iload 0 d_M_inside_9 rfl ?_
  refine s_iconst d_M_inside_11 ?_
  obtain ⟨g2, h⟩ := h
  refine s_icmp_ne d_M_inside_12 rfl g2 (by decide) (fun c => ?_) (fun c => ?_)
  · have h := h.1 c
    refine s_bipush d_M_inside_17 (by decide) ?_
    refine s_istore d_M_inside_19 (by decide) rfl ?_
    refine s_iconst d_M_inside_21 ?_
    refine s_istore d_M_inside_22 (by decide) rfl ?_
    refine s_iconst d_M_inside_24 ?_
    refine s_istore d_M_inside_25 (by decide) rfl ?_
    refine wp_drop [4, 3, 2, 1, 0] rfl ?_
    exact h
  · have h := h.2 c
    refine s_iconst d_M_inside_15 ?_
    exact s_ireturn d_M_inside_16 rfl h
theorem e_M_inside {E : EV} {d : Nat} {Q : Option AV → St → Prop} {σ : St} (x1 x2 x3 : Int) (hF : Fix σ) (h : (WMi E m_M_takesSign d [aP 42, aI x1, aI x2, aI x3] σ (fun v1 σ1 => (rI v1) ∧ ((¬ v1 = (-1) → WP E m_M_inside (d + 1) 27 [(0, aP 42), (4, aI v1), (5, aI (-2)), (6, aI 0), (7, aI 0)] [] σ1 Q) ∧ (v1 = (-1) → Q (some (aI (-1))) σ1))))) : WM E m_M_inside (d + 1) [aP 42, aI x1, aI x2, aI x3] σ Q := s_meth (by decide) (Nat.le_of_ble_eq_true rfl) rfl (b_M_inside_0 x1 x2 x3 hF h)
theorem b_M_inside_27 {E : EV} {d : Nat} {Q : Option AV → St → Prop} {σ : St} (x4 x5 x6 x7 : Int) (hF : Fix σ) (h : (rI x7) ∧ (rI x4) ∧ ((x4 ≤ x7 → Q (some (aI x5)) σ) ∧ (¬ x4 ≤ x7 → (0 ≤ x7 ∧ x7 < 24) ∧ (WMi E m_M_isSign d [aI (σ.1 50 x7)] σ (fun v4 σ4 => Fix σ4 ∧ (rI v4) ∧ ((¬ v4 = 0 → (0 ≤ x7 ∧ x7 < 24) ∧ (rI (σ4.1 50 x7)) ∧ (((σ4.1 50 x7) < 100 → WP E m_M_inside (d + 1) 80 [(0, aP 42), (4, aI x4), (5, aI x5), (6, aI x6), (7, aI x7)] [] σ4 Q) ∧ (¬ (σ4.1 50 x7) < 100 → (WMi E m_M_endOf d [aP 50, aI x7] σ4 (fun v8 σ8 => (rI v8) ∧ (rI x4) ∧ ((v8 ≤ x4 → WP E m_M_inside (d + 1) 80 [(0, aP 42), (4, aI x4), (5, aI x5), (6, aI x6), (7, aI x7)] [] σ8 Q) ∧ (¬ v8 ≤ x4 → WP E m_M_inside (d + 1) 80 [(0, aP 42), (4, aI x4), (5, aI x6), (6, aI x6), (7, aI x7)] [] σ8 Q))))))) ∧ (v4 = 0 → WP E m_M_inside (d + 1) 83 [(0, aP 42), (4, aI x4), (5, aI x5), (6, aI x6), (7, aI x7)] [] σ4 Q))))))) : WP E m_M_inside (d + 1) 27 [(0, aP 42), (4, aI x4), (5, aI x5), (6, aI x6), (7, aI x7)] [] σ Q := by
  refine s_iload 4 d_M_inside_27 rfl ?_
  refine s_iload 1 d_M_inside_29 rfl ?_
  obtain ⟨g1, h⟩ := h
  obtain ⟨g2, h⟩ := h
  refine s_icmp_ge d_M_inside_31 rfl g1 g2 (fun c => ?_) (fun c => ?_)
  · have h := h.1 c
    refine s_iload 2 d_M_inside_89 rfl ?_
    exact s_ireturn d_M_inside_91 rfl h
  · have h := h.2 c
    refine s_aload_n 0 d_M_inside_34 rfl rfl ?_
    refine s_getF (v := 50) d_M_inside_35 fl_M_35 rfl (sf_42 hF) (ff_35 hF) ?_
    refine s_iload 4 d_M_inside_38 rfl ?_
    obtain ⟨g3, h⟩ := h
    refine s_ialoadv (v := σ.1 50 x7) d_M_inside_40 ⟨_, sf_50 hF, g3.1, g3.2, by have := g3.2; omega⟩ rfl ?_
    refine s_callS (as := [aI (σ.1 50 x7)]) d_M_inside_41 ok_M_isSign lk_M_199 to_M_isSign rfl (Nat.le_of_ble_eq_true rfl) rfl (WM.mono h ?_)
    rintro _ σ4 ⟨v4, rfl, hp, h⟩
    obtain ⟨hF4, h⟩ := h
    show WP E m_M_inside (d + 1) 44 [(0, aP 42), (4, aI x4), (5, aI x5), (6, aI x6), (7, aI x7)] [aI v4] σ4 Q
    obtain ⟨g5, h⟩ := h
    refine s_if_ne d_M_inside_44 rfl g5 (fun c => ?_) (fun c => ?_)
    · have h := h.1 c
      refine s_aload_n 0 d_M_inside_50 rfl rfl ?_
      refine s_getF (v := 50) d_M_inside_51 fl_M_35 rfl (sf_42 hF4) (ff_35 hF4) ?_
      refine s_iload 4 d_M_inside_54 rfl ?_
      obtain ⟨g6, h⟩ := h
      refine s_ialoadv (v := σ4.1 50 x7) d_M_inside_56 ⟨_, sf_50 hF4, g6.1, g6.2, by have := g6.2; omega⟩ rfl ?_
      refine s_bipush d_M_inside_57 (by decide) ?_
      obtain ⟨g7, h⟩ := h
      refine s_icmp_lt d_M_inside_59 rfl g7 (by decide) (fun c => ?_) (fun c => ?_)
      · have h := h.1 c
        exact h
      · have h := h.2 c
        refine s_aload_n 0 d_M_inside_62 rfl rfl ?_
        refine s_getF (v := 50) d_M_inside_63 fl_M_35 rfl (sf_42 hF4) (ff_35 hF4) ?_
        refine s_iload 4 d_M_inside_66 rfl ?_
        refine s_callS (as := [aP 50, aI x7]) d_M_inside_68 ok_M_endOf lk_M_296 to_M_endOf rfl (Nat.le_of_ble_eq_true rfl) rfl (WM.mono h ?_)
        rintro _ σ8 ⟨v8, rfl, hp, h⟩
        show WP E m_M_inside (d + 1) 71 [(0, aP 42), (4, aI x4), (5, aI x5), (6, aI x6), (7, aI x7)] [aI v8] σ8 Q
        refine s_iload 1 d_M_inside_71 rfl ?_
        obtain ⟨g9, h⟩ := h
        obtain ⟨g10, h⟩ := h
        refine s_icmp_le d_M_inside_73 rfl g9 g10 (fun c => ?_) (fun c => ?_)
        · have h := h.1 c
          exact h
        · have h := h.2 c
          refine s_iload 3 d_M_inside_76 rfl ?_
          refine s_istore d_M_inside_78 (by decide) rfl ?_
          refine wp_drop [1, 2, 0, 3, 4] rfl ?_
          exact h
    · have h := h.2 c
      refine s_goto d_M_inside_47 rfl ?_
      exact h
theorem b_M_inside_80 {E : EV} {d : Nat} {Q : Option AV → St → Prop} {σ : St} (x4 x5 x6 x7 : Int) (h : WP E m_M_inside (d + 1) 83 [(0, aP 42), (4, aI x4), (5, aI x5), (6, aI (x6 + 1)), (7, aI x7)] [] σ Q) : WP E m_M_inside (d + 1) 80 [(0, aP 42), (4, aI x4), (5, aI x5), (6, aI x6), (7, aI x7)] [] σ Q := by
  refine s_iinc 3 d_M_inside_80 rfl (by decide) rfl ?_
  refine wp_drop [1, 2, 3, 0, 4] rfl ?_
  exact h
theorem b_M_inside_83 {E : EV} {d : Nat} {Q : Option AV → St → Prop} {σ : St} (x4 x5 x6 x7 : Int) (h : WP E m_M_inside (d + 1) 27 [(0, aP 42), (4, aI x4), (5, aI x5), (6, aI x6), (7, aI (x7 + 1))] [] σ Q) : WP E m_M_inside (d + 1) 83 [(0, aP 42), (4, aI x4), (5, aI x5), (6, aI x6), (7, aI x7)] [] σ Q := by
  refine s_iinc 4 d_M_inside_83 rfl (by decide) rfl ?_
  refine s_goto d_M_inside_86 rfl ?_
  refine wp_drop [1, 2, 3, 4, 0] rfl ?_
  exact h
theorem d_M_same_0 : decode m_M_same.2.1 0 = .ok (.aload_n 0, 1) := by decide +kernel
theorem d_M_same_1 : decode m_M_same.2.1 1 = .ok (.iload_n 1, 1) := by decide +kernel
theorem d_M_same_2 : decode m_M_same.2.1 2 = .ok (.iload_n 2, 1) := by decide +kernel
theorem d_M_same_3 : decode m_M_same.2.1 3 = .ok (.invokevirtual 206, 3) := by decide +kernel
theorem d_M_same_6 : decode m_M_same.2.1 6 = .ok (.ifCond .eq 13, 3) := by decide +kernel
theorem d_M_same_9 : decode m_M_same.2.1 9 = .ok (.aload_n 0, 1) := by decide +kernel
theorem d_M_same_10 : decode m_M_same.2.1 10 = .ok (.iload_n 3, 1) := by decide +kernel
theorem d_M_same_11 : decode m_M_same.2.1 11 = .ok (.iload 4, 2) := by decide +kernel
theorem d_M_same_13 : decode m_M_same.2.1 13 = .ok (.invokevirtual 206, 3) := by decide +kernel
theorem d_M_same_16 : decode m_M_same.2.1 16 = .ok (.ifCond .ne 5, 3) := by decide +kernel
theorem d_M_same_19 : decode m_M_same.2.1 19 = .ok (.iconst (-1), 1) := by decide +kernel
theorem d_M_same_20 : decode m_M_same.2.1 20 = .ok (.ireturn, 1) := by decide +kernel
theorem d_M_same_21 : decode m_M_same.2.1 21 = .ok (.iload_n 1, 1) := by decide +kernel
theorem d_M_same_22 : decode m_M_same.2.1 22 = .ok (.iload_n 2, 1) := by decide +kernel
theorem d_M_same_23 : decode m_M_same.2.1 23 = .ok (.invokestatic 185, 3) := by decide +kernel
theorem d_M_same_26 : decode m_M_same.2.1 26 = .ok (.istore 5, 2) := by decide +kernel
theorem d_M_same_28 : decode m_M_same.2.1 28 = .ok (.iload_n 3, 1) := by decide +kernel
theorem d_M_same_29 : decode m_M_same.2.1 29 = .ok (.iload 4, 2) := by decide +kernel
theorem d_M_same_31 : decode m_M_same.2.1 31 = .ok (.invokestatic 185, 3) := by decide +kernel
theorem d_M_same_34 : decode m_M_same.2.1 34 = .ok (.istore 6, 2) := by decide +kernel
theorem d_M_same_36 : decode m_M_same.2.1 36 = .ok (.aload_n 0, 1) := by decide +kernel
theorem d_M_same_37 : decode m_M_same.2.1 37 = .ok (.getfield 26, 3) := by decide +kernel
theorem d_M_same_40 : decode m_M_same.2.1 40 = .ok (.iload 5, 2) := by decide +kernel
theorem d_M_same_42 : decode m_M_same.2.1 42 = .ok (.iaload, 1) := by decide +kernel
theorem d_M_same_43 : decode m_M_same.2.1 43 = .ok (.aload_n 0, 1) := by decide +kernel
theorem d_M_same_44 : decode m_M_same.2.1 44 = .ok (.getfield 26, 3) := by decide +kernel
theorem d_M_same_47 : decode m_M_same.2.1 47 = .ok (.iload 6, 2) := by decide +kernel
theorem d_M_same_49 : decode m_M_same.2.1 49 = .ok (.iaload, 1) := by decide +kernel
theorem d_M_same_50 : decode m_M_same.2.1 50 = .ok (.if_icmp .eq 5, 3) := by decide +kernel
theorem d_M_same_53 : decode m_M_same.2.1 53 = .ok (.iconst 0, 1) := by decide +kernel
theorem d_M_same_54 : decode m_M_same.2.1 54 = .ok (.ireturn, 1) := by decide +kernel
theorem d_M_same_55 : decode m_M_same.2.1 55 = .ok (.iconst 1, 1) := by decide +kernel
theorem d_M_same_56 : decode m_M_same.2.1 56 = .ok (.istore 7, 2) := by decide +kernel
theorem d_M_same_58 : decode m_M_same.2.1 58 = .ok (.iload 7, 2) := by decide +kernel
theorem d_M_same_60 : decode m_M_same.2.1 60 = .ok (.aload_n 0, 1) := by decide +kernel
theorem d_M_same_61 : decode m_M_same.2.1 61 = .ok (.getfield 26, 3) := by decide +kernel
theorem d_M_same_64 : decode m_M_same.2.1 64 = .ok (.iload 5, 2) := by decide +kernel
theorem d_M_same_66 : decode m_M_same.2.1 66 = .ok (.iaload, 1) := by decide +kernel
theorem d_M_same_67 : decode m_M_same.2.1 67 = .ok (.if_icmp .gt 34, 3) := by decide +kernel
theorem d_M_same_70 : decode m_M_same.2.1 70 = .ok (.aload_n 0, 1) := by decide +kernel
theorem d_M_same_71 : decode m_M_same.2.1 71 = .ok (.getfield 26, 3) := by decide +kernel
theorem d_M_same_74 : decode m_M_same.2.1 74 = .ok (.iload 5, 2) := by decide +kernel
theorem d_M_same_76 : decode m_M_same.2.1 76 = .ok (.iload 7, 2) := by decide +kernel
theorem d_M_same_78 : decode m_M_same.2.1 78 = .ok (.iadd, 1) := by decide +kernel
theorem d_M_same_79 : decode m_M_same.2.1 79 = .ok (.iaload, 1) := by decide +kernel
theorem d_M_same_80 : decode m_M_same.2.1 80 = .ok (.aload_n 0, 1) := by decide +kernel
theorem d_M_same_81 : decode m_M_same.2.1 81 = .ok (.getfield 26, 3) := by decide +kernel
theorem d_M_same_84 : decode m_M_same.2.1 84 = .ok (.iload 6, 2) := by decide +kernel
theorem d_M_same_86 : decode m_M_same.2.1 86 = .ok (.iload 7, 2) := by decide +kernel
theorem d_M_same_88 : decode m_M_same.2.1 88 = .ok (.iadd, 1) := by decide +kernel
theorem d_M_same_89 : decode m_M_same.2.1 89 = .ok (.iaload, 1) := by decide +kernel
theorem d_M_same_90 : decode m_M_same.2.1 90 = .ok (.if_icmp .eq 5, 3) := by decide +kernel
theorem d_M_same_93 : decode m_M_same.2.1 93 = .ok (.iconst 0, 1) := by decide +kernel
theorem d_M_same_94 : decode m_M_same.2.1 94 = .ok (.ireturn, 1) := by decide +kernel
theorem d_M_same_95 : decode m_M_same.2.1 95 = .ok (.iinc 7 1, 3) := by decide +kernel
theorem d_M_same_98 : decode m_M_same.2.1 98 = .ok (.goto (-40), 3) := by decide +kernel
theorem d_M_same_101 : decode m_M_same.2.1 101 = .ok (.iconst 1, 1) := by decide +kernel
theorem d_M_same_102 : decode m_M_same.2.1 102 = .ok (.ireturn, 1) := by decide +kernel
theorem b_M_same_0 {E : EV} {d : Nat} {Q : Option AV → St → Prop} {σ : St} (x1 x2 x3 x4 : Int) (hF : Fix σ) (h : (WMi E m_M_isSquare d [aP 42, aI x1, aI x2] σ (fun v1 σ1 => Fix σ1 ∧ (rI v1) ∧ ((v1 = 0 → Q (some (aI (-1))) σ1) ∧ (¬ v1 = 0 → (WMi E m_M_isSquare d [aP 42, aI x3, aI x4] σ1 (fun v3 σ3 => Fix σ3 ∧ (rI v3) ∧ ((¬ v3 = 0 → (WMi E m_M_placeOf d [aI x1, aI x2] σ3 (fun v5 σ5 => Fix σ5 ∧ (WMi E m_M_placeOf d [aI x3, aI x4] σ5 (fun v6 σ6 => Fix σ6 ∧ (0 ≤ v5 ∧ v5 < 683) ∧ (0 ≤ v6 ∧ v6 < 683) ∧ (rI (σ6.1 47 v5)) ∧ (rI (σ6.1 47 v6)) ∧ (((σ6.1 47 v5) = (σ6.1 47 v6) → WP E m_M_same (d + 1) 58 [(0, aP 42), (5, aI v5), (6, aI v6), (7, aI 1)] [] σ6 Q) ∧ (¬ (σ6.1 47 v5) = (σ6.1 47 v6) → Q (some (aI 0)) σ6))))))) ∧ (v3 = 0 → Q (some (aI (-1))) σ3))))))))) : WP E m_M_same (d + 1) 0 [(0, aP 42), (1, aI x1), (2, aI x2), (3, aI x3), (4, aI x4)] [] σ Q := by
  refine s_aload_n 0 d_M_same_0 rfl rfl ?_
  refine s_iload_n 1 d_M_same_1 rfl rfl ?_
  refine s_iload_n 2 d_M_same_2 rfl rfl ?_
  refine s_callV (as := [aI x1, aI x2]) (ci := 10) d_M_same_3 ok_M_isSquare lk_M_206 io_M_isSquare so_M_isSquare (by decide) rfl rfl rfl (Nat.le_of_ble_eq_true rfl) rfl (sf_42 hF) (WM.mono h ?_)
  rintro _ σ1 ⟨v1, rfl, hp, h⟩
  obtain ⟨hF1, h⟩ := h
  show WP E m_M_same (d + 1) 6 [(0, aP 42), (1, aI x1), (2, aI x2), (3, aI x3), (4, aI x4)] [aI v1] σ1 Q
  obtain ⟨g2, h⟩ := h
  refine s_if_eq d_M_same_6 rfl g2 (fun c => ?_) (fun c => ?_)
  · have h := h.1 c
    refine s_iconst d_M_same_19 ?_
    exact s_ireturn d_M_same_20 rfl h
  · have h := h.2 c
    refine s_aload_n 0 d_M_same_9 rfl rfl ?_
    refine s_iload_n 3 d_M_same_10 rfl rfl ?_
    refine s_iload 4 d_M_same_11 rfl ?_
    refine s_callV (as := [aI x3, aI x4]) (ci := 10) d_M_same_13 ok_M_isSquare lk_M_206 io_M_isSquare so_M_isSquare (by decide) rfl rfl rfl (Nat.le_of_ble_eq_true rfl) rfl (sf_42 hF1) (WM.mono h ?_)
    rintro _ σ3 ⟨v3, rfl, hp, h⟩
    obtain ⟨hF3, h⟩ := h
    show WP E m_M_same (d + 1) 16 [(0, aP 42), (1, aI x1), (2, aI x2), (3, aI x3), (4, aI x4)] [aI v3] σ3 Q
    obtain ⟨g4, h⟩ := h
    refine s_if_ne d_M_same_16 rfl g4 (fun c => ?_) (fun c => ?_)
    · have h := h.1 c
      refine s_iload_n 1 d_M_same_21 rfl rfl ?_
      refine s_iload_n 2 d_M_same_22 rfl rfl ?_
      refine s_callS (as := [aI x1, aI x2]) d_M_same_23 ok_M_placeOf lk_M_185 to_M_placeOf rfl (Nat.le_of_ble_eq_true rfl) rfl (WM.mono h ?_)
      rintro _ σ5 ⟨v5, rfl, hp, h⟩
      obtain ⟨hF5, h⟩ := h
      show WP E m_M_same (d + 1) 26 [(0, aP 42), (1, aI x1), (2, aI x2), (3, aI x3), (4, aI x4)] [aI v5] σ5 Q
      refine s_istore d_M_same_26 (by decide) rfl ?_
      refine s_iload_n 4 d_M_same_28 rfl rfl ?_
      refine s_iload 5 d_M_same_29 rfl ?_
      refine s_callS (as := [aI x3, aI x4]) d_M_same_31 ok_M_placeOf lk_M_185 to_M_placeOf rfl (Nat.le_of_ble_eq_true rfl) rfl (WM.mono h ?_)
      rintro _ σ6 ⟨v6, rfl, hp, h⟩
      obtain ⟨hF6, h⟩ := h
      show WP E m_M_same (d + 1) 34 [(5, aI v5), (0, aP 42), (1, aI x1), (2, aI x2), (3, aI x3), (4, aI x4)] [aI v6] σ6 Q
      refine s_istore d_M_same_34 (by decide) rfl ?_
      refine s_aload_n 2 d_M_same_36 rfl rfl ?_
      refine s_getF (v := 47) d_M_same_37 fl_M_26 rfl (sf_42 hF6) (ff_32 hF6) ?_
      refine s_iload 1 d_M_same_40 rfl ?_
      obtain ⟨g7, h⟩ := h
      refine s_ialoadv (v := σ6.1 47 v5) d_M_same_42 ⟨_, sf_47 hF6, g7.1, g7.2, by have := g7.2; omega⟩ rfl ?_
      refine s_aload_n 2 d_M_same_43 rfl rfl ?_
      refine s_getF (v := 47) d_M_same_44 fl_M_26 rfl (sf_42 hF6) (ff_32 hF6) ?_
      refine s_iload 0 d_M_same_47 rfl ?_
      obtain ⟨g8, h⟩ := h
      refine s_ialoadv (v := σ6.1 47 v6) d_M_same_49 ⟨_, sf_47 hF6, g8.1, g8.2, by have := g8.2; omega⟩ rfl ?_
      obtain ⟨g9, h⟩ := h
      obtain ⟨g10, h⟩ := h
      refine s_icmp_eq d_M_same_50 rfl g9 g10 (fun c => ?_) (fun c => ?_)
      · have h := h.1 c
        refine s_iconst d_M_same_55 ?_
        refine s_istore d_M_same_56 (by decide) rfl ?_
        refine wp_drop [3, 2, 1, 0] rfl ?_
        exact h
      · have h := h.2 c
        refine s_iconst d_M_same_53 ?_
        exact s_ireturn d_M_same_54 rfl h
    · have h := h.2 c
      refine s_iconst d_M_same_19 ?_
      exact s_ireturn d_M_same_20 rfl h
theorem e_M_same {E : EV} {d : Nat} {Q : Option AV → St → Prop} {σ : St} (x1 x2 x3 x4 : Int) (hF : Fix σ) (h : (WMi E m_M_isSquare d [aP 42, aI x1, aI x2] σ (fun v1 σ1 => Fix σ1 ∧ (rI v1) ∧ ((v1 = 0 → Q (some (aI (-1))) σ1) ∧ (¬ v1 = 0 → (WMi E m_M_isSquare d [aP 42, aI x3, aI x4] σ1 (fun v3 σ3 => Fix σ3 ∧ (rI v3) ∧ ((¬ v3 = 0 → (WMi E m_M_placeOf d [aI x1, aI x2] σ3 (fun v5 σ5 => Fix σ5 ∧ (WMi E m_M_placeOf d [aI x3, aI x4] σ5 (fun v6 σ6 => Fix σ6 ∧ (0 ≤ v5 ∧ v5 < 683) ∧ (0 ≤ v6 ∧ v6 < 683) ∧ (rI (σ6.1 47 v5)) ∧ (rI (σ6.1 47 v6)) ∧ (((σ6.1 47 v5) = (σ6.1 47 v6) → WP E m_M_same (d + 1) 58 [(0, aP 42), (5, aI v5), (6, aI v6), (7, aI 1)] [] σ6 Q) ∧ (¬ (σ6.1 47 v5) = (σ6.1 47 v6) → Q (some (aI 0)) σ6))))))) ∧ (v3 = 0 → Q (some (aI (-1))) σ3))))))))) : WM E m_M_same (d + 1) [aP 42, aI x1, aI x2, aI x3, aI x4] σ Q := s_meth (by decide) (Nat.le_of_ble_eq_true rfl) rfl (b_M_same_0 x1 x2 x3 x4 hF h)
theorem b_M_same_58 {E : EV} {d : Nat} {Q : Option AV → St → Prop} {σ : St} (x5 x6 x7 : Int) (hF : Fix σ) (h : (0 ≤ x5 ∧ x5 < 683) ∧ (rI x7) ∧ (rI (σ.1 47 x5)) ∧ (((σ.1 47 x5) < x7 → Q (some (aI 1)) σ) ∧ (¬ (σ.1 47 x5) < x7 → (0 ≤ (x5 + x7) ∧ (x5 + x7) < 683) ∧ (0 ≤ (x6 + x7) ∧ (x6 + x7) < 683) ∧ (rI (σ.1 47 (x5 + x7))) ∧ (rI (σ.1 47 (x6 + x7))) ∧ (((σ.1 47 (x5 + x7)) = (σ.1 47 (x6 + x7)) → WP E m_M_same (d + 1) 58 [(0, aP 42), (5, aI x5), (6, aI x6), (7, aI (x7 + 1))] [] σ Q) ∧ (¬ (σ.1 47 (x5 + x7)) = (σ.1 47 (x6 + x7)) → Q (some (aI 0)) σ))))) : WP E m_M_same (d + 1) 58 [(0, aP 42), (5, aI x5), (6, aI x6), (7, aI x7)] [] σ Q := by
  refine s_iload 3 d_M_same_58 rfl ?_
  refine s_aload_n 0 d_M_same_60 rfl rfl ?_
  refine s_getF (v := 47) d_M_same_61 fl_M_26 rfl (sf_42 hF) (ff_32 hF) ?_
  refine s_iload 1 d_M_same_64 rfl ?_
  obtain ⟨g1, h⟩ := h
  refine s_ialoadv (v := σ.1 47 x5) d_M_same_66 ⟨_, sf_47 hF, g1.1, g1.2, by have := g1.2; omega⟩ rfl ?_
  obtain ⟨g2, h⟩ := h
  obtain ⟨g3, h⟩ := h
  refine s_icmp_gt d_M_same_67 rfl g2 g3 (fun c => ?_) (fun c => ?_)
  · have h := h.1 c
    refine s_iconst d_M_same_101 ?_
    exact s_ireturn d_M_same_102 rfl h
  · have h := h.2 c
    refine s_aload_n 0 d_M_same_70 rfl rfl ?_
    refine s_getF (v := 47) d_M_same_71 fl_M_26 rfl (sf_42 hF) (ff_32 hF) ?_
    refine s_iload 1 d_M_same_74 rfl ?_
    refine s_iload 3 d_M_same_76 rfl ?_
    refine s_iadd d_M_same_78 ?_
    obtain ⟨g4, h⟩ := h
    refine s_ialoadv (v := σ.1 47 (x5 + x7)) d_M_same_79 ⟨_, sf_47 hF, g4.1, g4.2, by have := g4.2; omega⟩ rfl ?_
    refine s_aload_n 0 d_M_same_80 rfl rfl ?_
    refine s_getF (v := 47) d_M_same_81 fl_M_26 rfl (sf_42 hF) (ff_32 hF) ?_
    refine s_iload 2 d_M_same_84 rfl ?_
    refine s_iload 3 d_M_same_86 rfl ?_
    refine s_iadd d_M_same_88 ?_
    obtain ⟨g5, h⟩ := h
    refine s_ialoadv (v := σ.1 47 (x6 + x7)) d_M_same_89 ⟨_, sf_47 hF, g5.1, g5.2, by have := g5.2; omega⟩ rfl ?_
    obtain ⟨g6, h⟩ := h
    obtain ⟨g7, h⟩ := h
    refine s_icmp_eq d_M_same_90 rfl g6 g7 (fun c => ?_) (fun c => ?_)
    · have h := h.1 c
      refine s_iinc 3 d_M_same_95 rfl (by decide) rfl ?_
      refine s_goto d_M_same_98 rfl ?_
      refine wp_drop [1, 2, 3, 0] rfl ?_
      exact h
    · have h := h.2 c
      refine s_iconst d_M_same_93 ?_
      exact s_ireturn d_M_same_94 rfl h
theorem d_M_count_0 : decode m_M_count.2.1 0 = .ok (.iconst 0, 1) := by decide +kernel
theorem d_M_count_1 : decode m_M_count.2.1 1 = .ok (.istore_n 2, 1) := by decide +kernel
theorem d_M_count_2 : decode m_M_count.2.1 2 = .ok (.iload_n 1, 1) := by decide +kernel
theorem d_M_count_3 : decode m_M_count.2.1 3 = .ok (.tableswitch 191 0 8 #[49, 56, 84, 112, 139, 146, 153, 158, 163], 49) := by decide +kernel
theorem d_M_count_52 : decode m_M_count.2.1 52 = .ok (.aload_n 0, 1) := by decide +kernel
theorem d_M_count_53 : decode m_M_count.2.1 53 = .ok (.getfield 26, 3) := by decide +kernel
theorem d_M_count_56 : decode m_M_count.2.1 56 = .ok (.iconst 2, 1) := by decide +kernel
theorem d_M_count_57 : decode m_M_count.2.1 57 = .ok (.iaload, 1) := by decide +kernel
theorem d_M_count_58 : decode m_M_count.2.1 58 = .ok (.ireturn, 1) := by decide +kernel
theorem d_M_count_59 : decode m_M_count.2.1 59 = .ok (.iconst 0, 1) := by decide +kernel
theorem d_M_count_60 : decode m_M_count.2.1 60 = .ok (.istore_n 3, 1) := by decide +kernel
theorem d_M_count_61 : decode m_M_count.2.1 61 = .ok (.iload_n 3, 1) := by decide +kernel
theorem d_M_count_62 : decode m_M_count.2.1 62 = .ok (.aload_n 0, 1) := by decide +kernel
theorem d_M_count_63 : decode m_M_count.2.1 63 = .ok (.getfield 26, 3) := by decide +kernel
theorem d_M_count_66 : decode m_M_count.2.1 66 = .ok (.iconst 2, 1) := by decide +kernel
theorem d_M_count_67 : decode m_M_count.2.1 67 = .ok (.iaload, 1) := by decide +kernel
theorem d_M_count_68 : decode m_M_count.2.1 68 = .ok (.if_icmp .ge 17, 3) := by decide +kernel
theorem d_M_count_71 : decode m_M_count.2.1 71 = .ok (.iload_n 2, 1) := by decide +kernel
theorem d_M_count_72 : decode m_M_count.2.1 72 = .ok (.aload_n 0, 1) := by decide +kernel
theorem d_M_count_73 : decode m_M_count.2.1 73 = .ok (.iload_n 3, 1) := by decide +kernel
theorem d_M_count_74 : decode m_M_count.2.1 74 = .ok (.invokevirtual 178, 3) := by decide +kernel
theorem d_M_count_77 : decode m_M_count.2.1 77 = .ok (.iadd, 1) := by decide +kernel
theorem d_M_count_78 : decode m_M_count.2.1 78 = .ok (.istore_n 2, 1) := by decide +kernel
theorem d_M_count_79 : decode m_M_count.2.1 79 = .ok (.iinc 3 1, 3) := by decide +kernel
theorem d_M_count_82 : decode m_M_count.2.1 82 = .ok (.goto (-21), 3) := by decide +kernel
theorem d_M_count_85 : decode m_M_count.2.1 85 = .ok (.iload_n 2, 1) := by decide +kernel
theorem d_M_count_86 : decode m_M_count.2.1 86 = .ok (.ireturn, 1) := by decide +kernel
theorem d_M_count_87 : decode m_M_count.2.1 87 = .ok (.iconst 0, 1) := by decide +kernel
theorem d_M_count_88 : decode m_M_count.2.1 88 = .ok (.istore_n 3, 1) := by decide +kernel
theorem d_M_count_89 : decode m_M_count.2.1 89 = .ok (.iload_n 3, 1) := by decide +kernel
theorem d_M_count_90 : decode m_M_count.2.1 90 = .ok (.aload_n 0, 1) := by decide +kernel
theorem d_M_count_91 : decode m_M_count.2.1 91 = .ok (.getfield 26, 3) := by decide +kernel
theorem d_M_count_94 : decode m_M_count.2.1 94 = .ok (.iconst 2, 1) := by decide +kernel
theorem d_M_count_95 : decode m_M_count.2.1 95 = .ok (.iaload, 1) := by decide +kernel
theorem d_M_count_96 : decode m_M_count.2.1 96 = .ok (.if_icmp .ge 17, 3) := by decide +kernel
theorem d_M_count_99 : decode m_M_count.2.1 99 = .ok (.iload_n 2, 1) := by decide +kernel
theorem d_M_count_100 : decode m_M_count.2.1 100 = .ok (.aload_n 0, 1) := by decide +kernel
theorem d_M_count_101 : decode m_M_count.2.1 101 = .ok (.iload_n 3, 1) := by decide +kernel
theorem d_M_count_102 : decode m_M_count.2.1 102 = .ok (.invokevirtual 412, 3) := by decide +kernel
theorem d_M_count_105 : decode m_M_count.2.1 105 = .ok (.iadd, 1) := by decide +kernel
theorem d_M_count_106 : decode m_M_count.2.1 106 = .ok (.istore_n 2, 1) := by decide +kernel
theorem d_M_count_107 : decode m_M_count.2.1 107 = .ok (.iinc 3 1, 3) := by decide +kernel
theorem d_M_count_110 : decode m_M_count.2.1 110 = .ok (.goto (-21), 3) := by decide +kernel
theorem d_M_count_113 : decode m_M_count.2.1 113 = .ok (.iload_n 2, 1) := by decide +kernel
theorem d_M_count_114 : decode m_M_count.2.1 114 = .ok (.ireturn, 1) := by decide +kernel
theorem d_M_count_115 : decode m_M_count.2.1 115 = .ok (.iconst 0, 1) := by decide +kernel
theorem d_M_count_116 : decode m_M_count.2.1 116 = .ok (.istore_n 3, 1) := by decide +kernel
theorem d_M_count_117 : decode m_M_count.2.1 117 = .ok (.iload_n 3, 1) := by decide +kernel
theorem d_M_count_118 : decode m_M_count.2.1 118 = .ok (.bipush 26, 2) := by decide +kernel
theorem d_M_count_120 : decode m_M_count.2.1 120 = .ok (.if_icmp .ge 20, 3) := by decide +kernel
theorem d_M_count_123 : decode m_M_count.2.1 123 = .ok (.aload_n 0, 1) := by decide +kernel
theorem d_M_count_124 : decode m_M_count.2.1 124 = .ok (.iload_n 3, 1) := by decide +kernel
theorem d_M_count_125 : decode m_M_count.2.1 125 = .ok (.invokevirtual 287, 3) := by decide +kernel
theorem d_M_count_128 : decode m_M_count.2.1 128 = .ok (.ifCond .eq 6, 3) := by decide +kernel
theorem d_M_count_131 : decode m_M_count.2.1 131 = .ok (.iinc 2 1, 3) := by decide +kernel
theorem d_M_count_134 : decode m_M_count.2.1 134 = .ok (.iinc 3 1, 3) := by decide +kernel
theorem d_M_count_137 : decode m_M_count.2.1 137 = .ok (.goto (-20), 3) := by decide +kernel
theorem d_M_count_140 : decode m_M_count.2.1 140 = .ok (.iload_n 2, 1) := by decide +kernel
theorem d_M_count_141 : decode m_M_count.2.1 141 = .ok (.ireturn, 1) := by decide +kernel
theorem d_M_count_142 : decode m_M_count.2.1 142 = .ok (.aload_n 0, 1) := by decide +kernel
theorem d_M_count_143 : decode m_M_count.2.1 143 = .ok (.getfield 26, 3) := by decide +kernel
theorem d_M_count_146 : decode m_M_count.2.1 146 = .ok (.iconst 0, 1) := by decide +kernel
theorem d_M_count_147 : decode m_M_count.2.1 147 = .ok (.iaload, 1) := by decide +kernel
theorem d_M_count_148 : decode m_M_count.2.1 148 = .ok (.ireturn, 1) := by decide +kernel
theorem d_M_count_149 : decode m_M_count.2.1 149 = .ok (.aload_n 0, 1) := by decide +kernel
theorem d_M_count_150 : decode m_M_count.2.1 150 = .ok (.getfield 26, 3) := by decide +kernel
theorem d_M_count_153 : decode m_M_count.2.1 153 = .ok (.iconst 1, 1) := by decide +kernel
theorem d_M_count_154 : decode m_M_count.2.1 154 = .ok (.iaload, 1) := by decide +kernel
theorem d_M_count_155 : decode m_M_count.2.1 155 = .ok (.ireturn, 1) := by decide +kernel
theorem d_M_count_156 : decode m_M_count.2.1 156 = .ok (.aload_n 0, 1) := by decide +kernel
theorem d_M_count_157 : decode m_M_count.2.1 157 = .ok (.getfield 171, 3) := by decide +kernel
theorem d_M_count_160 : decode m_M_count.2.1 160 = .ok (.ireturn, 1) := by decide +kernel
theorem d_M_count_161 : decode m_M_count.2.1 161 = .ok (.aload_n 0, 1) := by decide +kernel
theorem d_M_count_162 : decode m_M_count.2.1 162 = .ok (.getfield 418, 3) := by decide +kernel
theorem d_M_count_165 : decode m_M_count.2.1 165 = .ok (.ireturn, 1) := by decide +kernel
theorem d_M_count_166 : decode m_M_count.2.1 166 = .ok (.iconst 0, 1) := by decide +kernel
theorem d_M_count_167 : decode m_M_count.2.1 167 = .ok (.istore_n 3, 1) := by decide +kernel
theorem d_M_count_168 : decode m_M_count.2.1 168 = .ok (.iload_n 3, 1) := by decide +kernel
theorem d_M_count_169 : decode m_M_count.2.1 169 = .ok (.bipush 26, 2) := by decide +kernel
theorem d_M_count_171 : decode m_M_count.2.1 171 = .ok (.if_icmp .ge 21, 3) := by decide +kernel
theorem d_M_count_174 : decode m_M_count.2.1 174 = .ok (.aload_n 0, 1) := by decide +kernel
theorem d_M_count_175 : decode m_M_count.2.1 175 = .ok (.getfield 20, 3) := by decide +kernel
theorem d_M_count_178 : decode m_M_count.2.1 178 = .ok (.iload_n 3, 1) := by decide +kernel
theorem d_M_count_179 : decode m_M_count.2.1 179 = .ok (.iaload, 1) := by decide +kernel
theorem d_M_count_180 : decode m_M_count.2.1 180 = .ok (.ifCond .le 6, 3) := by decide +kernel
theorem d_M_count_183 : decode m_M_count.2.1 183 = .ok (.iinc 2 1, 3) := by decide +kernel
theorem d_M_count_186 : decode m_M_count.2.1 186 = .ok (.iinc 3 1, 3) := by decide +kernel
theorem d_M_count_189 : decode m_M_count.2.1 189 = .ok (.goto (-21), 3) := by decide +kernel
theorem d_M_count_192 : decode m_M_count.2.1 192 = .ok (.iload_n 2, 1) := by decide +kernel
theorem d_M_count_193 : decode m_M_count.2.1 193 = .ok (.ireturn, 1) := by decide +kernel
theorem d_M_count_194 : decode m_M_count.2.1 194 = .ok (.iconst (-1), 1) := by decide +kernel
theorem d_M_count_195 : decode m_M_count.2.1 195 = .ok (.ireturn, 1) := by decide +kernel
theorem b_M_count_0 {E : EV} {d : Nat} {Q : Option AV → St → Prop} {σ : St} (x1 : Int) (hF : Fix σ) (h : (rI x1) ∧ ((x1 = 0 → Q (some (aI (σ.1 47 2))) σ) ∧ (x1 = 1 → WP E m_M_count (d + 1) 61 [(0, aP 42), (2, aI 0), (3, aI 0)] [] σ Q) ∧ (x1 = 2 → WP E m_M_count (d + 1) 89 [(0, aP 42), (2, aI 0), (3, aI 0)] [] σ Q) ∧ (x1 = 3 → WP E m_M_count (d + 1) 117 [(0, aP 42), (2, aI 0), (3, aI 0)] [] σ Q) ∧ (x1 = 4 → Q (some (aI (σ.1 47 0))) σ) ∧ (x1 = 5 → Q (some (aI (σ.1 47 1))) σ) ∧ (x1 = 6 → Q (some (aI (σ.1 42 8))) σ) ∧ (x1 = 7 → Q (some (aI (σ.1 42 47))) σ) ∧ (x1 = 8 → WP E m_M_count (d + 1) 168 [(0, aP 42), (2, aI 0), (3, aI 0)] [] σ Q) ∧ (¬ (0 ≤ x1 ∧ x1 ≤ 8) → Q (some (aI (-1))) σ))) : WP E m_M_count (d + 1) 0 [(0, aP 42), (1, aI x1)] [] σ Q := by
  refine s_iconst d_M_count_0 ?_
  refine s_istore_n d_M_count_1 rfl (by decide) rfl ?_
  refine s_iload_n 2 d_M_count_2 rfl rfl ?_
  obtain ⟨g1, h⟩ := h
  by_cases c0 : x1 = 0
  · have h := h.1 c0
    refine s_tableIn d_M_count_3 g1 (by rw [c0]; decide) (by rw [c0]; rfl) (tgt := 52) rfl ?_
    refine s_aload_n 1 d_M_count_52 rfl rfl ?_
    refine s_getF (v := 47) d_M_count_53 fl_M_26 rfl (sf_42 hF) (ff_32 hF) ?_
    refine s_iconst d_M_count_56 ?_
    refine s_ialoadv (v := σ.1 47 2) d_M_count_57 ⟨_, sf_47 hF, by decide, by decide, by decide⟩ rfl ?_
    exact s_ireturn d_M_count_58 rfl h
  by_cases c1 : x1 = 1
  · have h := h.2.1 c1
    refine s_tableIn d_M_count_3 g1 (by rw [c1]; decide) (by rw [c1]; rfl) (tgt := 59) rfl ?_
    refine s_iconst d_M_count_59 ?_
    refine s_istore_n d_M_count_60 rfl (by decide) rfl ?_
    refine wp_drop [2, 1, 0] rfl ?_
    exact h
  by_cases c2 : x1 = 2
  · have h := h.2.2.1 c2
    refine s_tableIn d_M_count_3 g1 (by rw [c2]; decide) (by rw [c2]; rfl) (tgt := 87) rfl ?_
    refine s_iconst d_M_count_87 ?_
    refine s_istore_n d_M_count_88 rfl (by decide) rfl ?_
    refine wp_drop [2, 1, 0] rfl ?_
    exact h
  by_cases c3 : x1 = 3
  · have h := h.2.2.2.1 c3
    refine s_tableIn d_M_count_3 g1 (by rw [c3]; decide) (by rw [c3]; rfl) (tgt := 115) rfl ?_
    refine s_iconst d_M_count_115 ?_
    refine s_istore_n d_M_count_116 rfl (by decide) rfl ?_
    refine wp_drop [2, 1, 0] rfl ?_
    exact h
  by_cases c4 : x1 = 4
  · have h := h.2.2.2.2.1 c4
    refine s_tableIn d_M_count_3 g1 (by rw [c4]; decide) (by rw [c4]; rfl) (tgt := 142) rfl ?_
    refine s_aload_n 1 d_M_count_142 rfl rfl ?_
    refine s_getF (v := 47) d_M_count_143 fl_M_26 rfl (sf_42 hF) (ff_32 hF) ?_
    refine s_iconst d_M_count_146 ?_
    refine s_ialoadv (v := σ.1 47 0) d_M_count_147 ⟨_, sf_47 hF, by decide, by decide, by decide⟩ rfl ?_
    exact s_ireturn d_M_count_148 rfl h
  by_cases c5 : x1 = 5
  · have h := h.2.2.2.2.2.1 c5
    refine s_tableIn d_M_count_3 g1 (by rw [c5]; decide) (by rw [c5]; rfl) (tgt := 149) rfl ?_
    refine s_aload_n 1 d_M_count_149 rfl rfl ?_
    refine s_getF (v := 47) d_M_count_150 fl_M_26 rfl (sf_42 hF) (ff_32 hF) ?_
    refine s_iconst d_M_count_153 ?_
    refine s_ialoadv (v := σ.1 47 1) d_M_count_154 ⟨_, sf_47 hF, by decide, by decide, by decide⟩ rfl ?_
    exact s_ireturn d_M_count_155 rfl h
  by_cases c6 : x1 = 6
  · have h := h.2.2.2.2.2.2.1 c6
    refine s_tableIn d_M_count_3 g1 (by rw [c6]; decide) (by rw [c6]; rfl) (tgt := 156) rfl ?_
    refine s_aload_n 1 d_M_count_156 rfl rfl ?_
    refine s_getF (v := σ.1 42 8) d_M_count_157 fl_M_171 rfl (sf_42 hF) rfl ?_
    exact s_ireturn d_M_count_160 rfl h
  by_cases c7 : x1 = 7
  · have h := h.2.2.2.2.2.2.2.1 c7
    refine s_tableIn d_M_count_3 g1 (by rw [c7]; decide) (by rw [c7]; rfl) (tgt := 161) rfl ?_
    refine s_aload_n 1 d_M_count_161 rfl rfl ?_
    refine s_getF (v := σ.1 42 47) d_M_count_162 fl_M_418 rfl (sf_42 hF) rfl ?_
    exact s_ireturn d_M_count_165 rfl h
  by_cases c8 : x1 = 8
  · have h := h.2.2.2.2.2.2.2.2.1 c8
    refine s_tableIn d_M_count_3 g1 (by rw [c8]; decide) (by rw [c8]; rfl) (tgt := 166) rfl ?_
    refine s_iconst d_M_count_166 ?_
    refine s_istore_n d_M_count_167 rfl (by decide) rfl ?_
    refine wp_drop [2, 1, 0] rfl ?_
    exact h
  have c : ¬ (0 ≤ x1 ∧ x1 ≤ 8) := by omega
  have h := h.2.2.2.2.2.2.2.2.2 c
  refine s_tableOut d_M_count_3 g1 c (tgt := 194) rfl ?_
  refine s_iconst d_M_count_194 ?_
  exact s_ireturn d_M_count_195 rfl h
theorem e_M_count {E : EV} {d : Nat} {Q : Option AV → St → Prop} {σ : St} (x1 : Int) (hF : Fix σ) (h : (rI x1) ∧ ((x1 = 0 → Q (some (aI (σ.1 47 2))) σ) ∧ (x1 = 1 → WP E m_M_count (d + 1) 61 [(0, aP 42), (2, aI 0), (3, aI 0)] [] σ Q) ∧ (x1 = 2 → WP E m_M_count (d + 1) 89 [(0, aP 42), (2, aI 0), (3, aI 0)] [] σ Q) ∧ (x1 = 3 → WP E m_M_count (d + 1) 117 [(0, aP 42), (2, aI 0), (3, aI 0)] [] σ Q) ∧ (x1 = 4 → Q (some (aI (σ.1 47 0))) σ) ∧ (x1 = 5 → Q (some (aI (σ.1 47 1))) σ) ∧ (x1 = 6 → Q (some (aI (σ.1 42 8))) σ) ∧ (x1 = 7 → Q (some (aI (σ.1 42 47))) σ) ∧ (x1 = 8 → WP E m_M_count (d + 1) 168 [(0, aP 42), (2, aI 0), (3, aI 0)] [] σ Q) ∧ (¬ (0 ≤ x1 ∧ x1 ≤ 8) → Q (some (aI (-1))) σ))) : WM E m_M_count (d + 1) [aP 42, aI x1] σ Q := s_meth (by decide) (Nat.le_of_ble_eq_true rfl) rfl (b_M_count_0 x1 hF h)
theorem b_M_count_61 {E : EV} {d : Nat} {Q : Option AV → St → Prop} {σ : St} (x2 x3 : Int) (hF : Fix σ) (h : (rI x3) ∧ (rI (σ.1 47 2)) ∧ (((σ.1 47 2) ≤ x3 → Q (some (aI x2)) σ) ∧ (¬ (σ.1 47 2) ≤ x3 → (WMi E m_M_squaresOf d [aP 42, aI x3] σ (fun v3 σ3 => WP E m_M_count (d + 1) 61 [(0, aP 42), (2, aI (x2 + v3)), (3, aI (x3 + 1))] [] σ3 Q))))) : WP E m_M_count (d + 1) 61 [(0, aP 42), (2, aI x2), (3, aI x3)] [] σ Q := by
  refine s_iload_n 2 d_M_count_61 rfl rfl ?_
  refine s_aload_n 0 d_M_count_62 rfl rfl ?_
  refine s_getF (v := 47) d_M_count_63 fl_M_26 rfl (sf_42 hF) (ff_32 hF) ?_
  refine s_iconst d_M_count_66 ?_
  refine s_ialoadv (v := σ.1 47 2) d_M_count_67 ⟨_, sf_47 hF, by decide, by decide, by decide⟩ rfl ?_
  obtain ⟨g1, h⟩ := h
  obtain ⟨g2, h⟩ := h
  refine s_icmp_ge d_M_count_68 rfl g1 g2 (fun c => ?_) (fun c => ?_)
  · have h := h.1 c
    refine s_iload_n 1 d_M_count_85 rfl rfl ?_
    exact s_ireturn d_M_count_86 rfl h
  · have h := h.2 c
    refine s_iload_n 1 d_M_count_71 rfl rfl ?_
    refine s_aload_n 0 d_M_count_72 rfl rfl ?_
    refine s_iload_n 2 d_M_count_73 rfl rfl ?_
    refine s_callV (as := [aI x3]) (ci := 10) d_M_count_74 ok_M_squaresOf lk_M_178 io_M_squaresOf so_M_squaresOf (by decide) rfl rfl rfl (Nat.le_of_ble_eq_true rfl) rfl (sf_42 hF) (WM.mono h ?_)
    rintro _ σ3 ⟨v3, rfl, hp, h⟩
    show WP E m_M_count (d + 1) 77 [(0, aP 42), (2, aI x2), (3, aI x3)] [aI v3, aI x2] σ3 Q
    refine s_iadd d_M_count_77 ?_
    refine s_istore_n d_M_count_78 rfl (by decide) rfl ?_
    refine s_iinc 2 d_M_count_79 rfl (by decide) rfl ?_
    refine s_goto d_M_count_82 rfl ?_
    refine wp_drop [2, 1, 0] rfl ?_
    exact h
theorem b_M_count_89 {E : EV} {d : Nat} {Q : Option AV → St → Prop} {σ : St} (x2 x3 : Int) (hF : Fix σ) (h : (rI x3) ∧ (rI (σ.1 47 2)) ∧ (((σ.1 47 2) ≤ x3 → Q (some (aI x2)) σ) ∧ (¬ (σ.1 47 2) ≤ x3 → (WMi E m_M_signsOfLine d [aP 42, aI x3] σ (fun v3 σ3 => WP E m_M_count (d + 1) 89 [(0, aP 42), (2, aI (x2 + v3)), (3, aI (x3 + 1))] [] σ3 Q))))) : WP E m_M_count (d + 1) 89 [(0, aP 42), (2, aI x2), (3, aI x3)] [] σ Q := by
  refine s_iload_n 2 d_M_count_89 rfl rfl ?_
  refine s_aload_n 0 d_M_count_90 rfl rfl ?_
  refine s_getF (v := 47) d_M_count_91 fl_M_26 rfl (sf_42 hF) (ff_32 hF) ?_
  refine s_iconst d_M_count_94 ?_
  refine s_ialoadv (v := σ.1 47 2) d_M_count_95 ⟨_, sf_47 hF, by decide, by decide, by decide⟩ rfl ?_
  obtain ⟨g1, h⟩ := h
  obtain ⟨g2, h⟩ := h
  refine s_icmp_ge d_M_count_96 rfl g1 g2 (fun c => ?_) (fun c => ?_)
  · have h := h.1 c
    refine s_iload_n 1 d_M_count_113 rfl rfl ?_
    exact s_ireturn d_M_count_114 rfl h
  · have h := h.2 c
    refine s_iload_n 1 d_M_count_99 rfl rfl ?_
    refine s_aload_n 0 d_M_count_100 rfl rfl ?_
    refine s_iload_n 2 d_M_count_101 rfl rfl ?_
    refine s_callV (as := [aI x3]) (ci := 10) d_M_count_102 ok_M_signsOfLine lk_M_412 io_M_signsOfLine so_M_signsOfLine (by decide) rfl rfl rfl (Nat.le_of_ble_eq_true rfl) rfl (sf_42 hF) (WM.mono h ?_)
    rintro _ σ3 ⟨v3, rfl, hp, h⟩
    show WP E m_M_count (d + 1) 105 [(0, aP 42), (2, aI x2), (3, aI x3)] [aI v3, aI x2] σ3 Q
    refine s_iadd d_M_count_105 ?_
    refine s_istore_n d_M_count_106 rfl (by decide) rfl ?_
    refine s_iinc 2 d_M_count_107 rfl (by decide) rfl ?_
    refine s_goto d_M_count_110 rfl ?_
    refine wp_drop [2, 1, 0] rfl ?_
    exact h
theorem b_M_count_117 {E : EV} {d : Nat} {Q : Option AV → St → Prop} {σ : St} (x2 x3 : Int) (hF : Fix σ) (h : (rI x3) ∧ ((26 ≤ x3 → Q (some (aI x2)) σ) ∧ (¬ 26 ≤ x3 → (WMi E m_M_isTold d [aP 42, aI x3] σ (fun v2 σ2 => (rI v2) ∧ ((v2 = 0 → WP E m_M_count (d + 1) 134 [(0, aP 42), (2, aI x2), (3, aI x3)] [] σ2 Q) ∧ (¬ v2 = 0 → WP E m_M_count (d + 1) 134 [(0, aP 42), (2, aI (x2 + 1)), (3, aI x3)] [] σ2 Q))))))) : WP E m_M_count (d + 1) 117 [(0, aP 42), (2, aI x2), (3, aI x3)] [] σ Q := by
  refine s_iload_n 2 d_M_count_117 rfl rfl ?_
  refine s_bipush d_M_count_118 (by decide) ?_
  obtain ⟨g1, h⟩ := h
  refine s_icmp_ge d_M_count_120 rfl g1 (by decide) (fun c => ?_) (fun c => ?_)
  · have h := h.1 c
    refine s_iload_n 1 d_M_count_140 rfl rfl ?_
    exact s_ireturn d_M_count_141 rfl h
  · have h := h.2 c
    refine s_aload_n 0 d_M_count_123 rfl rfl ?_
    refine s_iload_n 2 d_M_count_124 rfl rfl ?_
    refine s_callV (as := [aI x3]) (ci := 10) d_M_count_125 ok_M_isTold lk_M_287 io_M_isTold so_M_isTold (by decide) rfl rfl rfl (Nat.le_of_ble_eq_true rfl) rfl (sf_42 hF) (WM.mono h ?_)
    rintro _ σ2 ⟨v2, rfl, hp, h⟩
    show WP E m_M_count (d + 1) 128 [(0, aP 42), (2, aI x2), (3, aI x3)] [aI v2] σ2 Q
    obtain ⟨g3, h⟩ := h
    refine s_if_eq d_M_count_128 rfl g3 (fun c => ?_) (fun c => ?_)
    · have h := h.1 c
      exact h
    · have h := h.2 c
      refine s_iinc 1 d_M_count_131 rfl (by decide) rfl ?_
      refine wp_drop [1, 0, 2] rfl ?_
      exact h
theorem b_M_count_134 {E : EV} {d : Nat} {Q : Option AV → St → Prop} {σ : St} (x2 x3 : Int) (h : WP E m_M_count (d + 1) 117 [(0, aP 42), (2, aI x2), (3, aI (x3 + 1))] [] σ Q) : WP E m_M_count (d + 1) 134 [(0, aP 42), (2, aI x2), (3, aI x3)] [] σ Q := by
  refine s_iinc 2 d_M_count_134 rfl (by decide) rfl ?_
  refine s_goto d_M_count_137 rfl ?_
  refine wp_drop [1, 2, 0] rfl ?_
  exact h
theorem b_M_count_168 {E : EV} {d : Nat} {Q : Option AV → St → Prop} {σ : St} (x2 x3 : Int) (hF : Fix σ) (h : (rI x3) ∧ ((26 ≤ x3 → Q (some (aI x2)) σ) ∧ (¬ 26 ≤ x3 → (0 ≤ x3 ∧ x3 < 26) ∧ (rI (σ.1 45 x3)) ∧ (((σ.1 45 x3) ≤ 0 → WP E m_M_count (d + 1) 186 [(0, aP 42), (2, aI x2), (3, aI x3)] [] σ Q) ∧ (¬ (σ.1 45 x3) ≤ 0 → WP E m_M_count (d + 1) 186 [(0, aP 42), (2, aI (x2 + 1)), (3, aI x3)] [] σ Q))))) : WP E m_M_count (d + 1) 168 [(0, aP 42), (2, aI x2), (3, aI x3)] [] σ Q := by
  refine s_iload_n 2 d_M_count_168 rfl rfl ?_
  refine s_bipush d_M_count_169 (by decide) ?_
  obtain ⟨g1, h⟩ := h
  refine s_icmp_ge d_M_count_171 rfl g1 (by decide) (fun c => ?_) (fun c => ?_)
  · have h := h.1 c
    refine s_iload_n 1 d_M_count_192 rfl rfl ?_
    exact s_ireturn d_M_count_193 rfl h
  · have h := h.2 c
    refine s_aload_n 0 d_M_count_174 rfl rfl ?_
    refine s_getF (v := 45) d_M_count_175 fl_M_20 rfl (sf_42 hF) (ff_30 hF) ?_
    refine s_iload_n 2 d_M_count_178 rfl rfl ?_
    obtain ⟨g2, h⟩ := h
    refine s_ialoadv (v := σ.1 45 x3) d_M_count_179 ⟨_, sf_45 hF, g2.1, g2.2, by have := g2.2; omega⟩ rfl ?_
    obtain ⟨g3, h⟩ := h
    refine s_if_le d_M_count_180 rfl g3 (fun c => ?_) (fun c => ?_)
    · have h := h.1 c
      exact h
    · have h := h.2 c
      refine s_iinc 1 d_M_count_183 rfl (by decide) rfl ?_
      refine wp_drop [1, 0, 2] rfl ?_
      exact h
theorem b_M_count_186 {E : EV} {d : Nat} {Q : Option AV → St → Prop} {σ : St} (x2 x3 : Int) (h : WP E m_M_count (d + 1) 168 [(0, aP 42), (2, aI x2), (3, aI (x3 + 1))] [] σ Q) : WP E m_M_count (d + 1) 186 [(0, aP 42), (2, aI x2), (3, aI x3)] [] σ Q := by
  refine s_iinc 2 d_M_count_186 rfl (by decide) rfl ?_
  refine s_goto d_M_count_189 rfl ?_
  refine wp_drop [1, 2, 0] rfl ?_
  exact h
