theorem d_Speller_init_0 : decode m_Speller_init.2.1 0 = .ok (.aload_n 0, 1) := by decide +kernel
theorem d_Speller_init_1 : decode m_Speller_init.2.1 1 = .ok (.invokespecial 3, 3) := by decide +kernel
theorem d_Speller_init_4 : decode m_Speller_init.2.1 4 = .ok (.return_, 1) := by decide +kernel
theorem b_Speller_init_0 {E : EV} {d : Nat} {Q : Option AV → St → Prop} {σ : St} (h : Q none σ) : WP E m_Speller_init (d + 1) 0 [(0, aP 31)] [] σ Q := by
  refine s_aload_n 0 d_Speller_init_0 rfl rfl ?_
  refine s_objInit d_Speller_init_1 lo_Speller_3 lo_inst lo_code (by decide) (Nat.le_of_ble_eq_true rfl) ?_
  exact s_return d_Speller_init_4 rfl h
theorem e_Speller_init {E : EV} {d : Nat} {Q : Option AV → St → Prop} {σ : St} (h : Q none σ) : WM E m_Speller_init (d + 1) [aP 31] σ Q := s_meth (by decide) (Nat.le_of_ble_eq_true rfl) rfl (b_Speller_init_0 h)
theorem d_Speller_begin_0 : decode m_Speller_begin.2.1 0 = .ok (.aload_n 0, 1) := by decide +kernel
theorem d_Speller_begin_1 : decode m_Speller_begin.2.1 1 = .ok (.iload_n 1, 1) := by decide +kernel
theorem d_Speller_begin_2 : decode m_Speller_begin.2.1 2 = .ok (.putfield 9, 3) := by decide +kernel
theorem d_Speller_begin_5 : decode m_Speller_begin.2.1 5 = .ok (.aload_n 0, 1) := by decide +kernel
theorem d_Speller_begin_6 : decode m_Speller_begin.2.1 6 = .ok (.iconst (-1), 1) := by decide +kernel
theorem d_Speller_begin_7 : decode m_Speller_begin.2.1 7 = .ok (.putfield 15, 3) := by decide +kernel
theorem d_Speller_begin_10 : decode m_Speller_begin.2.1 10 = .ok (.aload_n 0, 1) := by decide +kernel
theorem d_Speller_begin_11 : decode m_Speller_begin.2.1 11 = .ok (.iconst 0, 1) := by decide +kernel
theorem d_Speller_begin_12 : decode m_Speller_begin.2.1 12 = .ok (.putfield 18, 3) := by decide +kernel
theorem d_Speller_begin_15 : decode m_Speller_begin.2.1 15 = .ok (.aload_n 0, 1) := by decide +kernel
theorem d_Speller_begin_16 : decode m_Speller_begin.2.1 16 = .ok (.iconst 0, 1) := by decide +kernel
theorem d_Speller_begin_17 : decode m_Speller_begin.2.1 17 = .ok (.putfield 21, 3) := by decide +kernel
theorem d_Speller_begin_20 : decode m_Speller_begin.2.1 20 = .ok (.aload_n 0, 1) := by decide +kernel
theorem d_Speller_begin_21 : decode m_Speller_begin.2.1 21 = .ok (.iconst 0, 1) := by decide +kernel
theorem d_Speller_begin_22 : decode m_Speller_begin.2.1 22 = .ok (.putfield 25, 3) := by decide +kernel
theorem d_Speller_begin_25 : decode m_Speller_begin.2.1 25 = .ok (.aload_n 0, 1) := by decide +kernel
theorem d_Speller_begin_26 : decode m_Speller_begin.2.1 26 = .ok (.iconst 0, 1) := by decide +kernel
theorem d_Speller_begin_27 : decode m_Speller_begin.2.1 27 = .ok (.putfield 28, 3) := by decide +kernel
theorem d_Speller_begin_30 : decode m_Speller_begin.2.1 30 = .ok (.aload_n 0, 1) := by decide +kernel
theorem d_Speller_begin_31 : decode m_Speller_begin.2.1 31 = .ok (.iconst 0, 1) := by decide +kernel
theorem d_Speller_begin_32 : decode m_Speller_begin.2.1 32 = .ok (.putfield 31, 3) := by decide +kernel
theorem d_Speller_begin_35 : decode m_Speller_begin.2.1 35 = .ok (.aload_n 0, 1) := by decide +kernel
theorem d_Speller_begin_36 : decode m_Speller_begin.2.1 36 = .ok (.iconst 0, 1) := by decide +kernel
theorem d_Speller_begin_37 : decode m_Speller_begin.2.1 37 = .ok (.putfield 34, 3) := by decide +kernel
theorem d_Speller_begin_40 : decode m_Speller_begin.2.1 40 = .ok (.aload_n 0, 1) := by decide +kernel
theorem d_Speller_begin_41 : decode m_Speller_begin.2.1 41 = .ok (.iconst 0, 1) := by decide +kernel
theorem d_Speller_begin_42 : decode m_Speller_begin.2.1 42 = .ok (.putfield 37, 3) := by decide +kernel
theorem d_Speller_begin_45 : decode m_Speller_begin.2.1 45 = .ok (.return_, 1) := by decide +kernel
theorem b_Speller_begin_0 {E : EV} {d : Nat} {Q : Option AV → St → Prop} {σ : St} (x1 : Int) (hF : Fix σ) (h : Q none (wr (wr (wr (wr (wr (wr (wr (wr (wr σ 31 0 x1) 31 1 (-1)) 31 2 0) 31 3 0) 31 4 0) 31 5 0) 31 6 0) 31 7 0) 31 8 0)) : WP E m_Speller_begin d 0 [(0, aP 31), (1, aI x1)] [] σ Q := by
  refine s_aload_n 0 d_Speller_begin_0 rfl rfl ?_
  refine s_iload_n 1 d_Speller_begin_1 rfl rfl ?_
  refine s_putf 0 rfl d_Speller_begin_2 fl_Speller_9 (fun C T h => by cases h; exact Or.inl rfl) rfl (Or.inl rfl) (fun h => nomatch h) (sf_31 hF) ?_
  refine s_aload_n 0 d_Speller_begin_5 rfl rfl ?_
  refine s_iconst d_Speller_begin_6 ?_
  refine s_putf 1 rfl d_Speller_begin_7 fl_Speller_15 (fun C T h => by cases h; exact Or.inl rfl) rfl (Or.inl rfl) (fun h => nomatch h) (sf_31 (hF.wf (a := 31) (k := 0) (by decide))) ?_
  refine s_aload_n 0 d_Speller_begin_10 rfl rfl ?_
  refine s_iconst d_Speller_begin_11 ?_
  refine s_putf 2 rfl d_Speller_begin_12 fl_Speller_18 (fun C T h => by cases h; exact Or.inl rfl) rfl (Or.inl rfl) (fun h => nomatch h) (sf_31 ((hF.wf (a := 31) (k := 0) (by decide)).wf (a := 31) (k := 1) (by decide))) ?_
  refine s_aload_n 0 d_Speller_begin_15 rfl rfl ?_
  refine s_iconst d_Speller_begin_16 ?_
  refine s_putf 3 rfl d_Speller_begin_17 fl_Speller_21 (fun C T h => by cases h; exact Or.inl rfl) rfl (Or.inr (Or.inr (Or.inl rfl))) (fun _ => by decide) (sf_31 (((hF.wf (a := 31) (k := 0) (by decide)).wf (a := 31) (k := 1) (by decide)).wf (a := 31) (k := 2) (by decide))) ?_
  refine s_aload_n 0 d_Speller_begin_20 rfl rfl ?_
  refine s_iconst d_Speller_begin_21 ?_
  refine s_putf 4 rfl d_Speller_begin_22 fl_Speller_25 (fun C T h => by cases h; exact Or.inl rfl) rfl (Or.inl rfl) (fun h => nomatch h) (sf_31 ((((hF.wf (a := 31) (k := 0) (by decide)).wf (a := 31) (k := 1) (by decide)).wf (a := 31) (k := 2) (by decide)).wf (a := 31) (k := 3) (by decide))) ?_
  refine s_aload_n 0 d_Speller_begin_25 rfl rfl ?_
  refine s_iconst d_Speller_begin_26 ?_
  refine s_putf 5 rfl d_Speller_begin_27 fl_Speller_28 (fun C T h => by cases h; exact Or.inl rfl) rfl (Or.inl rfl) (fun h => nomatch h) (sf_31 (((((hF.wf (a := 31) (k := 0) (by decide)).wf (a := 31) (k := 1) (by decide)).wf (a := 31) (k := 2) (by decide)).wf (a := 31) (k := 3) (by decide)).wf (a := 31) (k := 4) (by decide))) ?_
  refine s_aload_n 0 d_Speller_begin_30 rfl rfl ?_
  refine s_iconst d_Speller_begin_31 ?_
  refine s_putf 6 rfl d_Speller_begin_32 fl_Speller_31 (fun C T h => by cases h; exact Or.inl rfl) rfl (Or.inl rfl) (fun h => nomatch h) (sf_31 ((((((hF.wf (a := 31) (k := 0) (by decide)).wf (a := 31) (k := 1) (by decide)).wf (a := 31) (k := 2) (by decide)).wf (a := 31) (k := 3) (by decide)).wf (a := 31) (k := 4) (by decide)).wf (a := 31) (k := 5) (by decide))) ?_
  refine s_aload_n 0 d_Speller_begin_35 rfl rfl ?_
  refine s_iconst d_Speller_begin_36 ?_
  refine s_putf 7 rfl d_Speller_begin_37 fl_Speller_34 (fun C T h => by cases h; exact Or.inl rfl) rfl (Or.inl rfl) (fun h => nomatch h) (sf_31 (((((((hF.wf (a := 31) (k := 0) (by decide)).wf (a := 31) (k := 1) (by decide)).wf (a := 31) (k := 2) (by decide)).wf (a := 31) (k := 3) (by decide)).wf (a := 31) (k := 4) (by decide)).wf (a := 31) (k := 5) (by decide)).wf (a := 31) (k := 6) (by decide))) ?_
  refine s_aload_n 0 d_Speller_begin_40 rfl rfl ?_
  refine s_iconst d_Speller_begin_41 ?_
  refine s_putf 8 rfl d_Speller_begin_42 fl_Speller_37 (fun C T h => by cases h; exact Or.inl rfl) rfl (Or.inl rfl) (fun h => nomatch h) (sf_31 ((((((((hF.wf (a := 31) (k := 0) (by decide)).wf (a := 31) (k := 1) (by decide)).wf (a := 31) (k := 2) (by decide)).wf (a := 31) (k := 3) (by decide)).wf (a := 31) (k := 4) (by decide)).wf (a := 31) (k := 5) (by decide)).wf (a := 31) (k := 6) (by decide)).wf (a := 31) (k := 7) (by decide))) ?_
  exact s_return d_Speller_begin_45 rfl h
theorem e_Speller_begin {E : EV} {d : Nat} {Q : Option AV → St → Prop} {σ : St} (x1 : Int) (hF : Fix σ) (h : Q none (wr (wr (wr (wr (wr (wr (wr (wr (wr σ 31 0 x1) 31 1 (-1)) 31 2 0) 31 3 0) 31 4 0) 31 5 0) 31 6 0) 31 7 0) 31 8 0)) : WM E m_Speller_begin d [aP 31, aI x1] σ Q := s_meth (by decide) (Nat.le_of_ble_eq_true rfl) rfl (b_Speller_begin_0 x1 hF h)
theorem d_Speller_writePart_0 : decode m_Speller_writePart.2.1 0 = .ok (.aload_n 1, 1) := by decide +kernel
theorem d_Speller_writePart_1 : decode m_Speller_writePart.2.1 1 = .ok (.ifnull 15, 3) := by decide +kernel
theorem d_Speller_writePart_4 : decode m_Speller_writePart.2.1 4 = .ok (.iload_n 2, 1) := by decide +kernel
theorem d_Speller_writePart_5 : decode m_Speller_writePart.2.1 5 = .ok (.ifCond .lt 11, 3) := by decide +kernel
theorem d_Speller_writePart_8 : decode m_Speller_writePart.2.1 8 = .ok (.iload_n 2, 1) := by decide +kernel
theorem d_Speller_writePart_9 : decode m_Speller_writePart.2.1 9 = .ok (.aload_n 1, 1) := by decide +kernel
theorem d_Speller_writePart_10 : decode m_Speller_writePart.2.1 10 = .ok (.invokevirtual 125, 3) := by decide +kernel
theorem d_Speller_writePart_13 : decode m_Speller_writePart.2.1 13 = .ok (.if_icmp .lt 6, 3) := by decide +kernel
theorem d_Speller_writePart_16 : decode m_Speller_writePart.2.1 16 = .ok (.bipush 24, 2) := by decide +kernel
theorem d_Speller_writePart_18 : decode m_Speller_writePart.2.1 18 = .ok (.ireturn, 1) := by decide +kernel
theorem d_Speller_writePart_19 : decode m_Speller_writePart.2.1 19 = .ok (.aload_n 1, 1) := by decide +kernel
theorem d_Speller_writePart_20 : decode m_Speller_writePart.2.1 20 = .ok (.iload_n 2, 1) := by decide +kernel
theorem d_Speller_writePart_21 : decode m_Speller_writePart.2.1 21 = .ok (.invokevirtual 129, 3) := by decide +kernel
theorem d_Speller_writePart_24 : decode m_Speller_writePart.2.1 24 = .ok (.istore 4, 2) := by decide +kernel
theorem d_Speller_writePart_26 : decode m_Speller_writePart.2.1 26 = .ok (.iload 4, 2) := by decide +kernel
theorem d_Speller_writePart_28 : decode m_Speller_writePart.2.1 28 = .ok (.invokestatic 132, 3) := by decide +kernel
theorem d_Speller_writePart_31 : decode m_Speller_writePart.2.1 31 = .ok (.ifCond .ne 10, 3) := by decide +kernel
theorem d_Speller_writePart_34 : decode m_Speller_writePart.2.1 34 = .ok (.aload_n 0, 1) := by decide +kernel
theorem d_Speller_writePart_35 : decode m_Speller_writePart.2.1 35 = .ok (.aload_n 1, 1) := by decide +kernel
theorem d_Speller_writePart_36 : decode m_Speller_writePart.2.1 36 = .ok (.iload_n 2, 1) := by decide +kernel
theorem d_Speller_writePart_37 : decode m_Speller_writePart.2.1 37 = .ok (.invokevirtual 135, 3) := by decide +kernel
theorem d_Speller_writePart_40 : decode m_Speller_writePart.2.1 40 = .ok (.ireturn, 1) := by decide +kernel
theorem d_Speller_writePart_41 : decode m_Speller_writePart.2.1 41 = .ok (.iload 4, 2) := by decide +kernel
theorem d_Speller_writePart_43 : decode m_Speller_writePart.2.1 43 = .ok (.bipush 65, 2) := by decide +kernel
theorem d_Speller_writePart_45 : decode m_Speller_writePart.2.1 45 = .ok (.if_icmp .ne 13, 3) := by decide +kernel
theorem d_Speller_writePart_48 : decode m_Speller_writePart.2.1 48 = .ok (.iload_n 3, 1) := by decide +kernel
theorem d_Speller_writePart_49 : decode m_Speller_writePart.2.1 49 = .ok (.bipush 64, 2) := by decide +kernel
theorem d_Speller_writePart_51 : decode m_Speller_writePart.2.1 51 = .ok (.if_icmp .ne 7, 3) := by decide +kernel
theorem d_Speller_writePart_54 : decode m_Speller_writePart.2.1 54 = .ok (.iconst 1, 1) := by decide +kernel
theorem d_Speller_writePart_55 : decode m_Speller_writePart.2.1 55 = .ok (.goto 4, 3) := by decide +kernel
theorem d_Speller_writePart_58 : decode m_Speller_writePart.2.1 58 = .ok (.iconst 0, 1) := by decide +kernel
theorem d_Speller_writePart_59 : decode m_Speller_writePart.2.1 59 = .ok (.istore 5, 2) := by decide +kernel
theorem d_Speller_writePart_61 : decode m_Speller_writePart.2.1 61 = .ok (.iload 5, 2) := by decide +kernel
theorem d_Speller_writePart_63 : decode m_Speller_writePart.2.1 63 = .ok (.ifCond .eq 19, 3) := by decide +kernel
theorem d_Speller_writePart_66 : decode m_Speller_writePart.2.1 66 = .ok (.aload_n 0, 1) := by decide +kernel
theorem d_Speller_writePart_67 : decode m_Speller_writePart.2.1 67 = .ok (.dup, 1) := by decide +kernel
theorem d_Speller_writePart_68 : decode m_Speller_writePart.2.1 68 = .ok (.getfield 25, 3) := by decide +kernel
theorem d_Speller_writePart_71 : decode m_Speller_writePart.2.1 71 = .ok (.iconst 1, 1) := by decide +kernel
theorem d_Speller_writePart_72 : decode m_Speller_writePart.2.1 72 = .ok (.iadd, 1) := by decide +kernel
theorem d_Speller_writePart_73 : decode m_Speller_writePart.2.1 73 = .ok (.putfield 25, 3) := by decide +kernel
theorem d_Speller_writePart_76 : decode m_Speller_writePart.2.1 76 = .ok (.aload_n 0, 1) := by decide +kernel
theorem d_Speller_writePart_77 : decode m_Speller_writePart.2.1 77 = .ok (.bipush 40, 2) := by decide +kernel
theorem d_Speller_writePart_79 : decode m_Speller_writePart.2.1 79 = .ok (.invokevirtual 139, 3) := by decide +kernel
theorem d_Speller_writePart_82 : decode m_Speller_writePart.2.1 82 = .ok (.aload_n 0, 1) := by decide +kernel
theorem d_Speller_writePart_83 : decode m_Speller_writePart.2.1 83 = .ok (.aload_n 1, 1) := by decide +kernel
theorem d_Speller_writePart_84 : decode m_Speller_writePart.2.1 84 = .ok (.iload_n 2, 1) := by decide +kernel
theorem d_Speller_writePart_85 : decode m_Speller_writePart.2.1 85 = .ok (.iconst 1, 1) := by decide +kernel
theorem d_Speller_writePart_86 : decode m_Speller_writePart.2.1 86 = .ok (.iadd, 1) := by decide +kernel
theorem d_Speller_writePart_87 : decode m_Speller_writePart.2.1 87 = .ok (.iload 4, 2) := by decide +kernel
theorem d_Speller_writePart_89 : decode m_Speller_writePart.2.1 89 = .ok (.invokevirtual 121, 3) := by decide +kernel
theorem d_Speller_writePart_92 : decode m_Speller_writePart.2.1 92 = .ok (.istore 6, 2) := by decide +kernel
theorem d_Speller_writePart_94 : decode m_Speller_writePart.2.1 94 = .ok (.aload_n 0, 1) := by decide +kernel
theorem d_Speller_writePart_95 : decode m_Speller_writePart.2.1 95 = .ok (.iload 4, 2) := by decide +kernel
theorem d_Speller_writePart_97 : decode m_Speller_writePart.2.1 97 = .ok (.bipush 65, 2) := by decide +kernel
theorem d_Speller_writePart_99 : decode m_Speller_writePart.2.1 99 = .ok (.if_icmp .ne 8, 3) := by decide +kernel
theorem d_Speller_writePart_102 : decode m_Speller_writePart.2.1 102 = .ok (.bipush 58, 2) := by decide +kernel
theorem d_Speller_writePart_104 : decode m_Speller_writePart.2.1 104 = .ok (.goto 5, 3) := by decide +kernel
theorem d_Speller_writePart_107 : decode m_Speller_writePart.2.1 107 = .ok (.bipush 42, 2) := by decide +kernel
theorem d_Speller_writePart_109 : decode m_Speller_writePart.2.1 109 = .ok (.invokevirtual 54, 3) := by decide +kernel
theorem d_Speller_writePart_112 : decode m_Speller_writePart.2.1 112 = .ok (.aload_n 0, 1) := by decide +kernel
theorem d_Speller_writePart_113 : decode m_Speller_writePart.2.1 113 = .ok (.aload_n 1, 1) := by decide +kernel
theorem d_Speller_writePart_114 : decode m_Speller_writePart.2.1 114 = .ok (.iload 6, 2) := by decide +kernel
theorem d_Speller_writePart_116 : decode m_Speller_writePart.2.1 116 = .ok (.iload 4, 2) := by decide +kernel
theorem d_Speller_writePart_118 : decode m_Speller_writePart.2.1 118 = .ok (.invokevirtual 121, 3) := by decide +kernel
theorem d_Speller_writePart_121 : decode m_Speller_writePart.2.1 121 = .ok (.istore 7, 2) := by decide +kernel
theorem d_Speller_writePart_123 : decode m_Speller_writePart.2.1 123 = .ok (.iload 5, 2) := by decide +kernel
theorem d_Speller_writePart_125 : decode m_Speller_writePart.2.1 125 = .ok (.ifCond .eq 9, 3) := by decide +kernel
theorem d_Speller_writePart_128 : decode m_Speller_writePart.2.1 128 = .ok (.aload_n 0, 1) := by decide +kernel
theorem d_Speller_writePart_129 : decode m_Speller_writePart.2.1 129 = .ok (.bipush 41, 2) := by decide +kernel
theorem d_Speller_writePart_131 : decode m_Speller_writePart.2.1 131 = .ok (.invokevirtual 142, 3) := by decide +kernel
theorem d_Speller_writePart_134 : decode m_Speller_writePart.2.1 134 = .ok (.iload 7, 2) := by decide +kernel
theorem d_Speller_writePart_136 : decode m_Speller_writePart.2.1 136 = .ok (.ireturn, 1) := by decide +kernel
theorem b_Speller_writePart_0 {E : EV} {d : Nat} {Q : Option AV → St → Prop} {σ : St} (x1 x2 x3 : Int) (hF : Fix σ) (h : ((x1 = 0 → Q (some (aI 24)) σ) ∧ (¬ x1 = 0 → (rI x2) ∧ ((x2 < 0 → Q (some (aI 24)) σ) ∧ (¬ x2 < 0 → (sh σ x1 = some (7, 1)) ∧ (WMi E m_Sq_length d [aP x1] σ (fun v2 σ2 => Fix σ2 ∧ (rI x2) ∧ (rI v2) ∧ ((x2 < v2 → (sh σ2 x1 = some (7, 1)) ∧ (WMi E m_Sq_symbol d [aP x1, aI x2] σ2 (fun v6 σ6 => Fix σ6 ∧ (WMi E m_S_isJoint d [aI v6] σ6 (fun v8 σ8 => Fix σ8 ∧ (rI v8) ∧ ((¬ v8 = 0 → (rI v6) ∧ ((¬ v6 = 65 → WP E m_Speller_writePart (d + 1) 58 [(0, aP 31), (1, aP x1), (2, aI x2), (4, aI v6)] [] σ8 Q) ∧ (v6 = 65 → (rI x3) ∧ ((¬ x3 = 64 → WP E m_Speller_writePart (d + 1) 58 [(0, aP 31), (1, aP x1), (2, aI x2), (4, aI v6)] [] σ8 Q) ∧ (x3 = 64 → WP E m_Speller_writePart (d + 1) 59 [(0, aP 31), (1, aP x1), (2, aI x2), (4, aI v6)] [aI 1] σ8 Q))))) ∧ (v8 = 0 → (WMi E m_Speller_writeSign d [aP 31, aP x1, aI x2] σ8 (fun v12 σ12 => Q (some (aI v12)) σ12))))))))) ∧ (¬ x2 < v2 → Q (some (aI 24)) σ2))))))))) : WP E m_Speller_writePart (d + 1) 0 [(0, aP 31), (1, aP x1), (2, aI x2), (3, aI x3)] [] σ Q := by
  refine s_aload_n 1 d_Speller_writePart_0 rfl rfl ?_
  refine s_ifnull d_Speller_writePart_1 rfl (fun c => ?_) (fun c => ?_)
  · have h := h.1 c
    refine s_bipush d_Speller_writePart_16 (by decide) ?_
    exact s_ireturn d_Speller_writePart_18 rfl h
  · have h := h.2 c
    refine s_iload_n 2 d_Speller_writePart_4 rfl rfl ?_
    obtain ⟨g1, h⟩ := h
    refine s_if_lt d_Speller_writePart_5 rfl g1 (fun c => ?_) (fun c => ?_)
    · have h := h.1 c
      refine s_bipush d_Speller_writePart_16 (by decide) ?_
      exact s_ireturn d_Speller_writePart_18 rfl h
    · have h := h.2 c
      refine s_iload_n 2 d_Speller_writePart_8 rfl rfl ?_
      refine s_aload_n 1 d_Speller_writePart_9 rfl rfl ?_
      obtain ⟨g3, h⟩ := h
      refine s_callV (as := []) (ci := 7) d_Speller_writePart_10 ok_Sq_length lk_Speller_125 io_Sq_length so_Sq_length (by decide) rfl rfl rfl (Nat.le_of_ble_eq_true rfl) rfl g3 (WM.mono h ?_)
      rintro _ σ2 ⟨v2, rfl, hp, h⟩
      obtain ⟨hF3, h⟩ := h
      show WP E m_Speller_writePart (d + 1) 13 [(0, aP 31), (1, aP x1), (2, aI x2), (3, aI x3)] [aI v2, aI x2] σ2 Q
      obtain ⟨g4, h⟩ := h
      obtain ⟨g5, h⟩ := h
      refine s_icmp_lt d_Speller_writePart_13 rfl g4 g5 (fun c => ?_) (fun c => ?_)
      · have h := h.1 c
        refine s_aload_n 1 d_Speller_writePart_19 rfl rfl ?_
        refine s_iload_n 2 d_Speller_writePart_20 rfl rfl ?_
        obtain ⟨g7, h⟩ := h
        refine s_callV (as := [aI x2]) (ci := 7) d_Speller_writePart_21 ok_Sq_symbol lk_Speller_129 io_Sq_symbol so_Sq_symbol (by decide) rfl rfl rfl (Nat.le_of_ble_eq_true rfl) rfl g7 (WM.mono h ?_)
        rintro _ σ6 ⟨v6, rfl, hp, h⟩
        obtain ⟨hF7, h⟩ := h
        show WP E m_Speller_writePart (d + 1) 24 [(0, aP 31), (1, aP x1), (2, aI x2), (3, aI x3)] [aI v6] σ6 Q
        refine s_istore d_Speller_writePart_24 (by decide) rfl ?_
        refine s_iload 0 d_Speller_writePart_26 rfl ?_
        refine s_callS (as := [aI v6]) d_Speller_writePart_28 ok_S_isJoint lk_Speller_132 to_S_isJoint rfl (Nat.le_of_ble_eq_true rfl) rfl (WM.mono h ?_)
        rintro _ σ8 ⟨v8, rfl, hp, h⟩
        obtain ⟨hF8, h⟩ := h
        show WP E m_Speller_writePart (d + 1) 31 [(4, aI v6), (0, aP 31), (1, aP x1), (2, aI x2), (3, aI x3)] [aI v8] σ8 Q
        obtain ⟨g9, h⟩ := h
        refine s_if_ne d_Speller_writePart_31 rfl g9 (fun c => ?_) (fun c => ?_)
        · have h := h.1 c
          refine s_iload 0 d_Speller_writePart_41 rfl ?_
          refine s_bipush d_Speller_writePart_43 (by decide) ?_
          obtain ⟨g10, h⟩ := h
          refine s_icmp_ne d_Speller_writePart_45 rfl g10 (by decide) (fun c => ?_) (fun c => ?_)
          · have h := h.1 c
            refine wp_drop [1, 2, 3, 0] rfl ?_
            exact h
          · have h := h.2 c
            refine s_iload_n 4 d_Speller_writePart_48 rfl rfl ?_
            refine s_bipush d_Speller_writePart_49 (by decide) ?_
            obtain ⟨g11, h⟩ := h
            refine s_icmp_ne d_Speller_writePart_51 rfl g11 (by decide) (fun c => ?_) (fun c => ?_)
            · have h := h.1 c
              refine wp_drop [1, 2, 3, 0] rfl ?_
              exact h
            · have h := h.2 c
              refine s_iconst d_Speller_writePart_54 ?_
              refine s_goto d_Speller_writePart_55 rfl ?_
              refine wp_drop [1, 2, 3, 0] rfl ?_
              exact h
        · have h := h.2 c
          refine s_aload_n 1 d_Speller_writePart_34 rfl rfl ?_
          refine s_aload_n 2 d_Speller_writePart_35 rfl rfl ?_
          refine s_iload_n 3 d_Speller_writePart_36 rfl rfl ?_
          refine s_callV (as := [aP x1, aI x2]) (ci := 6) d_Speller_writePart_37 ok_Speller_writeSign lk_Speller_135 io_Speller_writeSign so_Speller_writeSign (by decide) rfl rfl rfl (Nat.le_of_ble_eq_true rfl) rfl (sf_31 hF8) (WM.mono h ?_)
          rintro _ σ12 ⟨v12, rfl, hp, h⟩
          show WP E m_Speller_writePart (d + 1) 40 [(4, aI v6), (0, aP 31), (1, aP x1), (2, aI x2), (3, aI x3)] [aI v12] σ12 Q
          exact s_ireturn d_Speller_writePart_40 rfl h
      · have h := h.2 c
        refine s_bipush d_Speller_writePart_16 (by decide) ?_
        exact s_ireturn d_Speller_writePart_18 rfl h
theorem e_Speller_writePart {E : EV} {d : Nat} {Q : Option AV → St → Prop} {σ : St} (x1 x2 x3 : Int) (hF : Fix σ) (h : ((x1 = 0 → Q (some (aI 24)) σ) ∧ (¬ x1 = 0 → (rI x2) ∧ ((x2 < 0 → Q (some (aI 24)) σ) ∧ (¬ x2 < 0 → (sh σ x1 = some (7, 1)) ∧ (WMi E m_Sq_length d [aP x1] σ (fun v2 σ2 => Fix σ2 ∧ (rI x2) ∧ (rI v2) ∧ ((x2 < v2 → (sh σ2 x1 = some (7, 1)) ∧ (WMi E m_Sq_symbol d [aP x1, aI x2] σ2 (fun v6 σ6 => Fix σ6 ∧ (WMi E m_S_isJoint d [aI v6] σ6 (fun v8 σ8 => Fix σ8 ∧ (rI v8) ∧ ((¬ v8 = 0 → (rI v6) ∧ ((¬ v6 = 65 → WP E m_Speller_writePart (d + 1) 58 [(0, aP 31), (1, aP x1), (2, aI x2), (4, aI v6)] [] σ8 Q) ∧ (v6 = 65 → (rI x3) ∧ ((¬ x3 = 64 → WP E m_Speller_writePart (d + 1) 58 [(0, aP 31), (1, aP x1), (2, aI x2), (4, aI v6)] [] σ8 Q) ∧ (x3 = 64 → WP E m_Speller_writePart (d + 1) 59 [(0, aP 31), (1, aP x1), (2, aI x2), (4, aI v6)] [aI 1] σ8 Q))))) ∧ (v8 = 0 → (WMi E m_Speller_writeSign d [aP 31, aP x1, aI x2] σ8 (fun v12 σ12 => Q (some (aI v12)) σ12))))))))) ∧ (¬ x2 < v2 → Q (some (aI 24)) σ2))))))))) : WM E m_Speller_writePart (d + 1) [aP 31, aP x1, aI x2, aI x3] σ Q := s_meth (by decide) (Nat.le_of_ble_eq_true rfl) rfl (b_Speller_writePart_0 x1 x2 x3 hF h)
theorem b_Speller_writePart_58 {E : EV} {d : Nat} {Q : Option AV → St → Prop} {σ : St} (x1 x2 x4 : Int) (h : WP E m_Speller_writePart (d + 1) 59 [(0, aP 31), (1, aP x1), (2, aI x2), (4, aI x4)] [aI 0] σ Q) : WP E m_Speller_writePart (d + 1) 58 [(0, aP 31), (1, aP x1), (2, aI x2), (4, aI x4)] [] σ Q := by
  refine s_iconst d_Speller_writePart_58 ?_
  exact h
theorem b_Speller_writePart_59 {E : EV} {d : Nat} {Q : Option AV → St → Prop} {σ : St} (x1 x2 x4 s0 : Int) (hF : Fix σ) (h : (rI s0) ∧ ((s0 = 0 → WP E m_Speller_writePart (d + 1) 82 [(0, aP 31), (1, aP x1), (2, aI x2), (4, aI x4), (5, aI s0)] [] σ Q) ∧ (¬ s0 = 0 → (WMv E m_Speller_writeOpening d [aP 31, aI 40] (wr σ 31 4 ((σ.1 31 4) + 1)) (fun σ2 => WP E m_Speller_writePart (d + 1) 82 [(0, aP 31), (1, aP x1), (2, aI x2), (4, aI x4), (5, aI s0)] [] σ2 Q))))) : WP E m_Speller_writePart (d + 1) 59 [(0, aP 31), (1, aP x1), (2, aI x2), (4, aI x4)] [aI s0] σ Q := by
  refine s_istore d_Speller_writePart_59 (by decide) rfl ?_
  refine s_iload 0 d_Speller_writePart_61 rfl ?_
  obtain ⟨g1, h⟩ := h
  refine s_if_eq d_Speller_writePart_63 rfl g1 (fun c => ?_) (fun c => ?_)
  · have h := h.1 c
    refine wp_drop [1, 2, 3, 4, 0] rfl ?_
    exact h
  · have h := h.2 c
    refine s_aload_n 1 d_Speller_writePart_66 rfl rfl ?_
    refine s_dup d_Speller_writePart_67 (Nat.ne_of_beq_eq_false rfl) ?_
    refine s_getF (v := σ.1 31 4) d_Speller_writePart_68 fl_Speller_25 rfl (sf_31 hF) rfl ?_
    refine s_iconst d_Speller_writePart_71 ?_
    refine s_iadd d_Speller_writePart_72 ?_
    refine s_putf 4 rfl d_Speller_writePart_73 fl_Speller_25 (fun C T h => by cases h; exact Or.inl rfl) rfl (Or.inl rfl) (fun h => nomatch h) (sf_31 hF) ?_
    refine s_aload_n 1 d_Speller_writePart_76 rfl rfl ?_
    refine s_bipush d_Speller_writePart_77 (by decide) ?_
    refine s_callV (as := [aI 40]) (ci := 6) d_Speller_writePart_79 ok_Speller_writeOpening lk_Speller_139 io_Speller_writeOpening so_Speller_writeOpening (by decide) rfl rfl rfl (Nat.le_of_ble_eq_true rfl) rfl (sf_31 (hF.wf (a := 31) (k := 4) (by decide))) (WM.mono h ?_)
    rintro _ σ2 ⟨rfl, hp, h⟩
    show WP E m_Speller_writePart (d + 1) 82 [(5, aI s0), (0, aP 31), (1, aP x1), (2, aI x2), (4, aI x4)] [] σ2 Q
    refine wp_drop [1, 2, 3, 4, 0] rfl ?_
    exact h
theorem b_Speller_writePart_82 {E : EV} {d : Nat} {Q : Option AV → St → Prop} {σ : St} (x1 x2 x4 x5 : Int) (hF : Fix σ) (h : (WMi E m_Speller_writePart d [aP 31, aP x1, aI (x2 + 1), aI x4] σ (fun v1 σ1 => (rI x4) ∧ ((¬ x4 = 65 → WP E m_Speller_writePart (d + 1) 109 [(0, aP 31), (1, aP x1), (4, aI x4), (5, aI x5), (6, aI v1)] [aI 42, aP 31] σ1 Q) ∧ (x4 = 65 → WP E m_Speller_writePart (d + 1) 109 [(0, aP 31), (1, aP x1), (4, aI x4), (5, aI x5), (6, aI v1)] [aI 58, aP 31] σ1 Q))))) : WP E m_Speller_writePart (d + 1) 82 [(0, aP 31), (1, aP x1), (2, aI x2), (4, aI x4), (5, aI x5)] [] σ Q := by
  refine s_aload_n 0 d_Speller_writePart_82 rfl rfl ?_
  refine s_aload_n 1 d_Speller_writePart_83 rfl rfl ?_
  refine s_iload_n 2 d_Speller_writePart_84 rfl rfl ?_
  refine s_iconst d_Speller_writePart_85 ?_
  refine s_iadd d_Speller_writePart_86 ?_
  refine s_iload 3 d_Speller_writePart_87 rfl ?_
  refine s_callV (as := [aP x1, aI (x2 + 1), aI x4]) (ci := 6) d_Speller_writePart_89 ok_Speller_writePart lk_Speller_121 io_Speller_writePart so_Speller_writePart (by decide) rfl rfl rfl (Nat.le_of_ble_eq_true rfl) rfl (sf_31 hF) (WM.mono h ?_)
  rintro _ σ1 ⟨v1, rfl, hp, h⟩
  show WP E m_Speller_writePart (d + 1) 92 [(0, aP 31), (1, aP x1), (2, aI x2), (4, aI x4), (5, aI x5)] [aI v1] σ1 Q
  refine s_istore d_Speller_writePart_92 (by decide) rfl ?_
  refine s_aload_n 1 d_Speller_writePart_94 rfl rfl ?_
  refine s_iload 4 d_Speller_writePart_95 rfl ?_
  refine s_bipush d_Speller_writePart_97 (by decide) ?_
  obtain ⟨g2, h⟩ := h
  refine s_icmp_ne d_Speller_writePart_99 rfl g2 (by decide) (fun c => ?_) (fun c => ?_)
  · have h := h.1 c
    refine s_bipush d_Speller_writePart_107 (by decide) ?_
    refine wp_drop [1, 2, 4, 5, 0] rfl ?_
    exact h
  · have h := h.2 c
    refine s_bipush d_Speller_writePart_102 (by decide) ?_
    refine s_goto d_Speller_writePart_104 rfl ?_
    refine wp_drop [1, 2, 4, 5, 0] rfl ?_
    exact h
theorem b_Speller_writePart_109 {E : EV} {d : Nat} {Q : Option AV → St → Prop} {σ : St} (x1 x4 x5 x6 s0 s1 : Int) (hF : Fix σ) (h : (sh σ s0 = some (6, 9)) ∧ (WMv E m_Speller_writeMark d [aP s0, aI s1] σ (fun σ1 => Fix σ1 ∧ (WMi E m_Speller_writePart d [aP 31, aP x1, aI x6, aI x4] σ1 (fun v3 σ3 => Fix σ3 ∧ (rI x5) ∧ ((x5 = 0 → Q (some (aI v3)) σ3) ∧ (¬ x5 = 0 → (WMv E m_Speller_writeClosing d [aP 31, aI 41] σ3 (fun σ5 => Q (some (aI v3)) σ5))))))))) : WP E m_Speller_writePart (d + 1) 109 [(0, aP 31), (1, aP x1), (4, aI x4), (5, aI x5), (6, aI x6)] [aI s1, aP s0] σ Q := by
  obtain ⟨g2, h⟩ := h
  refine s_callV (as := [aI s1]) (ci := 6) d_Speller_writePart_109 ok_Speller_writeMark lk_Speller_54 io_Speller_writeMark so_Speller_writeMark (by decide) rfl rfl rfl (Nat.le_of_ble_eq_true rfl) rfl g2 (WM.mono h ?_)
  rintro _ σ1 ⟨rfl, hp, h⟩
  obtain ⟨hF2, h⟩ := h
  show WP E m_Speller_writePart (d + 1) 112 [(0, aP 31), (1, aP x1), (4, aI x4), (5, aI x5), (6, aI x6)] [] σ1 Q
  refine s_aload_n 0 d_Speller_writePart_112 rfl rfl ?_
  refine s_aload_n 1 d_Speller_writePart_113 rfl rfl ?_
  refine s_iload 4 d_Speller_writePart_114 rfl ?_
  refine s_iload 2 d_Speller_writePart_116 rfl ?_
  refine s_callV (as := [aP x1, aI x6, aI x4]) (ci := 6) d_Speller_writePart_118 ok_Speller_writePart lk_Speller_121 io_Speller_writePart so_Speller_writePart (by decide) rfl rfl rfl (Nat.le_of_ble_eq_true rfl) rfl (sf_31 hF2) (WM.mono h ?_)
  rintro _ σ3 ⟨v3, rfl, hp, h⟩
  obtain ⟨hF3, h⟩ := h
  show WP E m_Speller_writePart (d + 1) 121 [(0, aP 31), (1, aP x1), (4, aI x4), (5, aI x5), (6, aI x6)] [aI v3] σ3 Q
  refine s_istore d_Speller_writePart_121 (by decide) rfl ?_
  refine s_iload 4 d_Speller_writePart_123 rfl ?_
  obtain ⟨g4, h⟩ := h
  refine s_if_eq d_Speller_writePart_125 rfl g4 (fun c => ?_) (fun c => ?_)
  · have h := h.1 c
    refine s_iload 0 d_Speller_writePart_134 rfl ?_
    exact s_ireturn d_Speller_writePart_136 rfl h
  · have h := h.2 c
    refine s_aload_n 1 d_Speller_writePart_128 rfl rfl ?_
    refine s_bipush d_Speller_writePart_129 (by decide) ?_
    refine s_callV (as := [aI 41]) (ci := 6) d_Speller_writePart_131 ok_Speller_writeClosing lk_Speller_142 io_Speller_writeClosing so_Speller_writeClosing (by decide) rfl rfl rfl (Nat.le_of_ble_eq_true rfl) rfl (sf_31 hF3) (WM.mono h ?_)
    rintro _ σ5 ⟨rfl, hp, h⟩
    show WP E m_Speller_writePart (d + 1) 134 [(7, aI v3), (0, aP 31), (1, aP x1), (4, aI x4), (5, aI x5), (6, aI x6)] [] σ5 Q
    refine s_iload 0 d_Speller_writePart_134 rfl ?_
    exact s_ireturn d_Speller_writePart_136 rfl h
theorem d_Speller_writeSign_0 : decode m_Speller_writeSign.2.1 0 = .ok (.aload_n 1, 1) := by decide +kernel
theorem d_Speller_writeSign_1 : decode m_Speller_writeSign.2.1 1 = .ok (.iload_n 2, 1) := by decide +kernel
theorem d_Speller_writeSign_2 : decode m_Speller_writeSign.2.1 2 = .ok (.invokevirtual 129, 3) := by decide +kernel
theorem d_Speller_writeSign_5 : decode m_Speller_writeSign.2.1 5 = .ok (.istore_n 3, 1) := by decide +kernel
theorem d_Speller_writeSign_6 : decode m_Speller_writeSign.2.1 6 = .ok (.aload_n 0, 1) := by decide +kernel
theorem d_Speller_writeSign_7 : decode m_Speller_writeSign.2.1 7 = .ok (.iload_n 3, 1) := by decide +kernel
theorem d_Speller_writeSign_8 : decode m_Speller_writeSign.2.1 8 = .ok (.invokestatic 145, 3) := by decide +kernel
theorem d_Speller_writeSign_11 : decode m_Speller_writeSign.2.1 11 = .ok (.invokevirtual 85, 3) := by decide +kernel
theorem d_Speller_writeSign_14 : decode m_Speller_writeSign.2.1 14 = .ok (.iload_n 3, 1) := by decide +kernel
theorem d_Speller_writeSign_15 : decode m_Speller_writeSign.2.1 15 = .ok (.invokestatic 148, 3) := by decide +kernel
theorem d_Speller_writeSign_18 : decode m_Speller_writeSign.2.1 18 = .ok (.ifCond .ne 7, 3) := by decide +kernel
theorem d_Speller_writeSign_21 : decode m_Speller_writeSign.2.1 21 = .ok (.iload_n 2, 1) := by decide +kernel
theorem d_Speller_writeSign_22 : decode m_Speller_writeSign.2.1 22 = .ok (.iconst 1, 1) := by decide +kernel
theorem d_Speller_writeSign_23 : decode m_Speller_writeSign.2.1 23 = .ok (.iadd, 1) := by decide +kernel
theorem d_Speller_writeSign_24 : decode m_Speller_writeSign.2.1 24 = .ok (.ireturn, 1) := by decide +kernel
theorem d_Speller_writeSign_25 : decode m_Speller_writeSign.2.1 25 = .ok (.aload_n 0, 1) := by decide +kernel
theorem d_Speller_writeSign_26 : decode m_Speller_writeSign.2.1 26 = .ok (.dup, 1) := by decide +kernel
theorem d_Speller_writeSign_27 : decode m_Speller_writeSign.2.1 27 = .ok (.getfield 34, 3) := by decide +kernel
theorem d_Speller_writeSign_30 : decode m_Speller_writeSign.2.1 30 = .ok (.iconst 1, 1) := by decide +kernel
theorem d_Speller_writeSign_31 : decode m_Speller_writeSign.2.1 31 = .ok (.iadd, 1) := by decide +kernel
theorem d_Speller_writeSign_32 : decode m_Speller_writeSign.2.1 32 = .ok (.putfield 34, 3) := by decide +kernel
theorem d_Speller_writeSign_35 : decode m_Speller_writeSign.2.1 35 = .ok (.aload_n 0, 1) := by decide +kernel
theorem d_Speller_writeSign_36 : decode m_Speller_writeSign.2.1 36 = .ok (.aload_n 0, 1) := by decide +kernel
theorem d_Speller_writeSign_37 : decode m_Speller_writeSign.2.1 37 = .ok (.getfield 37, 3) := by decide +kernel
theorem d_Speller_writeSign_40 : decode m_Speller_writeSign.2.1 40 = .ok (.aload_n 0, 1) := by decide +kernel
theorem d_Speller_writeSign_41 : decode m_Speller_writeSign.2.1 41 = .ok (.getfield 34, 3) := by decide +kernel
theorem d_Speller_writeSign_44 : decode m_Speller_writeSign.2.1 44 = .ok (.invokestatic 151, 3) := by decide +kernel
theorem d_Speller_writeSign_47 : decode m_Speller_writeSign.2.1 47 = .ok (.putfield 37, 3) := by decide +kernel
theorem d_Speller_writeSign_50 : decode m_Speller_writeSign.2.1 50 = .ok (.aload_n 0, 1) := by decide +kernel
theorem d_Speller_writeSign_51 : decode m_Speller_writeSign.2.1 51 = .ok (.bipush 60, 2) := by decide +kernel
theorem d_Speller_writeSign_53 : decode m_Speller_writeSign.2.1 53 = .ok (.invokevirtual 139, 3) := by decide +kernel
theorem d_Speller_writeSign_56 : decode m_Speller_writeSign.2.1 56 = .ok (.aload_n 0, 1) := by decide +kernel
theorem d_Speller_writeSign_57 : decode m_Speller_writeSign.2.1 57 = .ok (.aload_n 1, 1) := by decide +kernel
theorem d_Speller_writeSign_58 : decode m_Speller_writeSign.2.1 58 = .ok (.iload_n 2, 1) := by decide +kernel
theorem d_Speller_writeSign_59 : decode m_Speller_writeSign.2.1 59 = .ok (.iconst 1, 1) := by decide +kernel
theorem d_Speller_writeSign_60 : decode m_Speller_writeSign.2.1 60 = .ok (.iadd, 1) := by decide +kernel
theorem d_Speller_writeSign_61 : decode m_Speller_writeSign.2.1 61 = .ok (.iconst (-1), 1) := by decide +kernel
theorem d_Speller_writeSign_62 : decode m_Speller_writeSign.2.1 62 = .ok (.invokevirtual 121, 3) := by decide +kernel
theorem d_Speller_writeSign_65 : decode m_Speller_writeSign.2.1 65 = .ok (.istore 4, 2) := by decide +kernel
theorem d_Speller_writeSign_67 : decode m_Speller_writeSign.2.1 67 = .ok (.aload_n 0, 1) := by decide +kernel
theorem d_Speller_writeSign_68 : decode m_Speller_writeSign.2.1 68 = .ok (.bipush 62, 2) := by decide +kernel
theorem d_Speller_writeSign_70 : decode m_Speller_writeSign.2.1 70 = .ok (.invokevirtual 142, 3) := by decide +kernel
theorem d_Speller_writeSign_73 : decode m_Speller_writeSign.2.1 73 = .ok (.aload_n 0, 1) := by decide +kernel
theorem d_Speller_writeSign_74 : decode m_Speller_writeSign.2.1 74 = .ok (.dup, 1) := by decide +kernel
theorem d_Speller_writeSign_75 : decode m_Speller_writeSign.2.1 75 = .ok (.getfield 34, 3) := by decide +kernel
theorem d_Speller_writeSign_78 : decode m_Speller_writeSign.2.1 78 = .ok (.iconst 1, 1) := by decide +kernel
theorem d_Speller_writeSign_79 : decode m_Speller_writeSign.2.1 79 = .ok (.isub, 1) := by decide +kernel
theorem d_Speller_writeSign_80 : decode m_Speller_writeSign.2.1 80 = .ok (.putfield 34, 3) := by decide +kernel
theorem d_Speller_writeSign_83 : decode m_Speller_writeSign.2.1 83 = .ok (.iload 4, 2) := by decide +kernel
theorem d_Speller_writeSign_85 : decode m_Speller_writeSign.2.1 85 = .ok (.ireturn, 1) := by decide +kernel
theorem b_Speller_writeSign_0 {E : EV} {d : Nat} {Q : Option AV → St → Prop} {σ : St} (x1 x2 : Int) (hF : Fix σ) (h : (sh σ x1 = some (7, 1)) ∧ (WMi E m_Sq_symbol d [aP x1, aI x2] σ (fun v1 σ1 => Fix σ1 ∧ (WMi E m_S_letterOf d [aI v1] σ1 (fun v3 σ3 => Fix σ3 ∧ (WMv E m_Speller_writeLetter d [aP 31, aI v3] σ3 (fun σ4 => Fix σ4 ∧ (WMi E m_S_holds d [aI v1] σ4 (fun v5 σ5 => Fix σ5 ∧ (rI v5) ∧ ((¬ v5 = 0 → (rI (σ5.1 31 8)) ∧ (rI ((σ5.1 31 7) + 1)) ∧ (WMv E m_Speller_writeOpening d [aP 31, aI 60] (wr (wr σ5 31 7 ((σ5.1 31 7) + 1)) 31 8 (max (σ5.1 31 8) ((σ5.1 31 7) + 1))) (fun σ9 => Fix σ9 ∧ (WMi E m_Speller_writePart d [aP 31, aP x1, aI (x2 + 1), aI (-1)] σ9 (fun v10 σ10 => Fix σ10 ∧ (WMv E m_Speller_writeClosing d [aP 31, aI 62] σ10 (fun σ11 => Fix σ11 ∧ Q (some (aI v10)) (wr σ11 31 7 ((σ11.1 31 7) - 1))))))))) ∧ (v5 = 0 → Q (some (aI (x2 + 1))) σ5))))))))))) : WP E m_Speller_writeSign (d + 1) 0 [(0, aP 31), (1, aP x1), (2, aI x2)] [] σ Q := by
  refine s_aload_n 1 d_Speller_writeSign_0 rfl rfl ?_
  refine s_iload_n 2 d_Speller_writeSign_1 rfl rfl ?_
  obtain ⟨g2, h⟩ := h
  refine s_callV (as := [aI x2]) (ci := 7) d_Speller_writeSign_2 ok_Sq_symbol lk_Speller_129 io_Sq_symbol so_Sq_symbol (by decide) rfl rfl rfl (Nat.le_of_ble_eq_true rfl) rfl g2 (WM.mono h ?_)
  rintro _ σ1 ⟨v1, rfl, hp, h⟩
  obtain ⟨hF2, h⟩ := h
  show WP E m_Speller_writeSign (d + 1) 5 [(0, aP 31), (1, aP x1), (2, aI x2)] [aI v1] σ1 Q
  refine s_istore_n d_Speller_writeSign_5 rfl (by decide) rfl ?_
  refine s_aload_n 1 d_Speller_writeSign_6 rfl rfl ?_
  refine s_iload_n 0 d_Speller_writeSign_7 rfl rfl ?_
  refine s_callS (as := [aI v1]) d_Speller_writeSign_8 ok_S_letterOf lk_Speller_145 to_S_letterOf rfl (Nat.le_of_ble_eq_true rfl) rfl (WM.mono h ?_)
  rintro _ σ3 ⟨v3, rfl, hp, h⟩
  obtain ⟨hF3, h⟩ := h
  show WP E m_Speller_writeSign (d + 1) 11 [(3, aI v1), (0, aP 31), (1, aP x1), (2, aI x2)] [aI v3, aP 31] σ3 Q
  refine s_callV (as := [aI v3]) (ci := 6) d_Speller_writeSign_11 ok_Speller_writeLetter lk_Speller_85 io_Speller_writeLetter so_Speller_writeLetter (by decide) rfl rfl rfl (Nat.le_of_ble_eq_true rfl) rfl (sf_31 hF3) (WM.mono h ?_)
  rintro _ σ4 ⟨rfl, hp, h⟩
  obtain ⟨hF4, h⟩ := h
  show WP E m_Speller_writeSign (d + 1) 14 [(3, aI v1), (0, aP 31), (1, aP x1), (2, aI x2)] [] σ4 Q
  refine s_iload_n 0 d_Speller_writeSign_14 rfl rfl ?_
  refine s_callS (as := [aI v1]) d_Speller_writeSign_15 ok_S_holds lk_Speller_148 to_S_holds rfl (Nat.le_of_ble_eq_true rfl) rfl (WM.mono h ?_)
  rintro _ σ5 ⟨v5, rfl, hp, h⟩
  obtain ⟨hF5, h⟩ := h
  show WP E m_Speller_writeSign (d + 1) 18 [(3, aI v1), (0, aP 31), (1, aP x1), (2, aI x2)] [aI v5] σ5 Q
  obtain ⟨g6, h⟩ := h
  refine s_if_ne d_Speller_writeSign_18 rfl g6 (fun c => ?_) (fun c => ?_)
  · have h := h.1 c
    refine s_aload_n 1 d_Speller_writeSign_25 rfl rfl ?_
    refine s_dup d_Speller_writeSign_26 (Nat.ne_of_beq_eq_false rfl) ?_
    refine s_getF (v := σ5.1 31 7) d_Speller_writeSign_27 fl_Speller_34 rfl (sf_31 hF5) rfl ?_
    refine s_iconst d_Speller_writeSign_30 ?_
    refine s_iadd d_Speller_writeSign_31 ?_
    refine s_putf 7 rfl d_Speller_writeSign_32 fl_Speller_34 (fun C T h => by cases h; exact Or.inl rfl) rfl (Or.inl rfl) (fun h => nomatch h) (sf_31 hF5) ?_
    refine s_aload_n 1 d_Speller_writeSign_35 rfl rfl ?_
    refine s_aload_n 1 d_Speller_writeSign_36 rfl rfl ?_
    refine s_getF (v := σ5.1 31 8) d_Speller_writeSign_37 fl_Speller_37 rfl (sf_31 (hF5.wf (a := 31) (k := 7) (by decide))) rfl ?_
    refine s_aload_n 1 d_Speller_writeSign_40 rfl rfl ?_
    refine s_getF (v := (σ5.1 31 7) + 1) d_Speller_writeSign_41 fl_Speller_34 rfl (sf_31 (hF5.wf (a := 31) (k := 7) (by decide))) rfl ?_
    obtain ⟨g7, h⟩ := h
    obtain ⟨g8, h⟩ := h
    refine s_mmax d_Speller_writeSign_44 lm_Speller_151 lm_max_s lm_i lm_max_c (Nat.le_of_ble_eq_true rfl) g7 g8 ?_
    refine s_putf 8 rfl d_Speller_writeSign_47 fl_Speller_37 (fun C T h => by cases h; exact Or.inl rfl) rfl (Or.inl rfl) (fun h => nomatch h) (sf_31 (hF5.wf (a := 31) (k := 7) (by decide))) ?_
    refine s_aload_n 1 d_Speller_writeSign_50 rfl rfl ?_
    refine s_bipush d_Speller_writeSign_51 (by decide) ?_
    refine s_callV (as := [aI 60]) (ci := 6) d_Speller_writeSign_53 ok_Speller_writeOpening lk_Speller_139 io_Speller_writeOpening so_Speller_writeOpening (by decide) rfl rfl rfl (Nat.le_of_ble_eq_true rfl) rfl (sf_31 ((hF5.wf (a := 31) (k := 7) (by decide)).wf (a := 31) (k := 8) (by decide))) (WM.mono h ?_)
    rintro _ σ9 ⟨rfl, hp, h⟩
    obtain ⟨hF9, h⟩ := h
    show WP E m_Speller_writeSign (d + 1) 56 [(3, aI v1), (0, aP 31), (1, aP x1), (2, aI x2)] [] σ9 Q
    refine s_aload_n 1 d_Speller_writeSign_56 rfl rfl ?_
    refine s_aload_n 2 d_Speller_writeSign_57 rfl rfl ?_
    refine s_iload_n 3 d_Speller_writeSign_58 rfl rfl ?_
    refine s_iconst d_Speller_writeSign_59 ?_
    refine s_iadd d_Speller_writeSign_60 ?_
    refine s_iconst d_Speller_writeSign_61 ?_
    refine s_callV (as := [aP x1, aI (x2 + 1), aI (-1)]) (ci := 6) d_Speller_writeSign_62 ok_Speller_writePart lk_Speller_121 io_Speller_writePart so_Speller_writePart (by decide) rfl rfl rfl (Nat.le_of_ble_eq_true rfl) rfl (sf_31 hF9) (WM.mono h ?_)
    rintro _ σ10 ⟨v10, rfl, hp, h⟩
    obtain ⟨hF10, h⟩ := h
    show WP E m_Speller_writeSign (d + 1) 65 [(3, aI v1), (0, aP 31), (1, aP x1), (2, aI x2)] [aI v10] σ10 Q
    refine s_istore d_Speller_writeSign_65 (by decide) rfl ?_
    refine s_aload_n 2 d_Speller_writeSign_67 rfl rfl ?_
    refine s_bipush d_Speller_writeSign_68 (by decide) ?_
    refine s_callV (as := [aI 62]) (ci := 6) d_Speller_writeSign_70 ok_Speller_writeClosing lk_Speller_142 io_Speller_writeClosing so_Speller_writeClosing (by decide) rfl rfl rfl (Nat.le_of_ble_eq_true rfl) rfl (sf_31 hF10) (WM.mono h ?_)
    rintro _ σ11 ⟨rfl, hp, h⟩
    obtain ⟨hF11, h⟩ := h
    show WP E m_Speller_writeSign (d + 1) 73 [(4, aI v10), (3, aI v1), (0, aP 31), (1, aP x1), (2, aI x2)] [] σ11 Q
    refine s_aload_n 2 d_Speller_writeSign_73 rfl rfl ?_
    refine s_dup d_Speller_writeSign_74 (Nat.ne_of_beq_eq_false rfl) ?_
    refine s_getF (v := σ11.1 31 7) d_Speller_writeSign_75 fl_Speller_34 rfl (sf_31 hF11) rfl ?_
    refine s_iconst d_Speller_writeSign_78 ?_
    refine s_isub d_Speller_writeSign_79 ?_
    refine s_putf 7 rfl d_Speller_writeSign_80 fl_Speller_34 (fun C T h => by cases h; exact Or.inl rfl) rfl (Or.inl rfl) (fun h => nomatch h) (sf_31 hF11) ?_
    refine s_iload 0 d_Speller_writeSign_83 rfl ?_
    exact s_ireturn d_Speller_writeSign_85 rfl h
  · have h := h.2 c
    refine s_iload_n 3 d_Speller_writeSign_21 rfl rfl ?_
    refine s_iconst d_Speller_writeSign_22 ?_
    refine s_iadd d_Speller_writeSign_23 ?_
    exact s_ireturn d_Speller_writeSign_24 rfl h
theorem e_Speller_writeSign {E : EV} {d : Nat} {Q : Option AV → St → Prop} {σ : St} (x1 x2 : Int) (hF : Fix σ) (h : (sh σ x1 = some (7, 1)) ∧ (WMi E m_Sq_symbol d [aP x1, aI x2] σ (fun v1 σ1 => Fix σ1 ∧ (WMi E m_S_letterOf d [aI v1] σ1 (fun v3 σ3 => Fix σ3 ∧ (WMv E m_Speller_writeLetter d [aP 31, aI v3] σ3 (fun σ4 => Fix σ4 ∧ (WMi E m_S_holds d [aI v1] σ4 (fun v5 σ5 => Fix σ5 ∧ (rI v5) ∧ ((¬ v5 = 0 → (rI (σ5.1 31 8)) ∧ (rI ((σ5.1 31 7) + 1)) ∧ (WMv E m_Speller_writeOpening d [aP 31, aI 60] (wr (wr σ5 31 7 ((σ5.1 31 7) + 1)) 31 8 (max (σ5.1 31 8) ((σ5.1 31 7) + 1))) (fun σ9 => Fix σ9 ∧ (WMi E m_Speller_writePart d [aP 31, aP x1, aI (x2 + 1), aI (-1)] σ9 (fun v10 σ10 => Fix σ10 ∧ (WMv E m_Speller_writeClosing d [aP 31, aI 62] σ10 (fun σ11 => Fix σ11 ∧ Q (some (aI v10)) (wr σ11 31 7 ((σ11.1 31 7) - 1))))))))) ∧ (v5 = 0 → Q (some (aI (x2 + 1))) σ5))))))))))) : WM E m_Speller_writeSign (d + 1) [aP 31, aP x1, aI x2] σ Q := s_meth (by decide) (Nat.le_of_ble_eq_true rfl) rfl (b_Speller_writeSign_0 x1 x2 hF h)
theorem d_Speller_writeLetter_0 : decode m_Speller_writeLetter.2.1 0 = .ok (.aload_n 0, 1) := by decide +kernel
theorem d_Speller_writeLetter_1 : decode m_Speller_writeLetter.2.1 1 = .ok (.invokevirtual 160, 3) := by decide +kernel
theorem d_Speller_writeLetter_4 : decode m_Speller_writeLetter.2.1 4 = .ok (.aload_n 0, 1) := by decide +kernel
theorem d_Speller_writeLetter_5 : decode m_Speller_writeLetter.2.1 5 = .ok (.bipush 97, 2) := by decide +kernel
theorem d_Speller_writeLetter_7 : decode m_Speller_writeLetter.2.1 7 = .ok (.iload_n 1, 1) := by decide +kernel
theorem d_Speller_writeLetter_8 : decode m_Speller_writeLetter.2.1 8 = .ok (.iadd, 1) := by decide +kernel
theorem d_Speller_writeLetter_9 : decode m_Speller_writeLetter.2.1 9 = .ok (.invokevirtual 157, 3) := by decide +kernel
theorem d_Speller_writeLetter_12 : decode m_Speller_writeLetter.2.1 12 = .ok (.return_, 1) := by decide +kernel
theorem b_Speller_writeLetter_0 {E : EV} {d : Nat} {Q : Option AV → St → Prop} {σ : St} (x1 : Int) (hF : Fix σ) (h : (WMv E m_Speller_beginWord d [aP 31] σ (fun σ1 => Fix σ1 ∧ (WMv E m_Speller_put d [aP 31, aI (97 + x1)] σ1 (fun σ2 => Q none σ2))))) : WP E m_Speller_writeLetter (d + 1) 0 [(0, aP 31), (1, aI x1)] [] σ Q := by
  refine s_aload_n 0 d_Speller_writeLetter_0 rfl rfl ?_
  refine s_callV (as := []) (ci := 6) d_Speller_writeLetter_1 ok_Speller_beginWord lk_Speller_160 io_Speller_beginWord so_Speller_beginWord (by decide) rfl rfl rfl (Nat.le_of_ble_eq_true rfl) rfl (sf_31 hF) (WM.mono h ?_)
  rintro _ σ1 ⟨rfl, hp, h⟩
  obtain ⟨hF1, h⟩ := h
  show WP E m_Speller_writeLetter (d + 1) 4 [(0, aP 31), (1, aI x1)] [] σ1 Q
  refine s_aload_n 0 d_Speller_writeLetter_4 rfl rfl ?_
  refine s_bipush d_Speller_writeLetter_5 (by decide) ?_
  refine s_iload_n 1 d_Speller_writeLetter_7 rfl rfl ?_
  refine s_iadd d_Speller_writeLetter_8 ?_
  refine s_callV (as := [aI (97 + x1)]) (ci := 6) d_Speller_writeLetter_9 ok_Speller_put lk_Speller_157 io_Speller_put so_Speller_put (by decide) rfl rfl rfl (Nat.le_of_ble_eq_true rfl) rfl (sf_31 hF1) (WM.mono h ?_)
  rintro _ σ2 ⟨rfl, hp, h⟩
  show WP E m_Speller_writeLetter (d + 1) 12 [(0, aP 31), (1, aI x1)] [] σ2 Q
  exact s_return d_Speller_writeLetter_12 rfl h
theorem e_Speller_writeLetter {E : EV} {d : Nat} {Q : Option AV → St → Prop} {σ : St} (x1 : Int) (hF : Fix σ) (h : (WMv E m_Speller_beginWord d [aP 31] σ (fun σ1 => Fix σ1 ∧ (WMv E m_Speller_put d [aP 31, aI (97 + x1)] σ1 (fun σ2 => Q none σ2))))) : WM E m_Speller_writeLetter (d + 1) [aP 31, aI x1] σ Q := s_meth (by decide) (Nat.le_of_ble_eq_true rfl) rfl (b_Speller_writeLetter_0 x1 hF h)
theorem d_Speller_beginWord_0 : decode m_Speller_beginWord.2.1 0 = .ok (.aload_n 0, 1) := by decide +kernel
theorem d_Speller_beginWord_1 : decode m_Speller_beginWord.2.1 1 = .ok (.getfield 21, 3) := by decide +kernel
theorem d_Speller_beginWord_4 : decode m_Speller_beginWord.2.1 4 = .ok (.ifCond .eq 9, 3) := by decide +kernel
theorem d_Speller_beginWord_7 : decode m_Speller_beginWord.2.1 7 = .ok (.aload_n 0, 1) := by decide +kernel
theorem d_Speller_beginWord_8 : decode m_Speller_beginWord.2.1 8 = .ok (.bipush 32, 2) := by decide +kernel
theorem d_Speller_beginWord_10 : decode m_Speller_beginWord.2.1 10 = .ok (.invokevirtual 157, 3) := by decide +kernel
theorem d_Speller_beginWord_13 : decode m_Speller_beginWord.2.1 13 = .ok (.aload_n 0, 1) := by decide +kernel
theorem d_Speller_beginWord_14 : decode m_Speller_beginWord.2.1 14 = .ok (.iconst 1, 1) := by decide +kernel
theorem d_Speller_beginWord_15 : decode m_Speller_beginWord.2.1 15 = .ok (.putfield 21, 3) := by decide +kernel
theorem d_Speller_beginWord_18 : decode m_Speller_beginWord.2.1 18 = .ok (.return_, 1) := by decide +kernel
theorem b_Speller_beginWord_0 {E : EV} {d : Nat} {Q : Option AV → St → Prop} {σ : St} (hF : Fix σ) (h : (rI (σ.1 31 3)) ∧ (((σ.1 31 3) = 0 → WP E m_Speller_beginWord (d + 1) 13 [(0, aP 31)] [] σ Q) ∧ (¬ (σ.1 31 3) = 0 → (WMv E m_Speller_put d [aP 31, aI 32] σ (fun σ2 => WP E m_Speller_beginWord (d + 1) 13 [(0, aP 31)] [] σ2 Q))))) : WP E m_Speller_beginWord (d + 1) 0 [(0, aP 31)] [] σ Q := by
  refine s_aload_n 0 d_Speller_beginWord_0 rfl rfl ?_
  refine s_getF (v := σ.1 31 3) d_Speller_beginWord_1 fl_Speller_21 rfl (sf_31 hF) rfl ?_
  obtain ⟨g1, h⟩ := h
  refine s_if_eq d_Speller_beginWord_4 rfl g1 (fun c => ?_) (fun c => ?_)
  · have h := h.1 c
    exact h
  · have h := h.2 c
    refine s_aload_n 0 d_Speller_beginWord_7 rfl rfl ?_
    refine s_bipush d_Speller_beginWord_8 (by decide) ?_
    refine s_callV (as := [aI 32]) (ci := 6) d_Speller_beginWord_10 ok_Speller_put lk_Speller_157 io_Speller_put so_Speller_put (by decide) rfl rfl rfl (Nat.le_of_ble_eq_true rfl) rfl (sf_31 hF) (WM.mono h ?_)
    rintro _ σ2 ⟨rfl, hp, h⟩
    show WP E m_Speller_beginWord (d + 1) 13 [(0, aP 31)] [] σ2 Q
    exact h
theorem e_Speller_beginWord {E : EV} {d : Nat} {Q : Option AV → St → Prop} {σ : St} (hF : Fix σ) (h : (rI (σ.1 31 3)) ∧ (((σ.1 31 3) = 0 → WP E m_Speller_beginWord (d + 1) 13 [(0, aP 31)] [] σ Q) ∧ (¬ (σ.1 31 3) = 0 → (WMv E m_Speller_put d [aP 31, aI 32] σ (fun σ2 => WP E m_Speller_beginWord (d + 1) 13 [(0, aP 31)] [] σ2 Q))))) : WM E m_Speller_beginWord (d + 1) [aP 31] σ Q := s_meth (by decide) (Nat.le_of_ble_eq_true rfl) rfl (b_Speller_beginWord_0 hF h)
theorem b_Speller_beginWord_13 {E : EV} {d : Nat} {Q : Option AV → St → Prop} {σ : St} (hF : Fix σ) (h : Q none (wr σ 31 3 1)) : WP E m_Speller_beginWord (d + 1) 13 [(0, aP 31)] [] σ Q := by
  refine s_aload_n 0 d_Speller_beginWord_13 rfl rfl ?_
  refine s_iconst d_Speller_beginWord_14 ?_
  refine s_putf 3 rfl d_Speller_beginWord_15 fl_Speller_21 (fun C T h => by cases h; exact Or.inl rfl) rfl (Or.inr (Or.inr (Or.inl rfl))) (fun _ => by decide) (sf_31 hF) ?_
  exact s_return d_Speller_beginWord_18 rfl h
theorem d_Speller_put_0 : decode m_Speller_put.2.1 0 = .ok (.aload_n 0, 1) := by decide +kernel
theorem d_Speller_put_1 : decode m_Speller_put.2.1 1 = .ok (.getfield 18, 3) := by decide +kernel
theorem d_Speller_put_4 : decode m_Speller_put.2.1 4 = .ok (.aload_n 0, 1) := by decide +kernel
theorem d_Speller_put_5 : decode m_Speller_put.2.1 5 = .ok (.getfield 9, 3) := by decide +kernel
theorem d_Speller_put_8 : decode m_Speller_put.2.1 8 = .ok (.if_icmp .ne 8, 3) := by decide +kernel
theorem d_Speller_put_11 : decode m_Speller_put.2.1 11 = .ok (.aload_n 0, 1) := by decide +kernel
theorem d_Speller_put_12 : decode m_Speller_put.2.1 12 = .ok (.iload_n 1, 1) := by decide +kernel
theorem d_Speller_put_13 : decode m_Speller_put.2.1 13 = .ok (.putfield 15, 3) := by decide +kernel
theorem d_Speller_put_16 : decode m_Speller_put.2.1 16 = .ok (.aload_n 0, 1) := by decide +kernel
theorem d_Speller_put_17 : decode m_Speller_put.2.1 17 = .ok (.dup, 1) := by decide +kernel
theorem d_Speller_put_18 : decode m_Speller_put.2.1 18 = .ok (.getfield 18, 3) := by decide +kernel
theorem d_Speller_put_21 : decode m_Speller_put.2.1 21 = .ok (.iconst 1, 1) := by decide +kernel
theorem d_Speller_put_22 : decode m_Speller_put.2.1 22 = .ok (.iadd, 1) := by decide +kernel
theorem d_Speller_put_23 : decode m_Speller_put.2.1 23 = .ok (.putfield 18, 3) := by decide +kernel
theorem d_Speller_put_26 : decode m_Speller_put.2.1 26 = .ok (.return_, 1) := by decide +kernel
theorem b_Speller_put_0 {E : EV} {d : Nat} {Q : Option AV → St → Prop} {σ : St} (x1 : Int) (hF : Fix σ) (h : (rI (σ.1 31 2)) ∧ (rI (σ.1 31 0)) ∧ ((¬ (σ.1 31 2) = (σ.1 31 0) → WP E m_Speller_put d 16 [(0, aP 31)] [] σ Q) ∧ ((σ.1 31 2) = (σ.1 31 0) → WP E m_Speller_put d 16 [(0, aP 31)] [] (wr σ 31 1 x1) Q))) : WP E m_Speller_put d 0 [(0, aP 31), (1, aI x1)] [] σ Q := by
  refine s_aload_n 0 d_Speller_put_0 rfl rfl ?_
  refine s_getF (v := σ.1 31 2) d_Speller_put_1 fl_Speller_18 rfl (sf_31 hF) rfl ?_
  refine s_aload_n 0 d_Speller_put_4 rfl rfl ?_
  refine s_getF (v := σ.1 31 0) d_Speller_put_5 fl_Speller_9 rfl (sf_31 hF) rfl ?_
  obtain ⟨g1, h⟩ := h
  obtain ⟨g2, h⟩ := h
  refine s_icmp_ne d_Speller_put_8 rfl g1 g2 (fun c => ?_) (fun c => ?_)
  · have h := h.1 c
    refine wp_drop [0] rfl ?_
    exact h
  · have h := h.2 c
    refine s_aload_n 0 d_Speller_put_11 rfl rfl ?_
    refine s_iload_n 1 d_Speller_put_12 rfl rfl ?_
    refine s_putf 1 rfl d_Speller_put_13 fl_Speller_15 (fun C T h => by cases h; exact Or.inl rfl) rfl (Or.inl rfl) (fun h => nomatch h) (sf_31 hF) ?_
    refine wp_drop [0] rfl ?_
    exact h
theorem e_Speller_put {E : EV} {d : Nat} {Q : Option AV → St → Prop} {σ : St} (x1 : Int) (hF : Fix σ) (h : (rI (σ.1 31 2)) ∧ (rI (σ.1 31 0)) ∧ ((¬ (σ.1 31 2) = (σ.1 31 0) → WP E m_Speller_put d 16 [(0, aP 31)] [] σ Q) ∧ ((σ.1 31 2) = (σ.1 31 0) → WP E m_Speller_put d 16 [(0, aP 31)] [] (wr σ 31 1 x1) Q))) : WM E m_Speller_put d [aP 31, aI x1] σ Q := s_meth (by decide) (Nat.le_of_ble_eq_true rfl) rfl (b_Speller_put_0 x1 hF h)
theorem b_Speller_put_16 {E : EV} {d : Nat} {Q : Option AV → St → Prop} {σ : St} (hF : Fix σ) (h : Q none (wr σ 31 2 ((σ.1 31 2) + 1))) : WP E m_Speller_put d 16 [(0, aP 31)] [] σ Q := by
  refine s_aload_n 0 d_Speller_put_16 rfl rfl ?_
  refine s_dup d_Speller_put_17 (Nat.ne_of_beq_eq_false rfl) ?_
  refine s_getF (v := σ.1 31 2) d_Speller_put_18 fl_Speller_18 rfl (sf_31 hF) rfl ?_
  refine s_iconst d_Speller_put_21 ?_
  refine s_iadd d_Speller_put_22 ?_
  refine s_putf 2 rfl d_Speller_put_23 fl_Speller_18 (fun C T h => by cases h; exact Or.inl rfl) rfl (Or.inl rfl) (fun h => nomatch h) (sf_31 hF) ?_
  exact s_return d_Speller_put_26 rfl h
theorem d_Speller_writeOpening_0 : decode m_Speller_writeOpening.2.1 0 = .ok (.aload_n 0, 1) := by decide +kernel
theorem d_Speller_writeOpening_1 : decode m_Speller_writeOpening.2.1 1 = .ok (.dup, 1) := by decide +kernel
theorem d_Speller_writeOpening_2 : decode m_Speller_writeOpening.2.1 2 = .ok (.getfield 28, 3) := by decide +kernel
theorem d_Speller_writeOpening_5 : decode m_Speller_writeOpening.2.1 5 = .ok (.iconst 1, 1) := by decide +kernel
theorem d_Speller_writeOpening_6 : decode m_Speller_writeOpening.2.1 6 = .ok (.iadd, 1) := by decide +kernel
theorem d_Speller_writeOpening_7 : decode m_Speller_writeOpening.2.1 7 = .ok (.putfield 28, 3) := by decide +kernel
theorem d_Speller_writeOpening_10 : decode m_Speller_writeOpening.2.1 10 = .ok (.aload_n 0, 1) := by decide +kernel
theorem d_Speller_writeOpening_11 : decode m_Speller_writeOpening.2.1 11 = .ok (.aload_n 0, 1) := by decide +kernel
theorem d_Speller_writeOpening_12 : decode m_Speller_writeOpening.2.1 12 = .ok (.getfield 31, 3) := by decide +kernel
theorem d_Speller_writeOpening_15 : decode m_Speller_writeOpening.2.1 15 = .ok (.aload_n 0, 1) := by decide +kernel
theorem d_Speller_writeOpening_16 : decode m_Speller_writeOpening.2.1 16 = .ok (.getfield 28, 3) := by decide +kernel
theorem d_Speller_writeOpening_19 : decode m_Speller_writeOpening.2.1 19 = .ok (.invokestatic 151, 3) := by decide +kernel
theorem d_Speller_writeOpening_22 : decode m_Speller_writeOpening.2.1 22 = .ok (.putfield 31, 3) := by decide +kernel
theorem d_Speller_writeOpening_25 : decode m_Speller_writeOpening.2.1 25 = .ok (.aload_n 0, 1) := by decide +kernel
theorem d_Speller_writeOpening_26 : decode m_Speller_writeOpening.2.1 26 = .ok (.iload_n 1, 1) := by decide +kernel
theorem d_Speller_writeOpening_27 : decode m_Speller_writeOpening.2.1 27 = .ok (.invokevirtual 54, 3) := by decide +kernel
theorem d_Speller_writeOpening_30 : decode m_Speller_writeOpening.2.1 30 = .ok (.return_, 1) := by decide +kernel
theorem b_Speller_writeOpening_0 {E : EV} {d : Nat} {Q : Option AV → St → Prop} {σ : St} (x1 : Int) (hF : Fix σ) (h : (rI (σ.1 31 6)) ∧ (rI ((σ.1 31 5) + 1)) ∧ (WMv E m_Speller_writeMark d [aP 31, aI x1] (wr (wr σ 31 5 ((σ.1 31 5) + 1)) 31 6 (max (σ.1 31 6) ((σ.1 31 5) + 1))) (fun σ3 => Q none σ3))) : WP E m_Speller_writeOpening (d + 1) 0 [(0, aP 31), (1, aI x1)] [] σ Q := by
  refine s_aload_n 0 d_Speller_writeOpening_0 rfl rfl ?_
  refine s_dup d_Speller_writeOpening_1 (Nat.ne_of_beq_eq_false rfl) ?_
  refine s_getF (v := σ.1 31 5) d_Speller_writeOpening_2 fl_Speller_28 rfl (sf_31 hF) rfl ?_
  refine s_iconst d_Speller_writeOpening_5 ?_
  refine s_iadd d_Speller_writeOpening_6 ?_
  refine s_putf 5 rfl d_Speller_writeOpening_7 fl_Speller_28 (fun C T h => by cases h; exact Or.inl rfl) rfl (Or.inl rfl) (fun h => nomatch h) (sf_31 hF) ?_
  refine s_aload_n 0 d_Speller_writeOpening_10 rfl rfl ?_
  refine s_aload_n 0 d_Speller_writeOpening_11 rfl rfl ?_
  refine s_getF (v := σ.1 31 6) d_Speller_writeOpening_12 fl_Speller_31 rfl (sf_31 (hF.wf (a := 31) (k := 5) (by decide))) rfl ?_
  refine s_aload_n 0 d_Speller_writeOpening_15 rfl rfl ?_
  refine s_getF (v := (σ.1 31 5) + 1) d_Speller_writeOpening_16 fl_Speller_28 rfl (sf_31 (hF.wf (a := 31) (k := 5) (by decide))) rfl ?_
  obtain ⟨g1, h⟩ := h
  obtain ⟨g2, h⟩ := h
  refine s_mmax d_Speller_writeOpening_19 lm_Speller_151 lm_max_s lm_i lm_max_c (Nat.le_of_ble_eq_true rfl) g1 g2 ?_
  refine s_putf 6 rfl d_Speller_writeOpening_22 fl_Speller_31 (fun C T h => by cases h; exact Or.inl rfl) rfl (Or.inl rfl) (fun h => nomatch h) (sf_31 (hF.wf (a := 31) (k := 5) (by decide))) ?_
  refine s_aload_n 0 d_Speller_writeOpening_25 rfl rfl ?_
  refine s_iload_n 1 d_Speller_writeOpening_26 rfl rfl ?_
  refine s_callV (as := [aI x1]) (ci := 6) d_Speller_writeOpening_27 ok_Speller_writeMark lk_Speller_54 io_Speller_writeMark so_Speller_writeMark (by decide) rfl rfl rfl (Nat.le_of_ble_eq_true rfl) rfl (sf_31 ((hF.wf (a := 31) (k := 5) (by decide)).wf (a := 31) (k := 6) (by decide))) (WM.mono h ?_)
  rintro _ σ3 ⟨rfl, hp, h⟩
  show WP E m_Speller_writeOpening (d + 1) 30 [(0, aP 31), (1, aI x1)] [] σ3 Q
  exact s_return d_Speller_writeOpening_30 rfl h
theorem e_Speller_writeOpening {E : EV} {d : Nat} {Q : Option AV → St → Prop} {σ : St} (x1 : Int) (hF : Fix σ) (h : (rI (σ.1 31 6)) ∧ (rI ((σ.1 31 5) + 1)) ∧ (WMv E m_Speller_writeMark d [aP 31, aI x1] (wr (wr σ 31 5 ((σ.1 31 5) + 1)) 31 6 (max (σ.1 31 6) ((σ.1 31 5) + 1))) (fun σ3 => Q none σ3))) : WM E m_Speller_writeOpening (d + 1) [aP 31, aI x1] σ Q := s_meth (by decide) (Nat.le_of_ble_eq_true rfl) rfl (b_Speller_writeOpening_0 x1 hF h)
theorem d_Speller_writeMark_0 : decode m_Speller_writeMark.2.1 0 = .ok (.aload_n 0, 1) := by decide +kernel
theorem d_Speller_writeMark_1 : decode m_Speller_writeMark.2.1 1 = .ok (.iload_n 1, 1) := by decide +kernel
theorem d_Speller_writeMark_2 : decode m_Speller_writeMark.2.1 2 = .ok (.invokevirtual 157, 3) := by decide +kernel
theorem d_Speller_writeMark_5 : decode m_Speller_writeMark.2.1 5 = .ok (.aload_n 0, 1) := by decide +kernel
theorem d_Speller_writeMark_6 : decode m_Speller_writeMark.2.1 6 = .ok (.iconst 0, 1) := by decide +kernel
theorem d_Speller_writeMark_7 : decode m_Speller_writeMark.2.1 7 = .ok (.putfield 21, 3) := by decide +kernel
theorem d_Speller_writeMark_10 : decode m_Speller_writeMark.2.1 10 = .ok (.return_, 1) := by decide +kernel
theorem b_Speller_writeMark_0 {E : EV} {d : Nat} {Q : Option AV → St → Prop} {σ : St} (x1 : Int) (hF : Fix σ) (h : (WMv E m_Speller_put d [aP 31, aI x1] σ (fun σ1 => Fix σ1 ∧ Q none (wr σ1 31 3 0)))) : WP E m_Speller_writeMark (d + 1) 0 [(0, aP 31), (1, aI x1)] [] σ Q := by
  refine s_aload_n 0 d_Speller_writeMark_0 rfl rfl ?_
  refine s_iload_n 1 d_Speller_writeMark_1 rfl rfl ?_
  refine s_callV (as := [aI x1]) (ci := 6) d_Speller_writeMark_2 ok_Speller_put lk_Speller_157 io_Speller_put so_Speller_put (by decide) rfl rfl rfl (Nat.le_of_ble_eq_true rfl) rfl (sf_31 hF) (WM.mono h ?_)
  rintro _ σ1 ⟨rfl, hp, h⟩
  obtain ⟨hF1, h⟩ := h
  show WP E m_Speller_writeMark (d + 1) 5 [(0, aP 31), (1, aI x1)] [] σ1 Q
  refine s_aload_n 0 d_Speller_writeMark_5 rfl rfl ?_
  refine s_iconst d_Speller_writeMark_6 ?_
  refine s_putf 3 rfl d_Speller_writeMark_7 fl_Speller_21 (fun C T h => by cases h; exact Or.inl rfl) rfl (Or.inr (Or.inr (Or.inl rfl))) (fun _ => by decide) (sf_31 hF1) ?_
  exact s_return d_Speller_writeMark_10 rfl h
theorem e_Speller_writeMark {E : EV} {d : Nat} {Q : Option AV → St → Prop} {σ : St} (x1 : Int) (hF : Fix σ) (h : (WMv E m_Speller_put d [aP 31, aI x1] σ (fun σ1 => Fix σ1 ∧ Q none (wr σ1 31 3 0)))) : WM E m_Speller_writeMark (d + 1) [aP 31, aI x1] σ Q := s_meth (by decide) (Nat.le_of_ble_eq_true rfl) rfl (b_Speller_writeMark_0 x1 hF h)
theorem d_Speller_writeClosing_0 : decode m_Speller_writeClosing.2.1 0 = .ok (.aload_n 0, 1) := by decide +kernel
theorem d_Speller_writeClosing_1 : decode m_Speller_writeClosing.2.1 1 = .ok (.dup, 1) := by decide +kernel
theorem d_Speller_writeClosing_2 : decode m_Speller_writeClosing.2.1 2 = .ok (.getfield 28, 3) := by decide +kernel
theorem d_Speller_writeClosing_5 : decode m_Speller_writeClosing.2.1 5 = .ok (.iconst 1, 1) := by decide +kernel
theorem d_Speller_writeClosing_6 : decode m_Speller_writeClosing.2.1 6 = .ok (.isub, 1) := by decide +kernel
theorem d_Speller_writeClosing_7 : decode m_Speller_writeClosing.2.1 7 = .ok (.putfield 28, 3) := by decide +kernel
theorem d_Speller_writeClosing_10 : decode m_Speller_writeClosing.2.1 10 = .ok (.aload_n 0, 1) := by decide +kernel
theorem d_Speller_writeClosing_11 : decode m_Speller_writeClosing.2.1 11 = .ok (.iload_n 1, 1) := by decide +kernel
theorem d_Speller_writeClosing_12 : decode m_Speller_writeClosing.2.1 12 = .ok (.invokevirtual 54, 3) := by decide +kernel
theorem d_Speller_writeClosing_15 : decode m_Speller_writeClosing.2.1 15 = .ok (.return_, 1) := by decide +kernel
theorem b_Speller_writeClosing_0 {E : EV} {d : Nat} {Q : Option AV → St → Prop} {σ : St} (x1 : Int) (hF : Fix σ) (h : (WMv E m_Speller_writeMark d [aP 31, aI x1] (wr σ 31 5 ((σ.1 31 5) - 1)) (fun σ1 => Q none σ1))) : WP E m_Speller_writeClosing (d + 1) 0 [(0, aP 31), (1, aI x1)] [] σ Q := by
  refine s_aload_n 0 d_Speller_writeClosing_0 rfl rfl ?_
  refine s_dup d_Speller_writeClosing_1 (Nat.ne_of_beq_eq_false rfl) ?_
  refine s_getF (v := σ.1 31 5) d_Speller_writeClosing_2 fl_Speller_28 rfl (sf_31 hF) rfl ?_
  refine s_iconst d_Speller_writeClosing_5 ?_
  refine s_isub d_Speller_writeClosing_6 ?_
  refine s_putf 5 rfl d_Speller_writeClosing_7 fl_Speller_28 (fun C T h => by cases h; exact Or.inl rfl) rfl (Or.inl rfl) (fun h => nomatch h) (sf_31 hF) ?_
  refine s_aload_n 0 d_Speller_writeClosing_10 rfl rfl ?_
  refine s_iload_n 1 d_Speller_writeClosing_11 rfl rfl ?_
  refine s_callV (as := [aI x1]) (ci := 6) d_Speller_writeClosing_12 ok_Speller_writeMark lk_Speller_54 io_Speller_writeMark so_Speller_writeMark (by decide) rfl rfl rfl (Nat.le_of_ble_eq_true rfl) rfl (sf_31 (hF.wf (a := 31) (k := 5) (by decide))) (WM.mono h ?_)
  rintro _ σ1 ⟨rfl, hp, h⟩
  show WP E m_Speller_writeClosing (d + 1) 15 [(0, aP 31), (1, aI x1)] [] σ1 Q
  exact s_return d_Speller_writeClosing_15 rfl h
theorem e_Speller_writeClosing {E : EV} {d : Nat} {Q : Option AV → St → Prop} {σ : St} (x1 : Int) (hF : Fix σ) (h : (WMv E m_Speller_writeMark d [aP 31, aI x1] (wr σ 31 5 ((σ.1 31 5) - 1)) (fun σ1 => Q none σ1))) : WM E m_Speller_writeClosing (d + 1) [aP 31, aI x1] σ Q := s_meth (by decide) (Nat.le_of_ble_eq_true rfl) rfl (b_Speller_writeClosing_0 x1 hF h)
theorem d_Speller_told_0 : decode m_Speller_told.2.1 0 = .ok (.aload_n 0, 1) := by decide +kernel
theorem d_Speller_told_1 : decode m_Speller_told.2.1 1 = .ok (.getfield 9, 3) := by decide +kernel
theorem d_Speller_told_4 : decode m_Speller_told.2.1 4 = .ok (.iconst (-1), 1) := by decide +kernel
theorem d_Speller_told_5 : decode m_Speller_told.2.1 5 = .ok (.if_icmp .ne 10, 3) := by decide +kernel
theorem d_Speller_told_8 : decode m_Speller_told.2.1 8 = .ok (.aload_n 0, 1) := by decide +kernel
theorem d_Speller_told_9 : decode m_Speller_told.2.1 9 = .ok (.getfield 18, 3) := by decide +kernel
theorem d_Speller_told_12 : decode m_Speller_told.2.1 12 = .ok (.goto 7, 3) := by decide +kernel
theorem d_Speller_told_15 : decode m_Speller_told.2.1 15 = .ok (.aload_n 0, 1) := by decide +kernel
theorem d_Speller_told_16 : decode m_Speller_told.2.1 16 = .ok (.getfield 15, 3) := by decide +kernel
theorem d_Speller_told_19 : decode m_Speller_told.2.1 19 = .ok (.ireturn, 1) := by decide +kernel
theorem b_Speller_told_0 {E : EV} {d : Nat} {Q : Option AV → St → Prop} {σ : St} (hF : Fix σ) (h : (rI (σ.1 31 0)) ∧ ((¬ (σ.1 31 0) = (-1) → Q (some (aI (σ.1 31 1))) σ) ∧ ((σ.1 31 0) = (-1) → Q (some (aI (σ.1 31 2))) σ))) : WP E m_Speller_told d 0 [(0, aP 31)] [] σ Q := by
  refine s_aload_n 0 d_Speller_told_0 rfl rfl ?_
  refine s_getF (v := σ.1 31 0) d_Speller_told_1 fl_Speller_9 rfl (sf_31 hF) rfl ?_
  refine s_iconst d_Speller_told_4 ?_
  obtain ⟨g1, h⟩ := h
  refine s_icmp_ne d_Speller_told_5 rfl g1 (by decide) (fun c => ?_) (fun c => ?_)
  · have h := h.1 c
    refine s_aload_n 0 d_Speller_told_15 rfl rfl ?_
    refine s_getF (v := σ.1 31 1) d_Speller_told_16 fl_Speller_15 rfl (sf_31 hF) rfl ?_
    exact s_ireturn d_Speller_told_19 rfl h
  · have h := h.2 c
    refine s_aload_n 0 d_Speller_told_8 rfl rfl ?_
    refine s_getF (v := σ.1 31 2) d_Speller_told_9 fl_Speller_18 rfl (sf_31 hF) rfl ?_
    refine s_goto d_Speller_told_12 rfl ?_
    exact s_ireturn d_Speller_told_19 rfl h
theorem e_Speller_told {E : EV} {d : Nat} {Q : Option AV → St → Prop} {σ : St} (hF : Fix σ) (h : (rI (σ.1 31 0)) ∧ ((¬ (σ.1 31 0) = (-1) → Q (some (aI (σ.1 31 1))) σ) ∧ ((σ.1 31 0) = (-1) → Q (some (aI (σ.1 31 2))) σ))) : WM E m_Speller_told d [aP 31] σ Q := s_meth (by decide) (Nat.le_of_ble_eq_true rfl) rfl (b_Speller_told_0 hF h)
theorem d_Speller_writeAll_0 : decode m_Speller_writeAll.2.1 0 = .ok (.aload_n 0, 1) := by decide +kernel
theorem d_Speller_writeAll_1 : decode m_Speller_writeAll.2.1 1 = .ok (.ldc 40, 2) := by decide +kernel
theorem d_Speller_writeAll_3 : decode m_Speller_writeAll.2.1 3 = .ok (.invokevirtual 42, 3) := by decide +kernel
theorem d_Speller_writeAll_6 : decode m_Speller_writeAll.2.1 6 = .ok (.aload_n 0, 1) := by decide +kernel
theorem d_Speller_writeAll_7 : decode m_Speller_writeAll.2.1 7 = .ok (.aload_n 2, 1) := by decide +kernel
theorem d_Speller_writeAll_8 : decode m_Speller_writeAll.2.1 8 = .ok (.getfield 46, 3) := by decide +kernel
theorem d_Speller_writeAll_11 : decode m_Speller_writeAll.2.1 11 = .ok (.invokevirtual 50, 3) := by decide +kernel
theorem d_Speller_writeAll_14 : decode m_Speller_writeAll.2.1 14 = .ok (.aload_n 0, 1) := by decide +kernel
theorem d_Speller_writeAll_15 : decode m_Speller_writeAll.2.1 15 = .ok (.bipush 59, 2) := by decide +kernel
theorem d_Speller_writeAll_17 : decode m_Speller_writeAll.2.1 17 = .ok (.invokevirtual 54, 3) := by decide +kernel
theorem d_Speller_writeAll_20 : decode m_Speller_writeAll.2.1 20 = .ok (.aload_n 0, 1) := by decide +kernel
theorem d_Speller_writeAll_21 : decode m_Speller_writeAll.2.1 21 = .ok (.ldc 57, 2) := by decide +kernel
theorem d_Speller_writeAll_23 : decode m_Speller_writeAll.2.1 23 = .ok (.invokevirtual 42, 3) := by decide +kernel
theorem d_Speller_writeAll_26 : decode m_Speller_writeAll.2.1 26 = .ok (.aload_n 0, 1) := by decide +kernel
theorem d_Speller_writeAll_27 : decode m_Speller_writeAll.2.1 27 = .ok (.aload_n 2, 1) := by decide +kernel
theorem d_Speller_writeAll_28 : decode m_Speller_writeAll.2.1 28 = .ok (.getfield 59, 3) := by decide +kernel
theorem d_Speller_writeAll_31 : decode m_Speller_writeAll.2.1 31 = .ok (.invokevirtual 50, 3) := by decide +kernel
theorem d_Speller_writeAll_34 : decode m_Speller_writeAll.2.1 34 = .ok (.aload_n 0, 1) := by decide +kernel
theorem d_Speller_writeAll_35 : decode m_Speller_writeAll.2.1 35 = .ok (.bipush 59, 2) := by decide +kernel
theorem d_Speller_writeAll_37 : decode m_Speller_writeAll.2.1 37 = .ok (.invokevirtual 54, 3) := by decide +kernel
theorem d_Speller_writeAll_40 : decode m_Speller_writeAll.2.1 40 = .ok (.iconst 0, 1) := by decide +kernel
theorem d_Speller_writeAll_41 : decode m_Speller_writeAll.2.1 41 = .ok (.istore_n 3, 1) := by decide +kernel
theorem d_Speller_writeAll_42 : decode m_Speller_writeAll.2.1 42 = .ok (.iload_n 3, 1) := by decide +kernel
theorem d_Speller_writeAll_43 : decode m_Speller_writeAll.2.1 43 = .ok (.bipush 26, 2) := by decide +kernel
theorem d_Speller_writeAll_45 : decode m_Speller_writeAll.2.1 45 = .ok (.if_icmp .ge 23, 3) := by decide +kernel
theorem d_Speller_writeAll_48 : decode m_Speller_writeAll.2.1 48 = .ok (.aload_n 1, 1) := by decide +kernel
theorem d_Speller_writeAll_49 : decode m_Speller_writeAll.2.1 49 = .ok (.iload_n 3, 1) := by decide +kernel
theorem d_Speller_writeAll_50 : decode m_Speller_writeAll.2.1 50 = .ok (.invokevirtual 61, 3) := by decide +kernel
theorem d_Speller_writeAll_53 : decode m_Speller_writeAll.2.1 53 = .ok (.ifCond .eq 9, 3) := by decide +kernel
theorem d_Speller_writeAll_56 : decode m_Speller_writeAll.2.1 56 = .ok (.aload_n 0, 1) := by decide +kernel
theorem d_Speller_writeAll_57 : decode m_Speller_writeAll.2.1 57 = .ok (.aload_n 1, 1) := by decide +kernel
theorem d_Speller_writeAll_58 : decode m_Speller_writeAll.2.1 58 = .ok (.iload_n 3, 1) := by decide +kernel
theorem d_Speller_writeAll_59 : decode m_Speller_writeAll.2.1 59 = .ok (.invokevirtual 67, 3) := by decide +kernel
theorem d_Speller_writeAll_62 : decode m_Speller_writeAll.2.1 62 = .ok (.iinc 3 1, 3) := by decide +kernel
theorem d_Speller_writeAll_65 : decode m_Speller_writeAll.2.1 65 = .ok (.goto (-23), 3) := by decide +kernel
theorem d_Speller_writeAll_68 : decode m_Speller_writeAll.2.1 68 = .ok (.iconst 0, 1) := by decide +kernel
theorem d_Speller_writeAll_69 : decode m_Speller_writeAll.2.1 69 = .ok (.istore_n 3, 1) := by decide +kernel
theorem d_Speller_writeAll_70 : decode m_Speller_writeAll.2.1 70 = .ok (.iload_n 3, 1) := by decide +kernel
theorem d_Speller_writeAll_71 : decode m_Speller_writeAll.2.1 71 = .ok (.aload_n 2, 1) := by decide +kernel
theorem d_Speller_writeAll_72 : decode m_Speller_writeAll.2.1 72 = .ok (.getfield 71, 3) := by decide +kernel
theorem d_Speller_writeAll_75 : decode m_Speller_writeAll.2.1 75 = .ok (.arraylength, 1) := by decide +kernel
theorem d_Speller_writeAll_76 : decode m_Speller_writeAll.2.1 76 = .ok (.if_icmp .ge 18, 3) := by decide +kernel
theorem d_Speller_writeAll_79 : decode m_Speller_writeAll.2.1 79 = .ok (.aload_n 0, 1) := by decide +kernel
theorem d_Speller_writeAll_80 : decode m_Speller_writeAll.2.1 80 = .ok (.aload_n 2, 1) := by decide +kernel
theorem d_Speller_writeAll_81 : decode m_Speller_writeAll.2.1 81 = .ok (.iload_n 3, 1) := by decide +kernel
theorem d_Speller_writeAll_82 : decode m_Speller_writeAll.2.1 82 = .ok (.invokevirtual 75, 3) := by decide +kernel
theorem d_Speller_writeAll_85 : decode m_Speller_writeAll.2.1 85 = .ok (.invokevirtual 79, 3) := by decide +kernel
theorem d_Speller_writeAll_88 : decode m_Speller_writeAll.2.1 88 = .ok (.iinc 3 1, 3) := by decide +kernel
theorem d_Speller_writeAll_91 : decode m_Speller_writeAll.2.1 91 = .ok (.goto (-21), 3) := by decide +kernel
theorem d_Speller_writeAll_94 : decode m_Speller_writeAll.2.1 94 = .ok (.return_, 1) := by decide +kernel
theorem b_Speller_writeAll_0 {E : EV} {d : Nat} {Q : Option AV → St → Prop} {σ : St} (x1 x2 : Int) (hF : Fix σ) (h : (XS E "SignSquares$Speller" 40 1) ∧ (WMv E m_Speller_writeWord d [aP 31, aP (-1)] σ (fun σ2 => Fix σ2 ∧ (sh σ2 x2 = some (4, 3)) ∧ (WMv E m_Speller_writeNumber d [aP 31, aI (σ2.1 x2 1)] σ2 (fun σ4 => Fix σ4 ∧ (WMv E m_Speller_writeMark d [aP 31, aI 59] σ4 (fun σ5 => Fix σ5 ∧ (XS E "SignSquares$Speller" 57 2) ∧ (WMv E m_Speller_writeWord d [aP 31, aP (-2)] σ5 (fun σ7 => Fix σ7 ∧ (sh σ7 x2 = some (4, 3)) ∧ (WMv E m_Speller_writeNumber d [aP 31, aI (σ7.1 x2 2)] σ7 (fun σ9 => Fix σ9 ∧ (WMv E m_Speller_writeMark d [aP 31, aI 59] σ9 (fun σ10 => WP E m_Speller_writeAll (d + 1) 42 [(0, aP 31), (1, aP x1), (2, aP x2), (3, aI 0)] [] σ10 Q))))))))))))) : WP E m_Speller_writeAll (d + 1) 0 [(0, aP 31), (1, aP x1), (2, aP x2)] [] σ Q := by
  refine s_aload_n 0 d_Speller_writeAll_0 rfl rfl ?_
  obtain ⟨g1, h⟩ := h
  refine s_ldcS (v := -1) d_Speller_writeAll_1 g1 (by decide) ?_
  refine s_callV (as := [aP (-1)]) (ci := 6) d_Speller_writeAll_3 ok_Speller_writeWord lk_Speller_42 io_Speller_writeWord so_Speller_writeWord (by decide) rfl rfl rfl (Nat.le_of_ble_eq_true rfl) rfl (sf_31 hF) (WM.mono h ?_)
  rintro _ σ2 ⟨rfl, hp, h⟩
  obtain ⟨hF2, h⟩ := h
  show WP E m_Speller_writeAll (d + 1) 6 [(0, aP 31), (1, aP x1), (2, aP x2)] [] σ2 Q
  refine s_aload_n 0 d_Speller_writeAll_6 rfl rfl ?_
  refine s_aload_n 2 d_Speller_writeAll_7 rfl rfl ?_
  obtain ⟨g3, h⟩ := h
  refine s_getF (v := σ2.1 x2 1) d_Speller_writeAll_8 fl_Speller_46 rfl g3 rfl ?_
  refine s_callV (as := [aI (σ2.1 x2 1)]) (ci := 6) d_Speller_writeAll_11 ok_Speller_writeNumber lk_Speller_50 io_Speller_writeNumber so_Speller_writeNumber (by decide) rfl rfl rfl (Nat.le_of_ble_eq_true rfl) rfl (sf_31 hF2) (WM.mono h ?_)
  rintro _ σ4 ⟨rfl, hp, h⟩
  obtain ⟨hF4, h⟩ := h
  show WP E m_Speller_writeAll (d + 1) 14 [(0, aP 31), (1, aP x1), (2, aP x2)] [] σ4 Q
  refine s_aload_n 0 d_Speller_writeAll_14 rfl rfl ?_
  refine s_bipush d_Speller_writeAll_15 (by decide) ?_
  refine s_callV (as := [aI 59]) (ci := 6) d_Speller_writeAll_17 ok_Speller_writeMark lk_Speller_54 io_Speller_writeMark so_Speller_writeMark (by decide) rfl rfl rfl (Nat.le_of_ble_eq_true rfl) rfl (sf_31 hF4) (WM.mono h ?_)
  rintro _ σ5 ⟨rfl, hp, h⟩
  obtain ⟨hF5, h⟩ := h
  show WP E m_Speller_writeAll (d + 1) 20 [(0, aP 31), (1, aP x1), (2, aP x2)] [] σ5 Q
  refine s_aload_n 0 d_Speller_writeAll_20 rfl rfl ?_
  obtain ⟨g6, h⟩ := h
  refine s_ldcS (v := -2) d_Speller_writeAll_21 g6 (by decide) ?_
  refine s_callV (as := [aP (-2)]) (ci := 6) d_Speller_writeAll_23 ok_Speller_writeWord lk_Speller_42 io_Speller_writeWord so_Speller_writeWord (by decide) rfl rfl rfl (Nat.le_of_ble_eq_true rfl) rfl (sf_31 hF5) (WM.mono h ?_)
  rintro _ σ7 ⟨rfl, hp, h⟩
  obtain ⟨hF7, h⟩ := h
  show WP E m_Speller_writeAll (d + 1) 26 [(0, aP 31), (1, aP x1), (2, aP x2)] [] σ7 Q
  refine s_aload_n 0 d_Speller_writeAll_26 rfl rfl ?_
  refine s_aload_n 2 d_Speller_writeAll_27 rfl rfl ?_
  obtain ⟨g8, h⟩ := h
  refine s_getF (v := σ7.1 x2 2) d_Speller_writeAll_28 fl_Speller_59 rfl g8 rfl ?_
  refine s_callV (as := [aI (σ7.1 x2 2)]) (ci := 6) d_Speller_writeAll_31 ok_Speller_writeNumber lk_Speller_50 io_Speller_writeNumber so_Speller_writeNumber (by decide) rfl rfl rfl (Nat.le_of_ble_eq_true rfl) rfl (sf_31 hF7) (WM.mono h ?_)
  rintro _ σ9 ⟨rfl, hp, h⟩
  obtain ⟨hF9, h⟩ := h
  show WP E m_Speller_writeAll (d + 1) 34 [(0, aP 31), (1, aP x1), (2, aP x2)] [] σ9 Q
  refine s_aload_n 0 d_Speller_writeAll_34 rfl rfl ?_
  refine s_bipush d_Speller_writeAll_35 (by decide) ?_
  refine s_callV (as := [aI 59]) (ci := 6) d_Speller_writeAll_37 ok_Speller_writeMark lk_Speller_54 io_Speller_writeMark so_Speller_writeMark (by decide) rfl rfl rfl (Nat.le_of_ble_eq_true rfl) rfl (sf_31 hF9) (WM.mono h ?_)
  rintro _ σ10 ⟨rfl, hp, h⟩
  show WP E m_Speller_writeAll (d + 1) 40 [(0, aP 31), (1, aP x1), (2, aP x2)] [] σ10 Q
  refine s_iconst d_Speller_writeAll_40 ?_
  refine s_istore_n d_Speller_writeAll_41 rfl (by decide) rfl ?_
  refine wp_drop [1, 2, 3, 0] rfl ?_
  exact h
theorem e_Speller_writeAll {E : EV} {d : Nat} {Q : Option AV → St → Prop} {σ : St} (x1 x2 : Int) (hF : Fix σ) (h : (XS E "SignSquares$Speller" 40 1) ∧ (WMv E m_Speller_writeWord d [aP 31, aP (-1)] σ (fun σ2 => Fix σ2 ∧ (sh σ2 x2 = some (4, 3)) ∧ (WMv E m_Speller_writeNumber d [aP 31, aI (σ2.1 x2 1)] σ2 (fun σ4 => Fix σ4 ∧ (WMv E m_Speller_writeMark d [aP 31, aI 59] σ4 (fun σ5 => Fix σ5 ∧ (XS E "SignSquares$Speller" 57 2) ∧ (WMv E m_Speller_writeWord d [aP 31, aP (-2)] σ5 (fun σ7 => Fix σ7 ∧ (sh σ7 x2 = some (4, 3)) ∧ (WMv E m_Speller_writeNumber d [aP 31, aI (σ7.1 x2 2)] σ7 (fun σ9 => Fix σ9 ∧ (WMv E m_Speller_writeMark d [aP 31, aI 59] σ9 (fun σ10 => WP E m_Speller_writeAll (d + 1) 42 [(0, aP 31), (1, aP x1), (2, aP x2), (3, aI 0)] [] σ10 Q))))))))))))) : WM E m_Speller_writeAll (d + 1) [aP 31, aP x1, aP x2] σ Q := s_meth (by decide) (Nat.le_of_ble_eq_true rfl) rfl (b_Speller_writeAll_0 x1 x2 hF h)
theorem b_Speller_writeAll_42 {E : EV} {d : Nat} {Q : Option AV → St → Prop} {σ : St} (x1 x2 x3 : Int) (hF : Fix σ) (h : (rI x3) ∧ ((26 ≤ x3 → WP E m_Speller_writeAll (d + 1) 70 [(0, aP 31), (2, aP x2), (3, aI 0)] [] σ Q) ∧ (¬ 26 ≤ x3 → (sh σ x1 = some (8, 4)) ∧ (WMi E m_Table_has d [aP x1, aI x3] σ (fun v2 σ2 => Fix σ2 ∧ (rI v2) ∧ ((v2 = 0 → WP E m_Speller_writeAll (d + 1) 62 [(0, aP 31), (1, aP x1), (2, aP x2), (3, aI x3)] [] σ2 Q) ∧ (¬ v2 = 0 → (WMv E m_Speller_writeTold d [aP 31, aP x1, aI x3] σ2 (fun σ5 => WP E m_Speller_writeAll (d + 1) 62 [(0, aP 31), (1, aP x1), (2, aP x2), (3, aI x3)] [] σ5 Q))))))))) : WP E m_Speller_writeAll (d + 1) 42 [(0, aP 31), (1, aP x1), (2, aP x2), (3, aI x3)] [] σ Q := by
  refine s_iload_n 3 d_Speller_writeAll_42 rfl rfl ?_
  refine s_bipush d_Speller_writeAll_43 (by decide) ?_
  obtain ⟨g1, h⟩ := h
  refine s_icmp_ge d_Speller_writeAll_45 rfl g1 (by decide) (fun c => ?_) (fun c => ?_)
  · have h := h.1 c
    refine s_iconst d_Speller_writeAll_68 ?_
    refine s_istore_n d_Speller_writeAll_69 rfl (by decide) rfl ?_
    refine wp_drop [1, 3, 0] rfl ?_
    exact h
  · have h := h.2 c
    refine s_aload_n 1 d_Speller_writeAll_48 rfl rfl ?_
    refine s_iload_n 3 d_Speller_writeAll_49 rfl rfl ?_
    obtain ⟨g3, h⟩ := h
    refine s_callV (as := [aI x3]) (ci := 8) d_Speller_writeAll_50 ok_Table_has lk_Speller_61 io_Table_has so_Table_has (by decide) rfl rfl rfl (Nat.le_of_ble_eq_true rfl) rfl g3 (WM.mono h ?_)
    rintro _ σ2 ⟨v2, rfl, hp, h⟩
    obtain ⟨hF3, h⟩ := h
    show WP E m_Speller_writeAll (d + 1) 53 [(0, aP 31), (1, aP x1), (2, aP x2), (3, aI x3)] [aI v2] σ2 Q
    obtain ⟨g4, h⟩ := h
    refine s_if_eq d_Speller_writeAll_53 rfl g4 (fun c => ?_) (fun c => ?_)
    · have h := h.1 c
      exact h
    · have h := h.2 c
      refine s_aload_n 0 d_Speller_writeAll_56 rfl rfl ?_
      refine s_aload_n 1 d_Speller_writeAll_57 rfl rfl ?_
      refine s_iload_n 3 d_Speller_writeAll_58 rfl rfl ?_
      refine s_callV (as := [aP x1, aI x3]) (ci := 6) d_Speller_writeAll_59 ok_Speller_writeTold lk_Speller_67 io_Speller_writeTold so_Speller_writeTold (by decide) rfl rfl rfl (Nat.le_of_ble_eq_true rfl) rfl (sf_31 hF3) (WM.mono h ?_)
      rintro _ σ5 ⟨rfl, hp, h⟩
      show WP E m_Speller_writeAll (d + 1) 62 [(0, aP 31), (1, aP x1), (2, aP x2), (3, aI x3)] [] σ5 Q
      exact h
theorem b_Speller_writeAll_62 {E : EV} {d : Nat} {Q : Option AV → St → Prop} {σ : St} (x1 x2 x3 : Int) (h : WP E m_Speller_writeAll (d + 1) 42 [(0, aP 31), (1, aP x1), (2, aP x2), (3, aI (x3 + 1))] [] σ Q) : WP E m_Speller_writeAll (d + 1) 62 [(0, aP 31), (1, aP x1), (2, aP x2), (3, aI x3)] [] σ Q := by
  refine s_iinc 3 d_Speller_writeAll_62 rfl (by decide) rfl ?_
  refine s_goto d_Speller_writeAll_65 rfl ?_
  refine wp_drop [1, 2, 3, 0] rfl ?_
  exact h
theorem b_Speller_writeAll_70 {E : EV} {d : Nat} {Q : Option AV → St → Prop} {σ : St} (x2 x3 : Int) (hF : Fix σ) (h : (sh σ x2 = some (4, 3)) ∧ (sa σ (σ.1 x2 0) 25) ∧ (rI x3) ∧ (rI (ln σ (σ.1 x2 0))) ∧ (((ln σ (σ.1 x2 0)) ≤ x3 → Q none σ) ∧ (¬ (ln σ (σ.1 x2 0)) ≤ x3 → (sh σ x2 = some (4, 3)) ∧ (WMr E m_Moment_get d [aP x2, aI x3] σ (fun v5 σ5 => Fix σ5 ∧ (WMv E m_Speller_writeLine d [aP 31, aP v5] σ5 (fun σ7 => WP E m_Speller_writeAll (d + 1) 70 [(0, aP 31), (2, aP x2), (3, aI (x3 + 1))] [] σ7 Q))))))) : WP E m_Speller_writeAll (d + 1) 70 [(0, aP 31), (2, aP x2), (3, aI x3)] [] σ Q := by
  refine s_iload_n 2 d_Speller_writeAll_70 rfl rfl ?_
  refine s_aload_n 1 d_Speller_writeAll_71 rfl rfl ?_
  obtain ⟨g1, h⟩ := h
  refine s_getF (v := σ.1 x2 0) d_Speller_writeAll_72 fl_Speller_71 rfl g1 rfl ?_
  obtain ⟨g2, h⟩ := h
  refine s_alenS (by decide) d_Speller_writeAll_75 g2 ?_
  obtain ⟨g3, h⟩ := h
  obtain ⟨g4, h⟩ := h
  refine s_icmp_ge d_Speller_writeAll_76 rfl g3 g4 (fun c => ?_) (fun c => ?_)
  · have h := h.1 c
    exact s_return d_Speller_writeAll_94 rfl h
  · have h := h.2 c
    refine s_aload_n 0 d_Speller_writeAll_79 rfl rfl ?_
    refine s_aload_n 1 d_Speller_writeAll_80 rfl rfl ?_
    refine s_iload_n 2 d_Speller_writeAll_81 rfl rfl ?_
    obtain ⟨g6, h⟩ := h
    refine s_callV (as := [aI x3]) (ci := 4) d_Speller_writeAll_82 ok_Moment_get lk_Speller_75 io_Moment_get so_Moment_get (by decide) rfl rfl rfl (Nat.le_of_ble_eq_true rfl) rfl g6 (WM.mono h ?_)
    rintro _ σ5 ⟨v5, rfl, hp, h⟩
    obtain ⟨hF6, h⟩ := h
    show WP E m_Speller_writeAll (d + 1) 85 [(0, aP 31), (2, aP x2), (3, aI x3)] [aP v5, aP 31] σ5 Q
    refine s_callV (as := [aP v5]) (ci := 6) d_Speller_writeAll_85 ok_Speller_writeLine lk_Speller_79 io_Speller_writeLine so_Speller_writeLine (by decide) rfl rfl rfl (Nat.le_of_ble_eq_true rfl) rfl (sf_31 hF6) (WM.mono h ?_)
    rintro _ σ7 ⟨rfl, hp, h⟩
    show WP E m_Speller_writeAll (d + 1) 88 [(0, aP 31), (2, aP x2), (3, aI x3)] [] σ7 Q
    refine s_iinc 2 d_Speller_writeAll_88 rfl (by decide) rfl ?_
    refine s_goto d_Speller_writeAll_91 rfl ?_
    refine wp_drop [1, 2, 0] rfl ?_
    exact h
theorem d_Speller_writeWord_0 : decode m_Speller_writeWord.2.1 0 = .ok (.aload_n 0, 1) := by decide +kernel
theorem d_Speller_writeWord_1 : decode m_Speller_writeWord.2.1 1 = .ok (.invokevirtual 160, 3) := by decide +kernel
theorem d_Speller_writeWord_4 : decode m_Speller_writeWord.2.1 4 = .ok (.iconst 0, 1) := by decide +kernel
theorem d_Speller_writeWord_5 : decode m_Speller_writeWord.2.1 5 = .ok (.istore_n 2, 1) := by decide +kernel
theorem d_Speller_writeWord_6 : decode m_Speller_writeWord.2.1 6 = .ok (.iload_n 2, 1) := by decide +kernel
theorem d_Speller_writeWord_7 : decode m_Speller_writeWord.2.1 7 = .ok (.aload_n 1, 1) := by decide +kernel
theorem d_Speller_writeWord_8 : decode m_Speller_writeWord.2.1 8 = .ok (.invokevirtual 163, 3) := by decide +kernel
theorem d_Speller_writeWord_11 : decode m_Speller_writeWord.2.1 11 = .ok (.if_icmp .ge 18, 3) := by decide +kernel
theorem d_Speller_writeWord_14 : decode m_Speller_writeWord.2.1 14 = .ok (.aload_n 0, 1) := by decide +kernel
theorem d_Speller_writeWord_15 : decode m_Speller_writeWord.2.1 15 = .ok (.aload_n 1, 1) := by decide +kernel
theorem d_Speller_writeWord_16 : decode m_Speller_writeWord.2.1 16 = .ok (.iload_n 2, 1) := by decide +kernel
theorem d_Speller_writeWord_17 : decode m_Speller_writeWord.2.1 17 = .ok (.invokevirtual 166, 3) := by decide +kernel
theorem d_Speller_writeWord_20 : decode m_Speller_writeWord.2.1 20 = .ok (.invokevirtual 157, 3) := by decide +kernel
theorem d_Speller_writeWord_23 : decode m_Speller_writeWord.2.1 23 = .ok (.iinc 2 1, 3) := by decide +kernel
theorem d_Speller_writeWord_26 : decode m_Speller_writeWord.2.1 26 = .ok (.goto (-20), 3) := by decide +kernel
theorem d_Speller_writeWord_29 : decode m_Speller_writeWord.2.1 29 = .ok (.return_, 1) := by decide +kernel
theorem b_Speller_writeWord_0 {E : EV} {d : Nat} {Q : Option AV → St → Prop} {σ : St} (x1 : Int) (hF : Fix σ) (h : (WMv E m_Speller_beginWord d [aP 31] σ (fun σ1 => WP E m_Speller_writeWord (d + 1) 6 [(0, aP 31), (1, aP x1), (2, aI 0)] [] σ1 Q))) : WP E m_Speller_writeWord (d + 1) 0 [(0, aP 31), (1, aP x1)] [] σ Q := by
  refine s_aload_n 0 d_Speller_writeWord_0 rfl rfl ?_
  refine s_callV (as := []) (ci := 6) d_Speller_writeWord_1 ok_Speller_beginWord lk_Speller_160 io_Speller_beginWord so_Speller_beginWord (by decide) rfl rfl rfl (Nat.le_of_ble_eq_true rfl) rfl (sf_31 hF) (WM.mono h ?_)
  rintro _ σ1 ⟨rfl, hp, h⟩
  show WP E m_Speller_writeWord (d + 1) 4 [(0, aP 31), (1, aP x1)] [] σ1 Q
  refine s_iconst d_Speller_writeWord_4 ?_
  refine s_istore_n d_Speller_writeWord_5 rfl (by decide) rfl ?_
  refine wp_drop [1, 2, 0] rfl ?_
  exact h
theorem e_Speller_writeWord {E : EV} {d : Nat} {Q : Option AV → St → Prop} {σ : St} (x1 : Int) (hF : Fix σ) (h : (WMv E m_Speller_beginWord d [aP 31] σ (fun σ1 => WP E m_Speller_writeWord (d + 1) 6 [(0, aP 31), (1, aP x1), (2, aI 0)] [] σ1 Q))) : WM E m_Speller_writeWord (d + 1) [aP 31, aP x1] σ Q := s_meth (by decide) (Nat.le_of_ble_eq_true rfl) rfl (b_Speller_writeWord_0 x1 hF h)
theorem b_Speller_writeWord_6 {E : EV} {d : Nat} {Q : Option AV → St → Prop} {σ : St} (x1 x2 : Int) (hF : Fix σ) (h : (XR E x1 "java/lang/String") ∧ (WMi E m_String_length d [aP x1] σ (fun v1 σ1 => Fix σ1 ∧ (rI x2) ∧ (rI v1) ∧ ((v1 ≤ x2 → Q none σ1) ∧ (¬ v1 ≤ x2 → (XR E x1 "java/lang/String") ∧ (WMi E m_String_charAt d [aP x1, aI x2] σ1 (fun v5 σ5 => Fix σ5 ∧ (WMv E m_Speller_put d [aP 31, aI v5] σ5 (fun σ7 => WP E m_Speller_writeWord (d + 1) 6 [(0, aP 31), (1, aP x1), (2, aI (x2 + 1))] [] σ7 Q))))))))) : WP E m_Speller_writeWord (d + 1) 6 [(0, aP 31), (1, aP x1), (2, aI x2)] [] σ Q := by
  refine s_iload_n 2 d_Speller_writeWord_6 rfl rfl ?_
  refine s_aload_n 1 d_Speller_writeWord_7 rfl rfl ?_
  obtain ⟨g2, h⟩ := h
  refine s_callX (as := []) d_Speller_writeWord_8 ok_String_length lk_Speller_163 io_String_length so_String_length rfl (Nat.le_of_ble_eq_true rfl) rfl g2 (WM.mono h ?_)
  rintro _ σ1 ⟨v1, rfl, hp, h⟩
  obtain ⟨hF2, h⟩ := h
  show WP E m_Speller_writeWord (d + 1) 11 [(0, aP 31), (1, aP x1), (2, aI x2)] [aI v1, aI x2] σ1 Q
  obtain ⟨g3, h⟩ := h
  obtain ⟨g4, h⟩ := h
  refine s_icmp_ge d_Speller_writeWord_11 rfl g3 g4 (fun c => ?_) (fun c => ?_)
  · have h := h.1 c
    exact s_return d_Speller_writeWord_29 rfl h
  · have h := h.2 c
    refine s_aload_n 0 d_Speller_writeWord_14 rfl rfl ?_
    refine s_aload_n 1 d_Speller_writeWord_15 rfl rfl ?_
    refine s_iload_n 2 d_Speller_writeWord_16 rfl rfl ?_
    obtain ⟨g6, h⟩ := h
    refine s_callX (as := [aI x2]) d_Speller_writeWord_17 ok_String_charAt lk_Speller_166 io_String_charAt so_String_charAt rfl (Nat.le_of_ble_eq_true rfl) rfl g6 (WM.mono h ?_)
    rintro _ σ5 ⟨v5, rfl, hp, h⟩
    obtain ⟨hF6, h⟩ := h
    show WP E m_Speller_writeWord (d + 1) 20 [(0, aP 31), (1, aP x1), (2, aI x2)] [aI v5, aP 31] σ5 Q
    refine s_callV (as := [aI v5]) (ci := 6) d_Speller_writeWord_20 ok_Speller_put lk_Speller_157 io_Speller_put so_Speller_put (by decide) rfl rfl rfl (Nat.le_of_ble_eq_true rfl) rfl (sf_31 hF6) (WM.mono h ?_)
    rintro _ σ7 ⟨rfl, hp, h⟩
    show WP E m_Speller_writeWord (d + 1) 23 [(0, aP 31), (1, aP x1), (2, aI x2)] [] σ7 Q
    refine s_iinc 2 d_Speller_writeWord_23 rfl (by decide) rfl ?_
    refine s_goto d_Speller_writeWord_26 rfl ?_
    refine wp_drop [1, 2, 0] rfl ?_
    exact h
theorem d_Speller_writeNumber_0 : decode m_Speller_writeNumber.2.1 0 = .ok (.aload_n 0, 1) := by decide +kernel
theorem d_Speller_writeNumber_1 : decode m_Speller_writeNumber.2.1 1 = .ok (.invokevirtual 160, 3) := by decide +kernel
theorem d_Speller_writeNumber_4 : decode m_Speller_writeNumber.2.1 4 = .ok (.iload_n 1, 1) := by decide +kernel
theorem d_Speller_writeNumber_5 : decode m_Speller_writeNumber.2.1 5 = .ok (.bipush 10, 2) := by decide +kernel
theorem d_Speller_writeNumber_7 : decode m_Speller_writeNumber.2.1 7 = .ok (.if_icmp .lt 14, 3) := by decide +kernel
theorem d_Speller_writeNumber_10 : decode m_Speller_writeNumber.2.1 10 = .ok (.aload_n 0, 1) := by decide +kernel
theorem d_Speller_writeNumber_11 : decode m_Speller_writeNumber.2.1 11 = .ok (.bipush 48, 2) := by decide +kernel
theorem d_Speller_writeNumber_13 : decode m_Speller_writeNumber.2.1 13 = .ok (.iload_n 1, 1) := by decide +kernel
theorem d_Speller_writeNumber_14 : decode m_Speller_writeNumber.2.1 14 = .ok (.bipush 10, 2) := by decide +kernel
theorem d_Speller_writeNumber_16 : decode m_Speller_writeNumber.2.1 16 = .ok (.idiv, 1) := by decide +kernel
theorem d_Speller_writeNumber_17 : decode m_Speller_writeNumber.2.1 17 = .ok (.iadd, 1) := by decide +kernel
theorem d_Speller_writeNumber_18 : decode m_Speller_writeNumber.2.1 18 = .ok (.invokevirtual 157, 3) := by decide +kernel
theorem d_Speller_writeNumber_21 : decode m_Speller_writeNumber.2.1 21 = .ok (.aload_n 0, 1) := by decide +kernel
theorem d_Speller_writeNumber_22 : decode m_Speller_writeNumber.2.1 22 = .ok (.bipush 48, 2) := by decide +kernel
theorem d_Speller_writeNumber_24 : decode m_Speller_writeNumber.2.1 24 = .ok (.iload_n 1, 1) := by decide +kernel
theorem d_Speller_writeNumber_25 : decode m_Speller_writeNumber.2.1 25 = .ok (.bipush 10, 2) := by decide +kernel
theorem d_Speller_writeNumber_27 : decode m_Speller_writeNumber.2.1 27 = .ok (.irem, 1) := by decide +kernel
theorem d_Speller_writeNumber_28 : decode m_Speller_writeNumber.2.1 28 = .ok (.iadd, 1) := by decide +kernel
theorem d_Speller_writeNumber_29 : decode m_Speller_writeNumber.2.1 29 = .ok (.invokevirtual 157, 3) := by decide +kernel
theorem d_Speller_writeNumber_32 : decode m_Speller_writeNumber.2.1 32 = .ok (.return_, 1) := by decide +kernel
theorem b_Speller_writeNumber_0 {E : EV} {d : Nat} {Q : Option AV → St → Prop} {σ : St} (x1 : Int) (hF : Fix σ) (h : (WMv E m_Speller_beginWord d [aP 31] σ (fun σ1 => Fix σ1 ∧ (rI x1) ∧ ((x1 < 10 → WP E m_Speller_writeNumber (d + 1) 21 [(0, aP 31), (1, aI x1)] [] σ1 Q) ∧ (¬ x1 < 10 → (0 ≤ x1 ∧ x1 ≤ 2147483647) ∧ (WMv E m_Speller_put d [aP 31, aI (48 + (x1 / 10))] σ1 (fun σ4 => WP E m_Speller_writeNumber (d + 1) 21 [(0, aP 31), (1, aI x1)] [] σ4 Q))))))) : WP E m_Speller_writeNumber (d + 1) 0 [(0, aP 31), (1, aI x1)] [] σ Q := by
  refine s_aload_n 0 d_Speller_writeNumber_0 rfl rfl ?_
  refine s_callV (as := []) (ci := 6) d_Speller_writeNumber_1 ok_Speller_beginWord lk_Speller_160 io_Speller_beginWord so_Speller_beginWord (by decide) rfl rfl rfl (Nat.le_of_ble_eq_true rfl) rfl (sf_31 hF) (WM.mono h ?_)
  rintro _ σ1 ⟨rfl, hp, h⟩
  obtain ⟨hF1, h⟩ := h
  show WP E m_Speller_writeNumber (d + 1) 4 [(0, aP 31), (1, aI x1)] [] σ1 Q
  refine s_iload_n 1 d_Speller_writeNumber_4 rfl rfl ?_
  refine s_bipush d_Speller_writeNumber_5 (by decide) ?_
  obtain ⟨g2, h⟩ := h
  refine s_icmp_lt d_Speller_writeNumber_7 rfl g2 (by decide) (fun c => ?_) (fun c => ?_)
  · have h := h.1 c
    exact h
  · have h := h.2 c
    refine s_aload_n 0 d_Speller_writeNumber_10 rfl rfl ?_
    refine s_bipush d_Speller_writeNumber_11 (by decide) ?_
    refine s_iload_n 1 d_Speller_writeNumber_13 rfl rfl ?_
    refine s_bipush d_Speller_writeNumber_14 (by decide) ?_
    obtain ⟨g3, h⟩ := h
    refine s_idiv d_Speller_writeNumber_16 ⟨g3, by decide, by decide⟩ ?_
    refine s_iadd d_Speller_writeNumber_17 ?_
    refine s_callV (as := [aI (48 + (x1 / 10))]) (ci := 6) d_Speller_writeNumber_18 ok_Speller_put lk_Speller_157 io_Speller_put so_Speller_put (by decide) rfl rfl rfl (Nat.le_of_ble_eq_true rfl) rfl (sf_31 hF1) (WM.mono h ?_)
    rintro _ σ4 ⟨rfl, hp, h⟩
    show WP E m_Speller_writeNumber (d + 1) 21 [(0, aP 31), (1, aI x1)] [] σ4 Q
    exact h
theorem e_Speller_writeNumber {E : EV} {d : Nat} {Q : Option AV → St → Prop} {σ : St} (x1 : Int) (hF : Fix σ) (h : (WMv E m_Speller_beginWord d [aP 31] σ (fun σ1 => Fix σ1 ∧ (rI x1) ∧ ((x1 < 10 → WP E m_Speller_writeNumber (d + 1) 21 [(0, aP 31), (1, aI x1)] [] σ1 Q) ∧ (¬ x1 < 10 → (0 ≤ x1 ∧ x1 ≤ 2147483647) ∧ (WMv E m_Speller_put d [aP 31, aI (48 + (x1 / 10))] σ1 (fun σ4 => WP E m_Speller_writeNumber (d + 1) 21 [(0, aP 31), (1, aI x1)] [] σ4 Q))))))) : WM E m_Speller_writeNumber (d + 1) [aP 31, aI x1] σ Q := s_meth (by decide) (Nat.le_of_ble_eq_true rfl) rfl (b_Speller_writeNumber_0 x1 hF h)
theorem b_Speller_writeNumber_21 {E : EV} {d : Nat} {Q : Option AV → St → Prop} {σ : St} (x1 : Int) (hF : Fix σ) (h : (0 ≤ x1 ∧ x1 ≤ 2147483647) ∧ (WMv E m_Speller_put d [aP 31, aI (48 + (x1 % 10))] σ (fun σ2 => Q none σ2))) : WP E m_Speller_writeNumber (d + 1) 21 [(0, aP 31), (1, aI x1)] [] σ Q := by
  refine s_aload_n 0 d_Speller_writeNumber_21 rfl rfl ?_
  refine s_bipush d_Speller_writeNumber_22 (by decide) ?_
  refine s_iload_n 1 d_Speller_writeNumber_24 rfl rfl ?_
  refine s_bipush d_Speller_writeNumber_25 (by decide) ?_
  obtain ⟨g1, h⟩ := h
  refine s_irem d_Speller_writeNumber_27 ⟨g1, by decide, by decide⟩ ?_
  refine s_iadd d_Speller_writeNumber_28 ?_
  refine s_callV (as := [aI (48 + (x1 % 10))]) (ci := 6) d_Speller_writeNumber_29 ok_Speller_put lk_Speller_157 io_Speller_put so_Speller_put (by decide) rfl rfl rfl (Nat.le_of_ble_eq_true rfl) rfl (sf_31 hF) (WM.mono h ?_)
  rintro _ σ2 ⟨rfl, hp, h⟩
  show WP E m_Speller_writeNumber (d + 1) 32 [(0, aP 31), (1, aI x1)] [] σ2 Q
  exact s_return d_Speller_writeNumber_32 rfl h
theorem d_Speller_writeTold_0 : decode m_Speller_writeTold.2.1 0 = .ok (.aload_n 0, 1) := by decide +kernel
theorem d_Speller_writeTold_1 : decode m_Speller_writeTold.2.1 1 = .ok (.ldc 83, 2) := by decide +kernel
theorem d_Speller_writeTold_3 : decode m_Speller_writeTold.2.1 3 = .ok (.invokevirtual 42, 3) := by decide +kernel
theorem d_Speller_writeTold_6 : decode m_Speller_writeTold.2.1 6 = .ok (.aload_n 0, 1) := by decide +kernel
theorem d_Speller_writeTold_7 : decode m_Speller_writeTold.2.1 7 = .ok (.iload_n 2, 1) := by decide +kernel
theorem d_Speller_writeTold_8 : decode m_Speller_writeTold.2.1 8 = .ok (.invokevirtual 85, 3) := by decide +kernel
theorem d_Speller_writeTold_11 : decode m_Speller_writeTold.2.1 11 = .ok (.aload_n 0, 1) := by decide +kernel
theorem d_Speller_writeTold_12 : decode m_Speller_writeTold.2.1 12 = .ok (.aload_n 1, 1) := by decide +kernel
theorem d_Speller_writeTold_13 : decode m_Speller_writeTold.2.1 13 = .ok (.iload_n 2, 1) := by decide +kernel
theorem d_Speller_writeTold_14 : decode m_Speller_writeTold.2.1 14 = .ok (.invokevirtual 88, 3) := by decide +kernel
theorem d_Speller_writeTold_17 : decode m_Speller_writeTold.2.1 17 = .ok (.invokevirtual 50, 3) := by decide +kernel
theorem d_Speller_writeTold_20 : decode m_Speller_writeTold.2.1 20 = .ok (.aload_n 0, 1) := by decide +kernel
theorem d_Speller_writeTold_21 : decode m_Speller_writeTold.2.1 21 = .ok (.aload_n 1, 1) := by decide +kernel
theorem d_Speller_writeTold_22 : decode m_Speller_writeTold.2.1 22 = .ok (.iload_n 2, 1) := by decide +kernel
theorem d_Speller_writeTold_23 : decode m_Speller_writeTold.2.1 23 = .ok (.invokevirtual 92, 3) := by decide +kernel
theorem d_Speller_writeTold_26 : decode m_Speller_writeTold.2.1 26 = .ok (.invokevirtual 50, 3) := by decide +kernel
theorem d_Speller_writeTold_29 : decode m_Speller_writeTold.2.1 29 = .ok (.aload_n 1, 1) := by decide +kernel
theorem d_Speller_writeTold_30 : decode m_Speller_writeTold.2.1 30 = .ok (.iload_n 2, 1) := by decide +kernel
theorem d_Speller_writeTold_31 : decode m_Speller_writeTold.2.1 31 = .ok (.invokevirtual 95, 3) := by decide +kernel
theorem d_Speller_writeTold_34 : decode m_Speller_writeTold.2.1 34 = .ok (.ifCond .eq 27, 3) := by decide +kernel
theorem d_Speller_writeTold_37 : decode m_Speller_writeTold.2.1 37 = .ok (.aload_n 0, 1) := by decide +kernel
theorem d_Speller_writeTold_38 : decode m_Speller_writeTold.2.1 38 = .ok (.ldc 98, 2) := by decide +kernel
theorem d_Speller_writeTold_40 : decode m_Speller_writeTold.2.1 40 = .ok (.invokevirtual 42, 3) := by decide +kernel
theorem d_Speller_writeTold_43 : decode m_Speller_writeTold.2.1 43 = .ok (.aload_n 0, 1) := by decide +kernel
theorem d_Speller_writeTold_44 : decode m_Speller_writeTold.2.1 44 = .ok (.aload_n 1, 1) := by decide +kernel
theorem d_Speller_writeTold_45 : decode m_Speller_writeTold.2.1 45 = .ok (.iload_n 2, 1) := by decide +kernel
theorem d_Speller_writeTold_46 : decode m_Speller_writeTold.2.1 46 = .ok (.invokevirtual 100, 3) := by decide +kernel
theorem d_Speller_writeTold_49 : decode m_Speller_writeTold.2.1 49 = .ok (.invokevirtual 50, 3) := by decide +kernel
theorem d_Speller_writeTold_52 : decode m_Speller_writeTold.2.1 52 = .ok (.aload_n 0, 1) := by decide +kernel
theorem d_Speller_writeTold_53 : decode m_Speller_writeTold.2.1 53 = .ok (.aload_n 1, 1) := by decide +kernel
theorem d_Speller_writeTold_54 : decode m_Speller_writeTold.2.1 54 = .ok (.iload_n 2, 1) := by decide +kernel
theorem d_Speller_writeTold_55 : decode m_Speller_writeTold.2.1 55 = .ok (.invokevirtual 103, 3) := by decide +kernel
theorem d_Speller_writeTold_58 : decode m_Speller_writeTold.2.1 58 = .ok (.invokevirtual 50, 3) := by decide +kernel
theorem d_Speller_writeTold_61 : decode m_Speller_writeTold.2.1 61 = .ok (.aload_n 0, 1) := by decide +kernel
theorem d_Speller_writeTold_62 : decode m_Speller_writeTold.2.1 62 = .ok (.bipush 59, 2) := by decide +kernel
theorem d_Speller_writeTold_64 : decode m_Speller_writeTold.2.1 64 = .ok (.invokevirtual 54, 3) := by decide +kernel
theorem d_Speller_writeTold_67 : decode m_Speller_writeTold.2.1 67 = .ok (.return_, 1) := by decide +kernel
theorem b_Speller_writeTold_0 {E : EV} {d : Nat} {Q : Option AV → St → Prop} {σ : St} (x1 x2 : Int) (hF : Fix σ) (h : (XS E "SignSquares$Speller" 83 3) ∧ (WMv E m_Speller_writeWord d [aP 31, aP (-3)] σ (fun σ2 => Fix σ2 ∧ (WMv E m_Speller_writeLetter d [aP 31, aI x2] σ2 (fun σ3 => Fix σ3 ∧ (sh σ3 x1 = some (8, 4)) ∧ (WMi E m_Table_wideOf d [aP x1, aI x2] σ3 (fun v4 σ4 => Fix σ4 ∧ (WMv E m_Speller_writeNumber d [aP 31, aI v4] σ4 (fun σ6 => Fix σ6 ∧ (sh σ6 x1 = some (8, 4)) ∧ (WMi E m_Table_highOf d [aP x1, aI x2] σ6 (fun v7 σ7 => Fix σ7 ∧ (WMv E m_Speller_writeNumber d [aP 31, aI v7] σ7 (fun σ9 => Fix σ9 ∧ (sh σ9 x1 = some (8, 4)) ∧ (WMi E m_Table_hasCore d [aP x1, aI x2] σ9 (fun v10 σ10 => Fix σ10 ∧ (rI v10) ∧ ((v10 = 0 → WP E m_Speller_writeTold (d + 1) 61 [(0, aP 31)] [] σ10 Q) ∧ (¬ v10 = 0 → (XS E "SignSquares$Speller" 98 4) ∧ (WMv E m_Speller_writeWord d [aP 31, aP (-4)] σ10 (fun σ14 => Fix σ14 ∧ (sh σ14 x1 = some (8, 4)) ∧ (WMi E m_Table_coreWideOf d [aP x1, aI x2] σ14 (fun v15 σ15 => Fix σ15 ∧ (WMv E m_Speller_writeNumber d [aP 31, aI v15] σ15 (fun σ17 => Fix σ17 ∧ (sh σ17 x1 = some (8, 4)) ∧ (WMi E m_Table_coreHighOf d [aP x1, aI x2] σ17 (fun v18 σ18 => Fix σ18 ∧ (WMv E m_Speller_writeNumber d [aP 31, aI v18] σ18 (fun σ20 => WP E m_Speller_writeTold (d + 1) 61 [(0, aP 31)] [] σ20 Q))))))))))))))))))))))))))) : WP E m_Speller_writeTold (d + 1) 0 [(0, aP 31), (1, aP x1), (2, aI x2)] [] σ Q := by
  refine s_aload_n 0 d_Speller_writeTold_0 rfl rfl ?_
  obtain ⟨g1, h⟩ := h
  refine s_ldcS (v := -3) d_Speller_writeTold_1 g1 (by decide) ?_
  refine s_callV (as := [aP (-3)]) (ci := 6) d_Speller_writeTold_3 ok_Speller_writeWord lk_Speller_42 io_Speller_writeWord so_Speller_writeWord (by decide) rfl rfl rfl (Nat.le_of_ble_eq_true rfl) rfl (sf_31 hF) (WM.mono h ?_)
  rintro _ σ2 ⟨rfl, hp, h⟩
  obtain ⟨hF2, h⟩ := h
  show WP E m_Speller_writeTold (d + 1) 6 [(0, aP 31), (1, aP x1), (2, aI x2)] [] σ2 Q
  refine s_aload_n 0 d_Speller_writeTold_6 rfl rfl ?_
  refine s_iload_n 2 d_Speller_writeTold_7 rfl rfl ?_
  refine s_callV (as := [aI x2]) (ci := 6) d_Speller_writeTold_8 ok_Speller_writeLetter lk_Speller_85 io_Speller_writeLetter so_Speller_writeLetter (by decide) rfl rfl rfl (Nat.le_of_ble_eq_true rfl) rfl (sf_31 hF2) (WM.mono h ?_)
  rintro _ σ3 ⟨rfl, hp, h⟩
  obtain ⟨hF3, h⟩ := h
  show WP E m_Speller_writeTold (d + 1) 11 [(0, aP 31), (1, aP x1), (2, aI x2)] [] σ3 Q
  refine s_aload_n 0 d_Speller_writeTold_11 rfl rfl ?_
  refine s_aload_n 1 d_Speller_writeTold_12 rfl rfl ?_
  refine s_iload_n 2 d_Speller_writeTold_13 rfl rfl ?_
  obtain ⟨g5, h⟩ := h
  refine s_callV (as := [aI x2]) (ci := 8) d_Speller_writeTold_14 ok_Table_wideOf lk_Speller_88 io_Table_wideOf so_Table_wideOf (by decide) rfl rfl rfl (Nat.le_of_ble_eq_true rfl) rfl g5 (WM.mono h ?_)
  rintro _ σ4 ⟨v4, rfl, hp, h⟩
  obtain ⟨hF5, h⟩ := h
  show WP E m_Speller_writeTold (d + 1) 17 [(0, aP 31), (1, aP x1), (2, aI x2)] [aI v4, aP 31] σ4 Q
  refine s_callV (as := [aI v4]) (ci := 6) d_Speller_writeTold_17 ok_Speller_writeNumber lk_Speller_50 io_Speller_writeNumber so_Speller_writeNumber (by decide) rfl rfl rfl (Nat.le_of_ble_eq_true rfl) rfl (sf_31 hF5) (WM.mono h ?_)
  rintro _ σ6 ⟨rfl, hp, h⟩
  obtain ⟨hF6, h⟩ := h
  show WP E m_Speller_writeTold (d + 1) 20 [(0, aP 31), (1, aP x1), (2, aI x2)] [] σ6 Q
  refine s_aload_n 0 d_Speller_writeTold_20 rfl rfl ?_
  refine s_aload_n 1 d_Speller_writeTold_21 rfl rfl ?_
  refine s_iload_n 2 d_Speller_writeTold_22 rfl rfl ?_
  obtain ⟨g8, h⟩ := h
  refine s_callV (as := [aI x2]) (ci := 8) d_Speller_writeTold_23 ok_Table_highOf lk_Speller_92 io_Table_highOf so_Table_highOf (by decide) rfl rfl rfl (Nat.le_of_ble_eq_true rfl) rfl g8 (WM.mono h ?_)
  rintro _ σ7 ⟨v7, rfl, hp, h⟩
  obtain ⟨hF8, h⟩ := h
  show WP E m_Speller_writeTold (d + 1) 26 [(0, aP 31), (1, aP x1), (2, aI x2)] [aI v7, aP 31] σ7 Q
  refine s_callV (as := [aI v7]) (ci := 6) d_Speller_writeTold_26 ok_Speller_writeNumber lk_Speller_50 io_Speller_writeNumber so_Speller_writeNumber (by decide) rfl rfl rfl (Nat.le_of_ble_eq_true rfl) rfl (sf_31 hF8) (WM.mono h ?_)
  rintro _ σ9 ⟨rfl, hp, h⟩
  obtain ⟨hF9, h⟩ := h
  show WP E m_Speller_writeTold (d + 1) 29 [(0, aP 31), (1, aP x1), (2, aI x2)] [] σ9 Q
  refine s_aload_n 1 d_Speller_writeTold_29 rfl rfl ?_
  refine s_iload_n 2 d_Speller_writeTold_30 rfl rfl ?_
  obtain ⟨g11, h⟩ := h
  refine s_callV (as := [aI x2]) (ci := 8) d_Speller_writeTold_31 ok_Table_hasCore lk_Speller_95 io_Table_hasCore so_Table_hasCore (by decide) rfl rfl rfl (Nat.le_of_ble_eq_true rfl) rfl g11 (WM.mono h ?_)
  rintro _ σ10 ⟨v10, rfl, hp, h⟩
  obtain ⟨hF11, h⟩ := h
  show WP E m_Speller_writeTold (d + 1) 34 [(0, aP 31), (1, aP x1), (2, aI x2)] [aI v10] σ10 Q
  obtain ⟨g12, h⟩ := h
  refine s_if_eq d_Speller_writeTold_34 rfl g12 (fun c => ?_) (fun c => ?_)
  · have h := h.1 c
    refine wp_drop [0] rfl ?_
    exact h
  · have h := h.2 c
    refine s_aload_n 0 d_Speller_writeTold_37 rfl rfl ?_
    obtain ⟨g13, h⟩ := h
    refine s_ldcS (v := -4) d_Speller_writeTold_38 g13 (by decide) ?_
    refine s_callV (as := [aP (-4)]) (ci := 6) d_Speller_writeTold_40 ok_Speller_writeWord lk_Speller_42 io_Speller_writeWord so_Speller_writeWord (by decide) rfl rfl rfl (Nat.le_of_ble_eq_true rfl) rfl (sf_31 hF11) (WM.mono h ?_)
    rintro _ σ14 ⟨rfl, hp, h⟩
    obtain ⟨hF14, h⟩ := h
    show WP E m_Speller_writeTold (d + 1) 43 [(0, aP 31), (1, aP x1), (2, aI x2)] [] σ14 Q
    refine s_aload_n 0 d_Speller_writeTold_43 rfl rfl ?_
    refine s_aload_n 1 d_Speller_writeTold_44 rfl rfl ?_
    refine s_iload_n 2 d_Speller_writeTold_45 rfl rfl ?_
    obtain ⟨g16, h⟩ := h
    refine s_callV (as := [aI x2]) (ci := 8) d_Speller_writeTold_46 ok_Table_coreWideOf lk_Speller_100 io_Table_coreWideOf so_Table_coreWideOf (by decide) rfl rfl rfl (Nat.le_of_ble_eq_true rfl) rfl g16 (WM.mono h ?_)
    rintro _ σ15 ⟨v15, rfl, hp, h⟩
    obtain ⟨hF16, h⟩ := h
    show WP E m_Speller_writeTold (d + 1) 49 [(0, aP 31), (1, aP x1), (2, aI x2)] [aI v15, aP 31] σ15 Q
    refine s_callV (as := [aI v15]) (ci := 6) d_Speller_writeTold_49 ok_Speller_writeNumber lk_Speller_50 io_Speller_writeNumber so_Speller_writeNumber (by decide) rfl rfl rfl (Nat.le_of_ble_eq_true rfl) rfl (sf_31 hF16) (WM.mono h ?_)
    rintro _ σ17 ⟨rfl, hp, h⟩
    obtain ⟨hF17, h⟩ := h
    show WP E m_Speller_writeTold (d + 1) 52 [(0, aP 31), (1, aP x1), (2, aI x2)] [] σ17 Q
    refine s_aload_n 0 d_Speller_writeTold_52 rfl rfl ?_
    refine s_aload_n 1 d_Speller_writeTold_53 rfl rfl ?_
    refine s_iload_n 2 d_Speller_writeTold_54 rfl rfl ?_
    obtain ⟨g19, h⟩ := h
    refine s_callV (as := [aI x2]) (ci := 8) d_Speller_writeTold_55 ok_Table_coreHighOf lk_Speller_103 io_Table_coreHighOf so_Table_coreHighOf (by decide) rfl rfl rfl (Nat.le_of_ble_eq_true rfl) rfl g19 (WM.mono h ?_)
    rintro _ σ18 ⟨v18, rfl, hp, h⟩
    obtain ⟨hF19, h⟩ := h
    show WP E m_Speller_writeTold (d + 1) 58 [(0, aP 31), (1, aP x1), (2, aI x2)] [aI v18, aP 31] σ18 Q
    refine s_callV (as := [aI v18]) (ci := 6) d_Speller_writeTold_58 ok_Speller_writeNumber lk_Speller_50 io_Speller_writeNumber so_Speller_writeNumber (by decide) rfl rfl rfl (Nat.le_of_ble_eq_true rfl) rfl (sf_31 hF19) (WM.mono h ?_)
    rintro _ σ20 ⟨rfl, hp, h⟩
    show WP E m_Speller_writeTold (d + 1) 61 [(0, aP 31), (1, aP x1), (2, aI x2)] [] σ20 Q
    refine wp_drop [0] rfl ?_
    exact h
theorem e_Speller_writeTold {E : EV} {d : Nat} {Q : Option AV → St → Prop} {σ : St} (x1 x2 : Int) (hF : Fix σ) (h : (XS E "SignSquares$Speller" 83 3) ∧ (WMv E m_Speller_writeWord d [aP 31, aP (-3)] σ (fun σ2 => Fix σ2 ∧ (WMv E m_Speller_writeLetter d [aP 31, aI x2] σ2 (fun σ3 => Fix σ3 ∧ (sh σ3 x1 = some (8, 4)) ∧ (WMi E m_Table_wideOf d [aP x1, aI x2] σ3 (fun v4 σ4 => Fix σ4 ∧ (WMv E m_Speller_writeNumber d [aP 31, aI v4] σ4 (fun σ6 => Fix σ6 ∧ (sh σ6 x1 = some (8, 4)) ∧ (WMi E m_Table_highOf d [aP x1, aI x2] σ6 (fun v7 σ7 => Fix σ7 ∧ (WMv E m_Speller_writeNumber d [aP 31, aI v7] σ7 (fun σ9 => Fix σ9 ∧ (sh σ9 x1 = some (8, 4)) ∧ (WMi E m_Table_hasCore d [aP x1, aI x2] σ9 (fun v10 σ10 => Fix σ10 ∧ (rI v10) ∧ ((v10 = 0 → WP E m_Speller_writeTold (d + 1) 61 [(0, aP 31)] [] σ10 Q) ∧ (¬ v10 = 0 → (XS E "SignSquares$Speller" 98 4) ∧ (WMv E m_Speller_writeWord d [aP 31, aP (-4)] σ10 (fun σ14 => Fix σ14 ∧ (sh σ14 x1 = some (8, 4)) ∧ (WMi E m_Table_coreWideOf d [aP x1, aI x2] σ14 (fun v15 σ15 => Fix σ15 ∧ (WMv E m_Speller_writeNumber d [aP 31, aI v15] σ15 (fun σ17 => Fix σ17 ∧ (sh σ17 x1 = some (8, 4)) ∧ (WMi E m_Table_coreHighOf d [aP x1, aI x2] σ17 (fun v18 σ18 => Fix σ18 ∧ (WMv E m_Speller_writeNumber d [aP 31, aI v18] σ18 (fun σ20 => WP E m_Speller_writeTold (d + 1) 61 [(0, aP 31)] [] σ20 Q))))))))))))))))))))))))))) : WM E m_Speller_writeTold (d + 1) [aP 31, aP x1, aI x2] σ Q := s_meth (by decide) (Nat.le_of_ble_eq_true rfl) rfl (b_Speller_writeTold_0 x1 x2 hF h)
theorem b_Speller_writeTold_61 {E : EV} {d : Nat} {Q : Option AV → St → Prop} {σ : St} (hF : Fix σ) (h : (WMv E m_Speller_writeMark d [aP 31, aI 59] σ (fun σ1 => Q none σ1))) : WP E m_Speller_writeTold (d + 1) 61 [(0, aP 31)] [] σ Q := by
  refine s_aload_n 0 d_Speller_writeTold_61 rfl rfl ?_
  refine s_bipush d_Speller_writeTold_62 (by decide) ?_
  refine s_callV (as := [aI 59]) (ci := 6) d_Speller_writeTold_64 ok_Speller_writeMark lk_Speller_54 io_Speller_writeMark so_Speller_writeMark (by decide) rfl rfl rfl (Nat.le_of_ble_eq_true rfl) rfl (sf_31 hF) (WM.mono h ?_)
  rintro _ σ1 ⟨rfl, hp, h⟩
  show WP E m_Speller_writeTold (d + 1) 67 [(0, aP 31)] [] σ1 Q
  exact s_return d_Speller_writeTold_67 rfl h
theorem d_Speller_writeLine_0 : decode m_Speller_writeLine.2.1 0 = .ok (.aload_n 1, 1) := by decide +kernel
theorem d_Speller_writeLine_1 : decode m_Speller_writeLine.2.1 1 = .ok (.ifnonnull 4, 3) := by decide +kernel
theorem d_Speller_writeLine_4 : decode m_Speller_writeLine.2.1 4 = .ok (.return_, 1) := by decide +kernel
theorem d_Speller_writeLine_5 : decode m_Speller_writeLine.2.1 5 = .ok (.aload_n 0, 1) := by decide +kernel
theorem d_Speller_writeLine_6 : decode m_Speller_writeLine.2.1 6 = .ok (.ldc 106, 2) := by decide +kernel
theorem d_Speller_writeLine_8 : decode m_Speller_writeLine.2.1 8 = .ok (.invokevirtual 42, 3) := by decide +kernel
theorem d_Speller_writeLine_11 : decode m_Speller_writeLine.2.1 11 = .ok (.aload_n 1, 1) := by decide +kernel
theorem d_Speller_writeLine_12 : decode m_Speller_writeLine.2.1 12 = .ok (.getfield 108, 3) := by decide +kernel
theorem d_Speller_writeLine_15 : decode m_Speller_writeLine.2.1 15 = .ok (.ifCond .eq 9, 3) := by decide +kernel
theorem d_Speller_writeLine_18 : decode m_Speller_writeLine.2.1 18 = .ok (.aload_n 0, 1) := by decide +kernel
theorem d_Speller_writeLine_19 : decode m_Speller_writeLine.2.1 19 = .ok (.ldc 113, 2) := by decide +kernel
theorem d_Speller_writeLine_21 : decode m_Speller_writeLine.2.1 21 = .ok (.invokevirtual 42, 3) := by decide +kernel
theorem d_Speller_writeLine_24 : decode m_Speller_writeLine.2.1 24 = .ok (.iconst 0, 1) := by decide +kernel
theorem d_Speller_writeLine_25 : decode m_Speller_writeLine.2.1 25 = .ok (.istore_n 2, 1) := by decide +kernel
theorem d_Speller_writeLine_26 : decode m_Speller_writeLine.2.1 26 = .ok (.iload_n 2, 1) := by decide +kernel
theorem d_Speller_writeLine_27 : decode m_Speller_writeLine.2.1 27 = .ok (.aload_n 1, 1) := by decide +kernel
theorem d_Speller_writeLine_28 : decode m_Speller_writeLine.2.1 28 = .ok (.invokevirtual 114, 3) := by decide +kernel
theorem d_Speller_writeLine_31 : decode m_Speller_writeLine.2.1 31 = .ok (.if_icmp .ge 31, 3) := by decide +kernel
theorem d_Speller_writeLine_34 : decode m_Speller_writeLine.2.1 34 = .ok (.iload_n 2, 1) := by decide +kernel
theorem d_Speller_writeLine_35 : decode m_Speller_writeLine.2.1 35 = .ok (.ifCond .le 9, 3) := by decide +kernel
theorem d_Speller_writeLine_38 : decode m_Speller_writeLine.2.1 38 = .ok (.aload_n 0, 1) := by decide +kernel
theorem d_Speller_writeLine_39 : decode m_Speller_writeLine.2.1 39 = .ok (.bipush 45, 2) := by decide +kernel
theorem d_Speller_writeLine_41 : decode m_Speller_writeLine.2.1 41 = .ok (.invokevirtual 54, 3) := by decide +kernel
theorem d_Speller_writeLine_44 : decode m_Speller_writeLine.2.1 44 = .ok (.aload_n 0, 1) := by decide +kernel
theorem d_Speller_writeLine_45 : decode m_Speller_writeLine.2.1 45 = .ok (.aload_n 1, 1) := by decide +kernel
theorem d_Speller_writeLine_46 : decode m_Speller_writeLine.2.1 46 = .ok (.iload_n 2, 1) := by decide +kernel
theorem d_Speller_writeLine_47 : decode m_Speller_writeLine.2.1 47 = .ok (.invokevirtual 118, 3) := by decide +kernel
theorem d_Speller_writeLine_50 : decode m_Speller_writeLine.2.1 50 = .ok (.iconst 0, 1) := by decide +kernel
theorem d_Speller_writeLine_51 : decode m_Speller_writeLine.2.1 51 = .ok (.iconst (-1), 1) := by decide +kernel
theorem d_Speller_writeLine_52 : decode m_Speller_writeLine.2.1 52 = .ok (.invokevirtual 121, 3) := by decide +kernel
theorem d_Speller_writeLine_55 : decode m_Speller_writeLine.2.1 55 = .ok (.pop, 1) := by decide +kernel
theorem d_Speller_writeLine_56 : decode m_Speller_writeLine.2.1 56 = .ok (.iinc 2 1, 3) := by decide +kernel
theorem d_Speller_writeLine_59 : decode m_Speller_writeLine.2.1 59 = .ok (.goto (-33), 3) := by decide +kernel
theorem d_Speller_writeLine_62 : decode m_Speller_writeLine.2.1 62 = .ok (.aload_n 0, 1) := by decide +kernel
theorem d_Speller_writeLine_63 : decode m_Speller_writeLine.2.1 63 = .ok (.bipush 59, 2) := by decide +kernel
theorem d_Speller_writeLine_65 : decode m_Speller_writeLine.2.1 65 = .ok (.invokevirtual 54, 3) := by decide +kernel
theorem d_Speller_writeLine_68 : decode m_Speller_writeLine.2.1 68 = .ok (.return_, 1) := by decide +kernel
theorem b_Speller_writeLine_0 {E : EV} {d : Nat} {Q : Option AV → St → Prop} {σ : St} (x1 : Int) (hF : Fix σ) (h : ((¬ x1 = 0 → (XS E "SignSquares$Speller" 106 5) ∧ (WMv E m_Speller_writeWord d [aP 31, aP (-5)] σ (fun σ2 => Fix σ2 ∧ (sh σ2 x1 = some (3, 2)) ∧ (rI (σ2.1 x1 1)) ∧ (((σ2.1 x1 1) = 0 → WP E m_Speller_writeLine (d + 1) 24 [(0, aP 31), (1, aP x1)] [] σ2 Q) ∧ (¬ (σ2.1 x1 1) = 0 → (XS E "SignSquares$Speller" 113 6) ∧ (WMv E m_Speller_writeWord d [aP 31, aP (-6)] σ2 (fun σ6 => WP E m_Speller_writeLine (d + 1) 24 [(0, aP 31), (1, aP x1)] [] σ6 Q))))))) ∧ (x1 = 0 → Q none σ))) : WP E m_Speller_writeLine (d + 1) 0 [(0, aP 31), (1, aP x1)] [] σ Q := by
  refine s_aload_n 1 d_Speller_writeLine_0 rfl rfl ?_
  refine s_ifnonnull d_Speller_writeLine_1 rfl (fun c => ?_) (fun c => ?_)
  · have h := h.1 c
    refine s_aload_n 0 d_Speller_writeLine_5 rfl rfl ?_
    obtain ⟨g1, h⟩ := h
    refine s_ldcS (v := -5) d_Speller_writeLine_6 g1 (by decide) ?_
    refine s_callV (as := [aP (-5)]) (ci := 6) d_Speller_writeLine_8 ok_Speller_writeWord lk_Speller_42 io_Speller_writeWord so_Speller_writeWord (by decide) rfl rfl rfl (Nat.le_of_ble_eq_true rfl) rfl (sf_31 hF) (WM.mono h ?_)
    rintro _ σ2 ⟨rfl, hp, h⟩
    obtain ⟨hF2, h⟩ := h
    show WP E m_Speller_writeLine (d + 1) 11 [(0, aP 31), (1, aP x1)] [] σ2 Q
    refine s_aload_n 1 d_Speller_writeLine_11 rfl rfl ?_
    obtain ⟨g3, h⟩ := h
    refine s_getF (v := σ2.1 x1 1) d_Speller_writeLine_12 fl_Speller_108 rfl g3 rfl ?_
    obtain ⟨g4, h⟩ := h
    refine s_if_eq d_Speller_writeLine_15 rfl g4 (fun c => ?_) (fun c => ?_)
    · have h := h.1 c
      exact h
    · have h := h.2 c
      refine s_aload_n 0 d_Speller_writeLine_18 rfl rfl ?_
      obtain ⟨g5, h⟩ := h
      refine s_ldcS (v := -6) d_Speller_writeLine_19 g5 (by decide) ?_
      refine s_callV (as := [aP (-6)]) (ci := 6) d_Speller_writeLine_21 ok_Speller_writeWord lk_Speller_42 io_Speller_writeWord so_Speller_writeWord (by decide) rfl rfl rfl (Nat.le_of_ble_eq_true rfl) rfl (sf_31 hF2) (WM.mono h ?_)
      rintro _ σ6 ⟨rfl, hp, h⟩
      show WP E m_Speller_writeLine (d + 1) 24 [(0, aP 31), (1, aP x1)] [] σ6 Q
      exact h
  · have h := h.2 c
    exact s_return d_Speller_writeLine_4 rfl h
theorem e_Speller_writeLine {E : EV} {d : Nat} {Q : Option AV → St → Prop} {σ : St} (x1 : Int) (hF : Fix σ) (h : ((¬ x1 = 0 → (XS E "SignSquares$Speller" 106 5) ∧ (WMv E m_Speller_writeWord d [aP 31, aP (-5)] σ (fun σ2 => Fix σ2 ∧ (sh σ2 x1 = some (3, 2)) ∧ (rI (σ2.1 x1 1)) ∧ (((σ2.1 x1 1) = 0 → WP E m_Speller_writeLine (d + 1) 24 [(0, aP 31), (1, aP x1)] [] σ2 Q) ∧ (¬ (σ2.1 x1 1) = 0 → (XS E "SignSquares$Speller" 113 6) ∧ (WMv E m_Speller_writeWord d [aP 31, aP (-6)] σ2 (fun σ6 => WP E m_Speller_writeLine (d + 1) 24 [(0, aP 31), (1, aP x1)] [] σ6 Q))))))) ∧ (x1 = 0 → Q none σ))) : WM E m_Speller_writeLine (d + 1) [aP 31, aP x1] σ Q := s_meth (by decide) (Nat.le_of_ble_eq_true rfl) rfl (b_Speller_writeLine_0 x1 hF h)
theorem b_Speller_writeLine_24 {E : EV} {d : Nat} {Q : Option AV → St → Prop} {σ : St} (x1 : Int) (h : WP E m_Speller_writeLine (d + 1) 26 [(0, aP 31), (1, aP x1), (2, aI 0)] [] σ Q) : WP E m_Speller_writeLine (d + 1) 24 [(0, aP 31), (1, aP x1)] [] σ Q := by
  refine s_iconst d_Speller_writeLine_24 ?_
  refine s_istore_n d_Speller_writeLine_25 rfl (by decide) rfl ?_
  refine wp_drop [1, 2, 0] rfl ?_
  exact h
theorem b_Speller_writeLine_26 {E : EV} {d : Nat} {Q : Option AV → St → Prop} {σ : St} (x1 x2 : Int) (hF : Fix σ) (h : (sh σ x1 = some (3, 2)) ∧ (WMi E m_Line_size d [aP x1] σ (fun v1 σ1 => Fix σ1 ∧ (rI x2) ∧ (rI v1) ∧ ((v1 ≤ x2 → (WMv E m_Speller_writeMark d [aP 31, aI 59] σ1 (fun σ5 => Q none σ5))) ∧ (¬ v1 ≤ x2 → (rI x2) ∧ ((x2 ≤ 0 → WP E m_Speller_writeLine (d + 1) 44 [(0, aP 31), (1, aP x1), (2, aI x2)] [] σ1 Q) ∧ (¬ x2 ≤ 0 → (WMv E m_Speller_writeMark d [aP 31, aI 45] σ1 (fun σ7 => WP E m_Speller_writeLine (d + 1) 44 [(0, aP 31), (1, aP x1), (2, aI x2)] [] σ7 Q))))))))) : WP E m_Speller_writeLine (d + 1) 26 [(0, aP 31), (1, aP x1), (2, aI x2)] [] σ Q := by
  refine s_iload_n 2 d_Speller_writeLine_26 rfl rfl ?_
  refine s_aload_n 1 d_Speller_writeLine_27 rfl rfl ?_
  obtain ⟨g2, h⟩ := h
  refine s_callV (as := []) (ci := 3) d_Speller_writeLine_28 ok_Line_size lk_Speller_114 io_Line_size so_Line_size (by decide) rfl rfl rfl (Nat.le_of_ble_eq_true rfl) rfl g2 (WM.mono h ?_)
  rintro _ σ1 ⟨v1, rfl, hp, h⟩
  obtain ⟨hF2, h⟩ := h
  show WP E m_Speller_writeLine (d + 1) 31 [(0, aP 31), (1, aP x1), (2, aI x2)] [aI v1, aI x2] σ1 Q
  obtain ⟨g3, h⟩ := h
  obtain ⟨g4, h⟩ := h
  refine s_icmp_ge d_Speller_writeLine_31 rfl g3 g4 (fun c => ?_) (fun c => ?_)
  · have h := h.1 c
    refine s_aload_n 0 d_Speller_writeLine_62 rfl rfl ?_
    refine s_bipush d_Speller_writeLine_63 (by decide) ?_
    refine s_callV (as := [aI 59]) (ci := 6) d_Speller_writeLine_65 ok_Speller_writeMark lk_Speller_54 io_Speller_writeMark so_Speller_writeMark (by decide) rfl rfl rfl (Nat.le_of_ble_eq_true rfl) rfl (sf_31 hF2) (WM.mono h ?_)
    rintro _ σ5 ⟨rfl, hp, h⟩
    show WP E m_Speller_writeLine (d + 1) 68 [(0, aP 31), (1, aP x1), (2, aI x2)] [] σ5 Q
    exact s_return d_Speller_writeLine_68 rfl h
  · have h := h.2 c
    refine s_iload_n 2 d_Speller_writeLine_34 rfl rfl ?_
    obtain ⟨g6, h⟩ := h
    refine s_if_le d_Speller_writeLine_35 rfl g6 (fun c => ?_) (fun c => ?_)
    · have h := h.1 c
      exact h
    · have h := h.2 c
      refine s_aload_n 0 d_Speller_writeLine_38 rfl rfl ?_
      refine s_bipush d_Speller_writeLine_39 (by decide) ?_
      refine s_callV (as := [aI 45]) (ci := 6) d_Speller_writeLine_41 ok_Speller_writeMark lk_Speller_54 io_Speller_writeMark so_Speller_writeMark (by decide) rfl rfl rfl (Nat.le_of_ble_eq_true rfl) rfl (sf_31 hF2) (WM.mono h ?_)
      rintro _ σ7 ⟨rfl, hp, h⟩
      show WP E m_Speller_writeLine (d + 1) 44 [(0, aP 31), (1, aP x1), (2, aI x2)] [] σ7 Q
      exact h
theorem b_Speller_writeLine_44 {E : EV} {d : Nat} {Q : Option AV → St → Prop} {σ : St} (x1 x2 : Int) (hF : Fix σ) (h : (sh σ x1 = some (3, 2)) ∧ (WMr E m_Line_get d [aP x1, aI x2] σ (fun v1 σ1 => Fix σ1 ∧ (WMi E m_Speller_writePart d [aP 31, aP v1, aI 0, aI (-1)] σ1 (fun v3 σ3 => WP E m_Speller_writeLine (d + 1) 26 [(0, aP 31), (1, aP x1), (2, aI (x2 + 1))] [] σ3 Q))))) : WP E m_Speller_writeLine (d + 1) 44 [(0, aP 31), (1, aP x1), (2, aI x2)] [] σ Q := by
  refine s_aload_n 0 d_Speller_writeLine_44 rfl rfl ?_
  refine s_aload_n 1 d_Speller_writeLine_45 rfl rfl ?_
  refine s_iload_n 2 d_Speller_writeLine_46 rfl rfl ?_
  obtain ⟨g2, h⟩ := h
  refine s_callV (as := [aI x2]) (ci := 3) d_Speller_writeLine_47 ok_Line_get lk_Speller_118 io_Line_get so_Line_get (by decide) rfl rfl rfl (Nat.le_of_ble_eq_true rfl) rfl g2 (WM.mono h ?_)
  rintro _ σ1 ⟨v1, rfl, hp, h⟩
  obtain ⟨hF2, h⟩ := h
  show WP E m_Speller_writeLine (d + 1) 50 [(0, aP 31), (1, aP x1), (2, aI x2)] [aP v1, aP 31] σ1 Q
  refine s_iconst d_Speller_writeLine_50 ?_
  refine s_iconst d_Speller_writeLine_51 ?_
  refine s_callV (as := [aP v1, aI 0, aI (-1)]) (ci := 6) d_Speller_writeLine_52 ok_Speller_writePart lk_Speller_121 io_Speller_writePart so_Speller_writePart (by decide) rfl rfl rfl (Nat.le_of_ble_eq_true rfl) rfl (sf_31 hF2) (WM.mono h ?_)
  rintro _ σ3 ⟨v3, rfl, hp, h⟩
  show WP E m_Speller_writeLine (d + 1) 55 [(0, aP 31), (1, aP x1), (2, aI x2)] [aI v3] σ3 Q
  refine s_pop d_Speller_writeLine_55 (Nat.ne_of_beq_eq_false rfl) ?_
  refine s_iinc 2 d_Speller_writeLine_56 rfl (by decide) rfl ?_
  refine s_goto d_Speller_writeLine_59 rfl ?_
  refine wp_drop [1, 2, 0] rfl ?_
  exact h
