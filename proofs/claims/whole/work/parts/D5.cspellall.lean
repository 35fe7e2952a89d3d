/-! ALL WRITTEN; SPELL -/
section CWAll2
variable {E : EV} {d : Nat} {σ : St} {i : Int} {T : Tb} {M : Mo} {P : List Mo} {tp : List Int} {a c b : Int}
theorem c_Speller_writeAll (hS : StrE E) (hF : Fix σ) (hb : 92 ≤ b) (ht : TabC σ a T) (hT : okTab T) (hm : MoC b σ c M) (hk : okMo T M) (h : SpW σ i [] 0) (hi : rI i) : WMv E m_Speller_writeAll (d + 102) [aP 31, aP a, aP c] σ (fun τ => Fr spX σ τ ∧ SpW τ i (allT T M) 0) := by
  have hWl := allT_len hk
  have hM1 := hk.1
  have hM2 := hk.2.1
  have h4 := hk.2.2.1
  have w0 : (wd 0).length = 4 := rfl
  have w1 : (wd 1).length = 3 := rfl
  have lt : ∀ {Y Z : List Int}, Y ++ Z = allT T M → Y.length ≤ 2000 := fun e => by have := congrArg List.length e; rw [List.length_append] at this; omega
  have lines : ∀ z : Nat × St × List Int, (z.1 ≤ M.2.2.length ∧ Fr spX σ z.2.1 ∧ SpW z.2.1 i z.2.2 0 ∧ z.2.2 ++ lnsT (M.2.2.drop z.1) = allT T M) → WP E m_Speller_writeAll (d + 102) 70 [(0, aP 31), (2, aP c), (3, aI z.1)] [] z.2.1 (fun r τ => r = none ∧ σ.2 <+: τ.2 ∧ Fr spX σ τ ∧ SpW τ i (allT T M) 0) := by
    refine lpx (fun z => M.2.2.length - z.1) _ _ (fun z hI ih => ?_)
    obtain ⟨k, τ, Y⟩ := z
    obtain ⟨i1, i2, i3, i4⟩ := hI
    simp only at i1 i2 i3 i4 ih ⊢
    have F1 := i2.fix hF (by decide)
    have m1 := hm.cf (i2.cf 0 0) rfl hb
    refine b_Speller_writeAll_70 _ _ F1 ⟨m1.2.1, ⟨_, m1.2.2.1⟩, by omega, by rw [ln_of m1.2.2.1]; omega, fun q => ?_, fun q => ⟨m1.2.1, ?_⟩⟩
    · rw [ln_of m1.2.2.1] at q
      rw [List.drop_eq_nil_of_le (by omega)] at i4
      have : Y = allT T M := by simpa [lnsT] using i4
      rw [← this]
      exact ⟨rfl, pre_eq i2.1, i2, i3⟩
    · rw [ln_of m1.2.2.1] at q
      have hlt : k < M.2.2.length := by omega
      have hl : lnAt M k = some M.2.2[k] := by simp [lnAt, hlt]
      rw [List.drop_eq_getElem_cons hlt] at i4
      generalize M.2.2[k] = L at hl i4
      have hy := lt i4
      have hr := rf_ln m1 hl
      refine wmr_p (c_Moment_get m1 (by omega) (by omega)) ⟨F1, WMv.mono (c_Speller_writeLine hS F1 hr.1 hb (hk.ln hl).1 i3 hi (by omega)) (fun υ hp hq => ?_)⟩
      have h9 := ih (k + 1, υ, Y ++ lnT L) (by show M.2.2.length - (k + 1) < M.2.2.length - k; omega) ⟨by show k + 1 ≤ _; omega, i2.tr hq.1, hq.2, by rw [← i4]; simp [lnsT]⟩
      simp only at h9
      rw [show ((k + 1 : Nat) : Int) = (k : Int) + 1 by omega] at h9
      exact h9
  have letters : ∀ z : Nat × St × List Int, (z.1 ≤ 26 ∧ Fr spX σ z.2.1 ∧ SpW z.2.1 i z.2.2 0 ∧ z.2.2 ++ (tbT T z.1 ++ lnsT M.2.2) = allT T M) → WP E m_Speller_writeAll (d + 102) 42 [(0, aP 31), (1, aP a), (2, aP c), (3, aI ((26 - z.1 : Nat)))] [] z.2.1 (fun r τ => r = none ∧ σ.2 <+: τ.2 ∧ Fr spX σ τ ∧ SpW τ i (allT T M) 0) := by
    refine lpx (fun z => z.1) _ _ (fun z hI ih => ?_)
    obtain ⟨n, τ, Y⟩ := z
    obtain ⟨i1, i2, i3, i4⟩ := hI
    simp only at i1 i2 i3 i4 ih ⊢
    have F1 := i2.fix hF (by decide)
    have t1 := ht.cf (i2.cf 0 0) rfl
    refine b_Speller_writeAll_42 _ _ _ F1 ⟨by omega, fun q => ?_, fun q => ⟨t1.2.1, wmi_p (c_Table_has t1 hT (by omega)) ?_⟩⟩
    · have h0 : n = 0 := by omega
      subst h0
      exact lines (0, τ, Y) ⟨Nat.zero_le _, i2, i3, by simpa [tbT] using i4⟩
    · obtain ⟨m, rfl⟩ : ∃ m, n = m + 1 := ⟨n - 1, by omega⟩
      have e26 : 26 - (m + 1) = 25 - m := by omega
      have hl26 : 25 - m < 26 := by omega
      rw [e26] at *
      have hy := lt i4
      rw [show tb tW T ((25 - m : Nat) : Int) = (T (25 - m)).1 from tb_nat hl26]
      have e27 : ((25 - m : Nat) : Int) + 1 = ((26 - m : Nat) : Int) := by omega
      refine ⟨F1, b2i_r _, fun q2 => ?_, fun q2 => WMv.mono (SpW.told hl26 hS F1 t1 hT i3 hi (by omega)) (fun υ hp hq => ?_)⟩
      · rw [b2i_0] at q2
        refine b_Speller_writeAll_62 _ _ _ ?_
        have h9 := ih (m, τ, Y) (by show m < m + 1; omega) ⟨by show m ≤ 26; omega, i2, i3, by
          show Y ++ (tbT T m ++ lnsT M.2.2) = _
          rw [← i4]
          simp only [tbT]
          rw [if_neg q2, List.nil_append]⟩
        simp only at h9
        rw [e27]
        exact h9
      · rw [b2i_n0] at q2
        refine b_Speller_writeAll_62 _ _ _ ?_
        have h9 := ih (m, υ, Y ++ sgT (25 - m) (T (25 - m))) (by show m < m + 1; omega) ⟨by show m ≤ 26; omega, i2.tr hq.1, hq.2, by
          show Y ++ sgT (25 - m) (T (25 - m)) ++ (tbT T m ++ lnsT M.2.2) = _
          rw [← i4]
          simp only [tbT]
          rw [if_pos q2]
          simp only [List.append_assoc]⟩
        simp only at h9
        rw [e27]
        exact h9
  refine e_Speller_writeAll _ _ hF ⟨hS.2.1.1, WMv.mono (SpW.word (k := 0) hS hF h hi (by simp) (Or.inl rfl) (by decide) (by decide)) (fun τ1 p1 q1 => ?_)⟩
  have f1 := q1.1
  have F1 := f1.fix hF (by decide)
  have m1 := hm.cf (f1.cf 0 0) rfl hb
  rw [if_neg (show ¬ (0 : Int) = 1 by decide), List.nil_append, List.nil_append] at q1
  have n1 := numT_len M.1
  have n2 := numT_len M.2.1
  refine ⟨F1, m1.2.1, ?_⟩
  rw [m1.2.2.2.1.1]
  refine WMv.mono (SpW.number F1 q1.2 hi (by omega) (by omega)) (fun τ2 p2 q2 => ?_)
  have f2 := f1.tr q2.1
  have F2 := f2.fix hF (by decide)
  have l2 : (wd 0 ++ numT M.1).length ≤ 10 := by rw [List.length_append]; omega
  refine ⟨F2, WMv.mono (SpW.mark F2 q2.2 hi (by omega)) (fun τ3 p3 q3 => ?_)⟩
  have f3 := f2.tr q3.1
  have F3 := f3.fix hF (by decide)
  have l3 : (wd 0 ++ numT M.1 ++ [59]).length ≤ 11 := by rw [List.length_append]; show _ + 1 ≤ _; omega
  refine ⟨F3, hS.2.1.2.1, WMv.mono (SpW.word (k := 1) hS F3 q3.2 hi (by omega) (Or.inl rfl) (by decide) (by decide)) (fun τ4 p4 q4 => ?_)⟩
  have f4 := f3.tr q4.1
  have F4 := f4.fix hF (by decide)
  have m4 := hm.cf (f4.cf 0 0) rfl hb
  rw [if_neg (show ¬ (0 : Int) = 1 by decide), List.nil_append] at q4
  have l4 : (wd 0 ++ numT M.1 ++ [59] ++ wd 1).length ≤ 20 := by rw [List.length_append]; omega
  refine ⟨F4, m4.2.1, ?_⟩
  rw [m4.2.2.2.1.2]
  refine WMv.mono (SpW.number F4 q4.2 hi (by omega) (by omega)) (fun τ5 p5 q5 => ?_)
  have f5 := f4.tr q5.1
  have F5 := f5.fix hF (by decide)
  have l5 : (wd 0 ++ numT M.1 ++ [59] ++ wd 1 ++ numT M.2.1).length ≤ 30 := by rw [List.length_append]; omega
  refine ⟨F5, WMv.mono (SpW.mark F5 q5.2 hi (by omega)) (fun τ6 p6 q6 => ?_)⟩
  exact letters (26, τ6, wd 0 ++ numT M.1 ++ [59] ++ wd 1 ++ numT M.2.1 ++ [59]) ⟨Nat.le_refl _, f5.tr q6.1, q6.2, by
    show _ ++ (tbT T 26 ++ lnsT M.2.2) = _
    unfold allT
    simp only [List.append_assoc]⟩
theorem c_S_spelled {x : Int} {u : Tr} (hF : Fix σ) (hc : CdB 92 σ x (cC u)) (hu : okw u) (hn : (cC u).length ≤ 40) (hi : rI i) : WMr E m_S_spelled (d + 101) [aP 1, aP x, aI i] σ (fun r τ => r = 31 ∧ Fr spX σ τ ∧ ∃ w', SpIs τ i (tx 0 u) w' (bra (tx 0 u)) 0 (dpF (0, 0) (tx 0 u)).2 0 (dcp u)) := by
  refine e_S_spelled _ _ hF (WMv.mono (c_Speller_begin hF) (fun τ1 p1 q1 => ?_))
  have F1 := q1.1.fix hF (by decide)
  have c1 := hc.cf (q1.1.cf 0 0) spX_lt
  have hc' : CdB 92 τ1 x ([] ++ (cC u ++ [])) := by rw [List.nil_append, List.append_nil]; exact c1
  have h9 := c_Speller_writePart (E := E) (a := x) hu (d + 100) [] [] 0 (-1) τ1 i [] 0 0 0 0 0 0 (by omega) (Or.inl ⟨rfl, rfl⟩) F1 hc' (by rw [List.nil_append, List.append_nil]; omega) q1.2 hi (Or.inl rfl) (by rw [List.length_nil]; omega) (by omega) (by omega)
  rw [show ((([] : List Int).length : Nat) : Int) = 0 from rfl] at h9
  refine ⟨F1, WMi.mono h9 (fun r τ hp hq => ?_)⟩
  obtain ⟨-, hf, w', hw', hs⟩ := hq
  have f2 := q1.1.tr hf
  rw [if_neg (show ¬ ((0 : Int) = 1 ∧ lf ((0 : Nat) == 1) u = true) from fun q => absurd q.1 (by decide)), List.nil_append, List.nil_append, show (0 : Int) + (bra (tx 0 u) : Nat) = (bra (tx 0 u) : Nat) by omega, show max (0 : Int) (0 + (dcp u : Int)) = dcp u by omega] at hs
  exact ⟨f2.fix hF (by decide), _, rfl, pre_eq f2.1, rfl, f2, w', hs⟩
theorem c_S_spell {l s i : Int} (hS : StrE E) (h : CS σ b T M P tp) (hk : okD T M P tp) (h1 : rI l) (h2 : rI s) (h3 : rI i) : WMi E m_S_spell (d + 110) [aP 1, aI l, aI s, aI i] σ (fun r τ => r = sp_spell T M l s i ∧ Fr spX σ τ) := by
  have hF := h.1.1
  have hb := h.1.2.1
  have hkM := hk.2.1
  have e_all : l = -1 → sp_spell T M l s i = if -1 ≤ i then tdT (allT T M) i else -1 := fun q => by unfold sp_spell; rw [if_pos q]
  have e_none : l ≠ -1 → lnAt M l = none → sp_spell T M l s i = -1 := fun q hl => by unfold sp_spell; rw [if_neg q, hl]; simp
  have e_ln : l ≠ -1 → ∀ L, lnAt M l = some L → s = -1 → sp_spell T M l s i = if -1 ≤ i then tdT (lnT L) i else -1 := fun q L hl q2 => by unfold sp_spell; rw [if_neg q, hl]; simp only [if_pos q2]
  have e_sq : l ≠ -1 → ∀ L, lnAt M l = some L → s ≠ -1 → ∀ t, sqIn L s = some t → sp_spell T M l s i = if -1 ≤ i then tdT (tx 0 t) i else -1 := fun q L hl q2 t hs => by unfold sp_spell; rw [if_neg q, hl]; simp only [if_neg q2, hs]
  have e_nsq : l ≠ -1 → ∀ L, lnAt M l = some L → s ≠ -1 → sqIn L s = none → sp_spell T M l s i = -1 := fun q L hl q2 hs => by unfold sp_spell; rw [if_neg q, hl]; simp [if_neg q2, hs]
  refine e_S_spell _ _ _ hF (WMr.mono (c_S_lineAt h hkM h1) (fun r τ hp hq => ?_))
  obtain ⟨hq1, rfl⟩ := hq
  refine ⟨hF, WMv.mono (c_Speller_begin hF) (fun τ1 p1 q1 => ?_)⟩
  have F1 := q1.1.fix hF (by decide)
  have S1 := h.cf ((q1.1.cf 0 0).mono (Y := cX) (Nat.le_refl _) (Nat.le_refl _) (by decide))
  have sp1 : SpW τ1 i [] 0 := ⟨0, 0, 0, q1.2, by omega, by omega⟩
  have fin : ∀ (ω : St) (Y : List Int) (w : Int), Fr spX τ1 ω → SpW ω i Y w → sp_spell T M l s i = (if -1 ≤ i then tdT Y i else -1) → WP E m_S_spell (d + 110) 92 [(0, aP 1)] [] ω (fun r υ => ∃ v, r = some (aI v) ∧ τ.2 <+: υ.2 ∧ v = sp_spell T M l s i ∧ Fr spX τ υ) := by
    intro ω Y w hf hw he
    have f2 := q1.1.tr hf
    have F2 := f2.fix hF (by decide)
    obtain ⟨B, D, G, hs, -⟩ := hw
    refine b_S_spell_92 F2 (wmi_p (c_Speller_told F2 hs h3) ⟨_, rfl, pre_eq f2.1, ?_, f2⟩)
    rw [he]
    by_cases q : -1 ≤ i
    · rw [if_pos q, if_neg (by omega)]
    · rw [if_neg q, if_pos (by omega)]
  refine ⟨F1, h1, fun q => ?_, fun q => WMv.mono (c_Speller_writeAll hS F1 hb S1.2.1.1 hk.1 S1.2.1.2 hkM sp1 h3) (fun τ2 p2 q2 => fin _ _ _ q2.1 q2.2 (e_all q))⟩
  cases hl : lnAt M l with
  | none =>
    rw [hl] at hq1
    exact ⟨fun q2 => absurd hq1 q2, fun _ => ⟨_, rfl, pre_eq q1.1.1, (e_none q hl).symm, q1.1⟩⟩
  | some L =>
    rw [hl] at hq1
    have lft : ltX b spX := fun p hp => by have := spX_lt p hp; omega
    have c1 := hq1.2.cf (q1.1.cf 0 0) lft
    have hkL := (hkM.ln hl).1
    refine ⟨fun _ => ⟨h2, fun q3 => ⟨c1.2.1, wmi_p (c_Line_has c1 hkL.qs.1 h2) ⟨F1, b2i_r _, fun q4 => ?_, fun q4 => ⟨c1.2.1, ?_⟩⟩⟩, fun q3 => WMv.mono (c_Speller_writeLine hS F1 c1 hb hkL sp1 h3 (by simp)) (fun τ2 p2 q2 => fin _ _ _ q2.1 q2.2 (e_ln q L hl q3))⟩, fun q2 => absurd q2 hq1.1⟩
    · rw [b2i_0] at q4
      cases hs : sqIn L s with
      | none => exact ⟨_, rfl, pre_eq q1.1.1, (e_nsq q L hl q3 hs).symm, q1.1⟩
      | some t => have := sqIn_some hs; omega
    · rw [b2i_n0] at q4
      cases hs : sqIn L s with
      | none => have := sqIn_none hs; omega
      | some t =>
        have hr := rf_sq c1 hs
        have hln := (hkL.sq hs).1.len
        refine wmr_p (c_Line_get c1 hkL.qs.1 h2) ⟨F1, WMi.mono (c_wPart hln.2 (by omega) (by omega) F1 (hr.1.lo hb) sp1 h3 (Or.inl rfl) (by simp)) (fun r3 τ2 p2 q2 => ?_)⟩
        obtain ⟨g1, w', hw', g2⟩ := q2
        rw [if_neg (show ¬ ((0 : Int) = 1 ∧ lf false t = true) from fun z => absurd z.1 (by decide)), List.nil_append, List.nil_append] at g2
        exact fin _ _ _ g1 g2 (e_sq q L hl q3 t hs)
end CWAll2
