section MWAll
variable {E : EV} {d : Nat} {σ : St} {T : Tb} {M : Mo} {P : List Mo} {tp : List Int}
theorem c_M_writesAll (h : RS σ T M P tp) (hk : okD T M P tp) (hx : TxIs σ []) : WMv E m_M_writesAll (d + 4) [aP 42] σ (fun τ => Fr lnX σ τ ∧ TxIs τ (allT T M)) := by
  have hF := h.1.1
  have hkM := hk.2.1
  have hWl := allT_len hkM
  generalize hW : allT T M = W at hWl
  have hM1 := hkM.1
  have hM2 := hkM.2.1
  have h4 := hkM.2.2.1
  have lt : ∀ {Y Z : List Int}, Y ++ Z = W → Y.length ≤ 2000 := fun e => by have := congrArg List.length e; rw [List.length_append] at this; omega
  -- the lines
  have lines : ∀ z : Nat × St × List Int, (z.1 ≤ M.2.2.length ∧ Fr lnX σ z.2.1 ∧ TxIs z.2.1 z.2.2 ∧ z.2.2 ++ lnsT (M.2.2.drop z.1) = W) → WP E m_M_writesAll (d + 4) 154 [(0, aP 42), (1, aI z.1)] [] z.2.1 (fun r τ => r = none ∧ σ.2 <+: τ.2 ∧ Fr lnX σ τ ∧ TxIs τ W) := by
    refine lpx (fun z => M.2.2.length - z.1) _ _ (fun z hI ih => ?_)
    obtain ⟨k, τ, Y⟩ := z
    obtain ⟨i1, i2, i3, i4⟩ := hI
    simp only at i1 i2 i3 i4 ih ⊢
    have hT := h.scr (i2.mono (by decide))
    have hM3 : τ.1 47 2 = M.2.2.length := hT.1.2.2.2.2.1
    refine b_M_writesAll_154 _ hT.1.1 ⟨by omega, by omega, fun c => ?_, fun c => ?_⟩
    · rw [List.drop_eq_nil_of_le (by omega)] at i4
      have : Y = W := by simpa [lnsT] using i4
      rw [← this]
      exact ⟨rfl, pre_eq i2.1, i2, i3⟩
    · have hlt : k < M.2.2.length := by omega
      have hl : lnAt M k = some M.2.2[k] := by simp [lnAt, hlt]
      rw [List.drop_eq_getElem_cons hlt] at i4
      generalize M.2.2[k] = L at hl i4
      have hll := lnT_len (hkM.ln hl).1
      have hy := lt i4
      refine WMv.mono (c_M_writesLine hT hkM hl i3 (by omega)) (fun υ hp hq => ?_)
      have h9 := ih (k + 1, υ, Y ++ lnT L) (by show M.2.2.length - (k + 1) < M.2.2.length - k; omega) ⟨by show k + 1 ≤ _; omega, i2.tr hq.1, hq.2, by rw [← i4]; simp [lnsT]⟩
      simp only at h9
      rw [show ((k + 1 : Nat) : Int) = (k : Int) + 1 by omega] at h9
      exact h9
  -- the letters
  have letters : ∀ z : Nat × St × List Int, (z.1 ≤ 26 ∧ Fr lnX σ z.2.1 ∧ TxIs z.2.1 z.2.2 ∧ z.2.2 ++ (tbT T z.1 ++ lnsT M.2.2) = W) → WP E m_M_writesAll (d + 4) 44 [(0, aP 42), (1, aI ((26 - z.1 : Nat)))] [] z.2.1 (fun r τ => r = none ∧ σ.2 <+: τ.2 ∧ Fr lnX σ τ ∧ TxIs τ W) := by
    refine lpx (fun z => z.1) _ _ (fun z hI ih => ?_)
    obtain ⟨n, τ, Y⟩ := z
    obtain ⟨i1, i2, i3, i4⟩ := hI
    simp only at i1 i2 i3 i4 ih ⊢
    have hT := h.scr (i2.mono (by decide))
    refine b_M_writesAll_44 _ hT.1.1 ⟨by omega, fun c => ?_, fun c => ?_⟩
    · have : n = 0 := by omega
      subst this
      exact lines (0, τ, Y) ⟨Nat.zero_le _, i2, i3, by simpa [tbT] using i4⟩
    · cases n with
      | zero => simp at c
      | succ n =>
        have el : ((26 - (n + 1) : Nat) : Int) = ((25 - n : Nat) : Int) := by omega
        have el2 : ((25 - n : Nat) : Int) + 1 = ((26 - n : Nat) : Int) := by omega
        rw [el]
        simp only [tbT] at i4
        generalize hlv : 25 - n = lv at *
        have hl26 : lv < 26 := by omega
        have tab : ∀ υ : St, Fr lnX σ υ → υ.1 43 lv = (T lv).1 ∧ υ.1 44 lv = (T lv).2.1 ∧ υ.1 45 lv = (T lv).2.2.1 ∧ υ.1 46 lv = (T lv).2.2.2 := fun υ f => (h.scr (f.mono (by decide))).1.2.1 lv hl26
        have tb := hk.1 lv hl26
        have nxt : ∀ (υ : St) (Z : List Int), Fr lnX σ υ → TxIs υ Z → Z ++ (tbT T n ++ lnsT M.2.2) = W → WP E m_M_writesAll (d + 4) 146 [(0, aP 42), (1, aI lv)] [] υ (fun r τ => r = none ∧ σ.2 <+: τ.2 ∧ Fr lnX σ τ ∧ TxIs τ W) := by
          intro υ Z e1 e2 e3
          refine b_M_writesAll_146 _ ?_
          rw [el2]
          exact ih (n, υ, Z) (by show n < n + 1; omega) ⟨by show n ≤ 26; omega, e1, e2, e3⟩
        have fix : ∀ υ : St, Fr lnX σ υ → Fix υ := fun υ f => f.fix hF (by decide)
        have wds : ∀ υ : St, Fr lnX σ υ → At (υ.1 77) 0 wordsL := fun υ f => (h.scr (f.mono (by decide))).2.2.2
        have semi : ∀ (υ : St) (Z : List Int), Fr lnX σ υ → TxIs υ Z → Z ++ ([59] ++ (tbT T n ++ lnsT M.2.2)) = W → WP E m_M_writesAll (d + 4) 140 [(0, aP 42), (1, aI lv)] [] υ (fun r τ => r = none ∧ σ.2 <+: τ.2 ∧ Fr lnX σ τ ∧ TxIs τ W) := by
          intro υ Z e1 e2 e3
          have := lt e3
          refine b_M_writesAll_140 _ (fix υ e1) (WMv.mono (c_M_writes (fix υ e1) e2 (by omega)) (fun ω hp hq => nxt ω _ (e1.tr (hq.1.mono (by decide))) hq.2 (by rw [← e3]; simp)))
        refine wmi_p (c_M_isTold hT.1.1 (by omega) (hT.tabI hk.1)) ⟨hT.1.1, b2i_r _, fun c2 => ?_, fun c2 => ?_⟩
        · rw [b2i_n0, (tab τ i2).1] at c2
          rw [if_pos c2.2] at i4
          have y0 := lt i4
          refine WMv.mono (c_M_writesWord (k := 2) hT.1.1 (wds τ i2) i3 (by decide) (by omega)) (fun τ1 p1 q1 => ?_)
          have f1 := i2.tr (q1.1.mono (by decide))
          have w2 : (wd 2).length = 4 := rfl
          have w3 : (wd 3).length = 4 := rfl
          refine ⟨fix _ f1, WMv.mono (c_M_writes (fix _ f1) q1.2 (by rw [List.length_append, w2]; omega)) (fun τ2 p2 q2 => ?_)⟩
          have f2 := f1.tr (q2.1.mono (by decide))
          refine ⟨fix _ f2, WMv.mono (c_M_writes (fix _ f2) q2.2 (by simp only [List.length_append, w2, List.length_singleton]; omega)) (fun τ3 p3 q3 => ?_)⟩
          have f3 := f2.tr (q3.1.mono (by decide))
          rw [(tab _ f3).1]
          refine ⟨fix _ f3, by omega, WMv.mono (c_M_writesNumber (fix _ f3) q3.2 (by omega) (by simp only [List.length_append, w2, List.length_singleton]; omega)) (fun τ4 p4 q4 => ?_)⟩
          have f4 := f3.tr (q4.1.mono (by decide))
          have n1 := numT_len (T lv).1
          have n2 := numT_len (T lv).2.1
          have n3 := numT_len (T lv).2.2.1
          rw [(tab _ f4).2.1]
          refine ⟨fix _ f4, by omega, WMv.mono (c_M_writesNumber (fix _ f4) q4.2 (by omega) (by simp only [List.length_append, w2, List.length_singleton]; omega)) (fun τ5 p5 q5 => ?_)⟩
          have f5 := f4.tr (q5.1.mono (by decide))
          rw [(tab _ f5).2.2.1]
          refine ⟨fix _ f5, by omega, by omega, fun c3 => ?_, fun c3 => ?_⟩
          · refine semi τ5 _ f5 q5.2 ?_
            rw [← i4]
            simp [sgT, if_neg (show ¬ 0 < (T lv).2.2.1 by omega)]
          · refine WMv.mono (c_M_writes (fix _ f5) q5.2 (by simp only [List.length_append, w2, List.length_singleton]; omega)) (fun τ6 p6 q6 => ?_)
            have f6 := f5.tr (q6.1.mono (by decide))
            refine ⟨fix _ f6, WMv.mono (c_M_writesWord (k := 3) (fix _ f6) (wds _ f6) q6.2 (by decide) (by simp only [List.length_append, w2, List.length_singleton]; omega)) (fun τ7 p7 q7 => ?_)⟩
            have f7 := f6.tr (q7.1.mono (by decide))
            rw [(tab _ f7).2.2.1]
            refine ⟨fix _ f7, by omega, WMv.mono (c_M_writesNumber (fix _ f7) q7.2 (by omega) (by simp only [List.length_append, w2, w3, List.length_singleton]; omega)) (fun τ8 p8 q8 => ?_)⟩
            have f8 := f7.tr (q8.1.mono (by decide))
            rw [(tab _ f8).2.2.2]
            refine ⟨fix _ f8, by omega, WMv.mono (c_M_writesNumber (fix _ f8) q8.2 (by omega) (by simp only [List.length_append, w2, w3, List.length_singleton]; omega)) (fun τ9 p9 q9 => ?_)⟩
            refine semi τ9 _ (f8.tr (q9.1.mono (by decide))) q9.2 ?_
            rw [← i4]
            simp [sgT, if_pos (show 0 < (T lv).2.2.1 by omega)]
        · rw [b2i_0, (tab τ i2).1] at c2
          rw [if_neg (by omega)] at i4
          exact nxt τ Y i2 i3 (by simpa using i4)
  have fix : ∀ υ : St, Fr lnX σ υ → Fix υ := fun υ f => f.fix hF (by decide)
  have wds : ∀ υ : St, Fr lnX σ υ → At (υ.1 77) 0 wordsL := fun υ f => (h.scr (f.mono (by decide))).2.2.2
  have w0 : (wd 0).length = 4 := rfl
  have w1 : (wd 1).length = 3 := rfl
  have n1 := numT_len M.1
  have n2 := numT_len M.2.1
  refine e_M_writesAll hF (WMv.mono (c_M_writesWord (k := 0) hF h.2.2.2 hx (by decide) (by simp)) (fun τ1 p1 q1 => ?_))
  have f1 : Fr lnX σ τ1 := q1.1.mono (by decide)
  have e0 : τ1.1 47 0 = M.1 := (h.scr (f1.mono (by decide))).1.2.2.1
  rw [e0]
  refine ⟨fix _ f1, WMv.mono (c_M_writesNumber (fix _ f1) q1.2 (by omega) (by simp only [List.length_append, List.length_nil, w0]; omega)) (fun τ2 p2 q2 => ?_)⟩
  have f2 := f1.tr (q2.1.mono (by decide))
  refine ⟨fix _ f2, WMv.mono (c_M_writes (fix _ f2) q2.2 (by simp only [List.length_append, List.length_nil, w0]; omega)) (fun τ3 p3 q3 => ?_)⟩
  have f3 := f2.tr (q3.1.mono (by decide))
  refine ⟨fix _ f3, WMv.mono (c_M_writesWord (k := 1) (fix _ f3) (wds _ f3) q3.2 (by decide) (by simp only [List.length_append, List.length_nil, List.length_singleton, w0]; omega)) (fun τ4 p4 q4 => ?_)⟩
  have f4 := f3.tr (q4.1.mono (by decide))
  have e1 : τ4.1 47 1 = M.2.1 := (h.scr (f4.mono (by decide))).1.2.2.2.1
  rw [e1]
  refine ⟨fix _ f4, WMv.mono (c_M_writesNumber (fix _ f4) q4.2 (by omega) (by simp only [List.length_append, List.length_nil, List.length_singleton, w0, w1]; omega)) (fun τ5 p5 q5 => ?_)⟩
  have f5 := f4.tr (q5.1.mono (by decide))
  refine ⟨fix _ f5, WMv.mono (c_M_writes (fix _ f5) q5.2 (by simp only [List.length_append, List.length_nil, List.length_singleton, w0, w1]; omega)) (fun τ6 p6 q6 => ?_)⟩
  have f6 := f5.tr (q6.1.mono (by decide))
  refine letters (26, τ6, _) ⟨Nat.le_refl _, f6, q6.2, ?_⟩
  rw [← hW]
  simp [allT]
end MWAll
