def lnX : List (Int × Int) := (50, -1) :: (42, 10) :: wrX
section MWLine2
variable {E : EV} {d : Nat} {σ : St} {T : Tb} {M : Mo} {P : List Mo} {tp : List Int} {X : List Int}
theorem c_M_writesLine {l : Int} {L : Ln} (h : RS σ T M P tp) (hk : okMo T M) (hl : lnAt M l = some L) (hx : TxIs σ X) (hn : X.length + (lnT L).length < 2590) : WMv E m_M_writesLine (d + 3) [aP 42, aI l] σ (fun τ => Fr lnX σ τ ∧ TxIs τ (X ++ lnT L)) := by
  have hF := h.1.1
  have hL8 := (hk.ln hl).1.1.2
  generalize hW : X ++ lnT L = W
  have hWl : W.length < 2590 := by rw [← hW, List.length_append]; exact hn
  have loop : ∀ z : Nat × St × List Int, (z.1 ≤ L.2.length ∧ Fr lnX σ z.2.1 ∧ TxIs z.2.1 z.2.2 ∧ z.2.2 ++ (sqT z.1 (L.2.drop z.1) ++ [59]) = W) → WP E m_M_writesLine (d + 3) 26 [(0, aP 42), (1, aI l), (2, aI z.1)] [] z.2.1 (fun r τ => r = none ∧ σ.2 <+: τ.2 ∧ Fr lnX σ τ ∧ TxIs τ W) := by
    refine lpx (fun z => L.2.length - z.1) _ _ (fun z hI ih => ?_)
    obtain ⟨k, τ, Y⟩ := z
    obtain ⟨i1, i2, i3, i4⟩ := hI
    simp only at i1 i2 i3 i4 ih ⊢
    have hT := h.scr (i2.mono (by decide))
    have hYl : Y.length + 1 ≤ W.length := by rw [← i4]; simp only [List.length_append, List.length_singleton]; omega
    refine b_M_writesLine_26 _ _ hT.1.1 (wmi_p (c_M_squaresOf' hT hk hl) ⟨hT.1.1, by omega, by omega, fun c => ?_, fun c => ?_⟩)
    · rw [List.drop_eq_nil_of_le (by omega)] at i4
      refine WMv.mono (c_M_writes hT.1.1 i3 (by omega)) (fun υ hp hq => ⟨rfl, (pre_eq i2.1).trans hp, i2.tr (hq.1.mono (by decide)), ?_⟩)
      rw [← i4]
      exact hq.2
    · have hlt : k < L.2.length := by omega
      have hs : sqAt M l k = some (L.2[k]) := by simp [sqAt, hl, sqIn, hlt]
      rw [List.drop_eq_getElem_cons hlt] at i4
      generalize L.2[k] = t at hs i4
      obtain ⟨a1, a2, a3, a4, a5, a6, a7⟩ := hT.1.2.2.sq hk hs
      refine WMv.mono (c_M_takes' hT hk hs) (fun υ hp hq => ?_)
      have f2 : Fr lnX σ υ := i2.tr (hq.1.mono (by decide))
      have hU := h.scr (f2.mono (by decide))
      have x2 : TxIs υ Y := ⟨(hq.1.2 _ _ rfl).trans i3.1, i3.2.congr (fun i hi => hq.1.2 _ _ rfl)⟩
      have row : ∀ (ω : St) (Z : List Int), Fr txX υ ω → TxIs ω Z → Z ++ (tx 0 t ++ (sqT (k + 1) (L.2.drop (k + 1)) ++ [59])) = W → WP E m_M_writesLine (d + 3) 67 [(0, aP 42), (1, aI l), (2, aI k)] [] ω (fun r τ => r = none ∧ σ.2 <+: τ.2 ∧ Fr lnX σ τ ∧ TxIs τ W) := by
        intro ω Z e1 e2 e3
        have hO := e1.fix hU.1.1 (by decide)
        have hRo : RowIs ω (rc 0 t) := ⟨(e1.2 _ _ rfl).trans hq.2.1, hq.2.2.congr (fun i hi => e1.2 _ _ rfl)⟩
        have hZl : Z.length + (tx 0 t).length + 1 ≤ W.length := by rw [← e3]; simp; omega
        refine b_M_writesLine_67 _ _ hO (WMv.mono (c_M_writesRow hO hRo e2 a5.1 a5.2.1 (by omega)) (fun χ hp2 hq2 => ?_))
        have h9 := ih (k + 1, χ, Z ++ tx 0 t) (by show L.2.length - (k + 1) < L.2.length - k; omega) ⟨by show k + 1 ≤ _; omega, (f2.tr (e1.mono (by decide))).tr (hq2.1.mono (by decide)), hq2.2, by rw [← e3]; simp⟩
        simp only at h9
        rw [show ((k + 1 : Nat) : Int) = (k : Int) + 1 by omega] at h9
        exact h9
      simp only [sqT] at i4
      refine ⟨hU.1.1, by omega, fun c2 => wmi_p (c_M_isLetterFirst hU.1.1 hq.2 a5.1 a5.2.1) ⟨hU.1.1, b2i_r _, fun c3 => row υ Y (Fr.refl _ _) x2 ?_, fun c3 => WMv.mono (c_M_writes hU.1.1 x2 (by omega)) (fun ω hp2 hq2 => row ω _ hq2.1 hq2.2 ?_)⟩, fun c2 => WMv.mono (c_M_writes hU.1.1 x2 (by omega)) (fun ω hp2 hq2 => row ω _ hq2.1 hq2.2 ?_)⟩
      · rw [b2i_0] at c3
        rw [if_neg (by omega), if_neg c3] at i4
        rw [← i4]; simp
      · rw [b2i_n0] at c3
        rw [if_neg (by omega), if_pos c3] at i4
        rw [← i4]; simp
      · rw [if_pos (by omega)] at i4
        rw [← i4]; simp
  have hsp : X.length + 9 < 2600 := by omega
  refine e_M_writesLine _ hF (WMv.mono (c_M_writesWord (k := 4) hF h.2.2.2 hx (by decide) (by omega)) (fun τ hp hq => ?_))
  have hT := h.scr (hq.1.mono (by decide))
  have hl4 : (X ++ wd 4).length = X.length + 4 := by rw [List.length_append]; rfl
  refine ⟨hT.1.1, wmi_p (c_M_isLeft' hT hk hl) ⟨hT.1.1, b2i_r _, fun c => ?_, fun c => WMv.mono (c_M_writes hT.1.1 hq.2 (by omega)) (fun υ hp2 hq2 => ?_)⟩⟩
  · rw [b2i_0] at c
    refine b_M_writesLine_24 _ (loop (0, τ, X ++ wd 4) ⟨Nat.zero_le _, hq.1.mono (by decide), hq.2, ?_⟩)
    rw [← hW]
    simp [lnT, c]
  · rw [b2i_n0] at c
    have hU := hT.scr (hq2.1.mono (by decide))
    refine ⟨hU.1.1, WMv.mono (c_M_writesWord (k := 5) hU.1.1 hU.2.2.2 hq2.2 (by decide) (by rw [List.length_append, hl4]; simp; omega)) (fun ω hp3 hq3 => ?_)⟩
    refine b_M_writesLine_24 _ (loop (0, ω, X ++ wd 4 ++ [32] ++ wd 5) ⟨Nat.zero_le _, ((hq.1.mono (by decide)).tr (hq2.1.mono (by decide))).tr (hq3.1.mono (by decide)), hq3.2, ?_⟩)
    rw [← hW]
    simp [lnT, c]
end MWLine2
