theorem sum_take_succ {α : Type} {f : α → Nat} {L : List α} {k : Nat} (h : k < L.length) : ((L.take (k + 1)).map f).sum = ((L.take k).map f).sum + f L[k] := by
  have e : L.take (k + 1) = L.take k ++ [L[k]] := by rw [List.take_add_one, List.getElem?_eq_getElem h]; rfl
  rw [e, List.map_append, List.sum_append_nat]
  rfl
section MAsk
variable {E : EV} {d : Nat} {σ : St} {T : Tb} {M : Mo} {P : List Mo} {tp : List Int}
theorem RS.squares {l : Int} {L : Ln} (h : RS σ T M P tp) (hl : lnAt M l = some L) : σ.1 47 (3 + 170 * l) = L.2.length ∧ σ.1 47 (3 + 170 * l + 1) = (if L.1 then 1 else 0) := by
  have h6 := h.1.2.2.ln hl
  rw [show 0 + 3 + 170 * l = 3 + 170 * l by omega] at h6
  exact ⟨h6.1, h6.2.1⟩
theorem c_M_squaresOf' {l : Int} {L : Ln} (h : RS σ T M P tp) (hk : okMo T M) (hl : lnAt M l = some L) : WMi E m_M_squaresOf d [aP 42, aI l] σ (fun r τ => r = L.2.length ∧ τ = σ) :=
  WMi.mono (c_M_squaresOf h.1.1 (hk.ln hl).2) (fun r τ _ hq => ⟨hq.1.trans (h.squares hl).1, hq.2⟩)
theorem c_M_isLeft' {l : Int} {L : Ln} (h : RS σ T M P tp) (hk : okMo T M) (hl : lnAt M l = some L) : WMi E m_M_isLeft d [aP 42, aI l] σ (fun r τ => r = b2i (L.1 = true) ∧ τ = σ) := by
  have h2 := (h.squares hl).2
  refine WMi.mono (c_M_isLeft h.1.1 (hk.ln hl).2 (by rw [h2]; split <;> decide)) (fun r τ _ hq => ⟨hq.1.trans ?_, hq.2⟩)
  rw [h2]
  cases L.1 <;> rfl
theorem c_M_column {l s : Int} (h : RS σ T M P tp) (hk : okMo T M) (h1 : rI l) (h2 : rI s) : WMi E m_M_column (d + 3) [aP 42, aI l, aI s] σ (fun r τ => r = (match lnAt M l with | none => -1 | some L => match sqIn L s with | none => -1 | some _ => if L.1 then L.2.length - 1 - s else s) ∧ τ = σ) := by
  have hF := h.1.1
  refine e_M_column _ _ hF ?_
  refine wmi_p (c_M_isSquare' h hk h1 h2) ⟨hF, b2i_r _, fun c => ?_, fun c => ?_⟩
  · rw [b2i_n0] at c
    obtain ⟨t, ht⟩ := Option.isSome_iff_exists.mp c
    obtain ⟨L, hl, hs⟩ := sqAt_some ht
    have hL := (hk.ln hl).1.1
    refine wmi_p (c_M_isLeft' h hk hl) ⟨hF, b2i_r _, fun c => ?_, fun c => wmi_p (c_M_squaresOf' h hk hl) ?_⟩
    · rw [b2i_0] at c
      refine ri_p ?_
      simp [hl, hs, c]
    · rw [b2i_n0] at c
      refine ri_p ?_
      simp [hl, hs, c]
  · rw [b2i_0] at c
    refine ri_p ?_
    cases hl : lnAt M l with
    | none => rfl
    | some L =>
      cases hs : sqIn L s with
      | none => simp [hs]
      | some t => exact absurd (by simp [sqAt, hl, hs]) c
/-- the sum over squares -/
theorem c_M_signsOfLine {l : Int} {L : Ln} (h : RS σ T M P tp) (hk : okMo T M) (hl : lnAt M l = some L) : WMi E m_M_signsOfLine (d + 3) [aP 42, aI l] σ (fun r τ => r = ((L.2.map sg).sum : Nat) ∧ τ = σ) := by
  have hF := h.1.1
  have hL := (hk.ln hl).1
  refine e_M_signsOfLine _ ?_
  have key : ∀ s : Int × Int, (0 ≤ s.1 ∧ s.1 ≤ L.2.length ∧ s.2 = (((L.2.take s.1.toNat).map sg).sum : Nat)) → WP E m_M_signsOfLine (d + 3) 4 [(0, aP 42), (1, aI l), (2, aI s.2), (3, aI s.1)] [] σ (fun r τ => ∃ v, r = some (aI v) ∧ σ.2 <+: τ.2 ∧ v = ((L.2.map sg).sum : Nat) ∧ τ = σ) := by
    refine lpx (fun s => ((L.2.length : Int) - s.1).toNat) _ _ (fun s hI ih => ?_)
    obtain ⟨k, v⟩ := s
    obtain ⟨i1, i2, i3⟩ := hI
    simp only at i1 i2 i3 ih ⊢
    have hL8 := hL.1.2
    refine b_M_signsOfLine_4 _ _ _ hF (wmi_p (c_M_squaresOf' h hk hl) ⟨hF, by omega, by omega, fun c => ri_p ?_, fun c => ?_⟩)
    · rw [i3, show k.toNat = L.2.length by omega, List.take_length]
    · have hlt : k.toNat < L.2.length := by omega
      have hs : sqAt M l k = some (L.2[k.toNat]) := by simp [sqAt, hl, sqIn, i1, hlt]
      obtain ⟨a1, a2, a3, a4, a5, a6, a7⟩ := h.1.2.2.sq hk hs
      refine wmi_p (c_M_signsOf hF a1 a2 a3 (by omega) a4 a7) ?_
      refine ih (k + 1, _) (by show ((L.2.length : Int) - (k + 1)).toNat < ((L.2.length : Int) - k).toNat; omega) ⟨by show 0 ≤ k + 1; omega, by show k + 1 ≤ (L.2.length : Int); omega, ?_⟩
      show v + _ = ((((L.2.take (k + 1).toNat).map sg).sum : Nat) : Int)
      rw [rc_cnt a5.1, i3, show (k + 1).toNat = k.toNat + 1 by omega, sum_take_succ hlt, Int.natCast_add]
  exact key (0, 0) ⟨Int.le_refl _, by show (0 : Int) ≤ L.2.length; omega, by simp⟩
theorem c_M_line {l w : Int} (h : RS σ T M P tp) (hk : okMo T M) (h1 : rI l) (h2 : rI w) : WMi E m_M_line (d + 4) [aP 42, aI l, aI w] σ (fun r τ => r = (match lnAt M l with | none => -1 | some L => if w = 0 then (L.2.length : Int) else if w = 1 then ((L.2.map sg).sum : Nat) else if w = 2 then (if L.1 then 1 else 0) else -1) ∧ τ = σ) := by
  have hF := h.1.1
  refine e_M_line _ _ hF (wmi_p (c_M_isLine' h hk h1) ⟨hF, b2i_r _, fun c => ?_, fun c => ?_⟩)
  · rw [b2i_n0] at c
    obtain ⟨L, hl⟩ := Option.isSome_iff_exists.mp c
    refine ⟨h2, fun c => wmi_p (c_M_squaresOf' h hk hl) (ri_p (by simp [hl, c])), fun c => wmi_p (c_M_signsOfLine h hk hl) (ri_p (by simp [hl, c])), fun c => wmi_p (c_M_isLeft' h hk hl) ⟨b2i_r _, fun c2 => ?_, fun c2 => ?_⟩, fun c => ri_p ?_⟩
    · rw [b2i_0] at c2
      exact ri_p (by simp [hl, c, c2])
    · rw [b2i_n0] at c2
      exact ri_p (by simp [hl, c, c2])
    · rw [hl]
      dsimp only
      rw [if_neg (by omega), if_neg (by omega), if_neg (by omega)]
  · rw [b2i_0] at c
    cases hl : lnAt M l with
    | none => exact ri_p (by rfl)
    | some L => exact absurd (by simp [hl]) c
end MAsk
