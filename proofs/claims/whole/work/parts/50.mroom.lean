section MRoom
variable {E : EV} {d : Nat} {σ : St} {T : Tb} {M : Mo} {P : List Mo} {tp : List Int}
theorem c_M_makesRoom {l s n : Int} (hF : Fix σ) (h1 : 0 ≤ l ∧ l < 4) (h2 : σ.1 47 (3 + 170 * l) = n) (h3 : 0 ≤ s ∧ s ≤ n ∧ n ≤ 7) :
    WMv E m_M_makesRoom (d + 1) [aP 42, aI l, aI s] σ (fun τ => Fr [(47, -1)] σ τ ∧ ∀ k, τ.1 47 k = if k = 3 + 170 * l then n + 1 else if plc l s + 21 ≤ k ∧ k < plc l n + 21 then σ.1 47 (k - 21) else σ.1 47 k) := by
  have p1 : plc l s = 5 + 170 * l + 21 * s := rfl
  have p2 : plc l n = 5 + 170 * l + 21 * n := rfl
  refine e_M_makesRoom _ _ hF (wmi_p (c_M_squaresOf hF h1) (wmi_p c_M_placeOf ?_))
  rw [h2]
  refine lpd (plc l s) (fun k τ => WP E m_M_makesRoom (d + 1) 12 [(0, aP 42), (1, aI l), (2, aI s), (3, aI k)] [] τ _) (fun k τ => plc l s - 1 ≤ k ∧ k < plc l n ∧ Fr [(47, -1)] σ τ ∧ ∀ j, τ.1 47 j = if k + 21 < j ∧ j < plc l n + 21 then σ.1 47 (j - 21) else σ.1 47 j) (fun k τ hI ih => ?_) _ _ ⟨by omega, by omega, Fr.refl _ _, fun j => by rw [if_neg (by omega)]⟩
  obtain ⟨i1, i2, i3, i4⟩ := hI
  have hT := i3.fix hF (by decide)
  have e0 : τ.1 47 (3 + 170 * l) = n := by rw [i4, if_neg (by omega), h2]
  refine b_M_makesRoom_12 _ _ _ hT (wmi_p c_M_placeOf ⟨hT, by omega, by omega, fun c => ⟨by omega, by omega, rfl, pre_eq i3.1, i3.tr (Fr.wr (frO_a (by decide) _)), fun j => ?_⟩, fun c => ⟨by omega, by omega, ih (by omega) _ ⟨by omega, by omega, i3.tr (Fr.wr (frO_a (by decide) _)), fun j => ?_⟩⟩⟩)
  · rw [wr_at, e0]
    by_cases hj : j = 3 + 170 * l
    · rw [if_pos ⟨rfl, hj⟩, if_pos hj]
    · rw [if_neg (fun q => hj q.2), if_neg hj, i4 j]
      by_cases hj2 : plc l s + 21 ≤ j ∧ j < plc l n + 21
      · rw [if_pos (by omega), if_pos hj2]
      · rw [if_neg (by omega), if_neg hj2]
  · rw [wr_at]
    by_cases hj : j = k + 21
    · rw [if_pos ⟨rfl, hj⟩, if_pos (by omega), i4 k, if_neg (by omega), hj]
      exact cgA _ (by omega)
    · rw [if_neg (fun q => hj q.2), i4 j]
      by_cases hj2 : k + 21 < j ∧ j < plc l n + 21
      · rw [if_pos hj2, if_pos (by omega)]
      · rw [if_neg hj2, if_neg (by omega)]
theorem c_M_removes {l s n : Int} (hF : Fix σ) (h1 : 0 ≤ l ∧ l < 4) (h2 : σ.1 47 (3 + 170 * l) = n) (h3 : 0 ≤ s ∧ s < n ∧ n ≤ 8) :
    WMv E m_M_removes (d + 1) [aP 42, aI l, aI s] σ (fun τ => Fr [(47, -1)] σ τ ∧ ∀ k, τ.1 47 k = if k = 3 + 170 * l then n - 1 else if plc l s ≤ k ∧ k < plc l n - 21 then σ.1 47 (k + 21) else σ.1 47 k) := by
  have p1 : plc l s = 5 + 170 * l + 21 * s := rfl
  have p2 : plc l n = 5 + 170 * l + 21 * n := rfl
  refine e_M_removes _ _ (wmi_p c_M_placeOf ?_)
  refine lpu (plc l n) (fun k τ => WP E m_M_removes (d + 1) 8 [(0, aP 42), (1, aI l), (3, aI k)] [] τ _) (fun k τ => plc l s + 21 ≤ k ∧ k ≤ plc l n ∧ Fr [(47, -1)] σ τ ∧ ∀ j, τ.1 47 j = if plc l s ≤ j ∧ j < k - 21 then σ.1 47 (j + 21) else σ.1 47 j) (fun k τ hI ih => ?_) _ _ ⟨by omega, by omega, Fr.refl _ _, fun j => by rw [if_neg (by omega)]⟩
  obtain ⟨i1, i2, i3, i4⟩ := hI
  have hT := i3.fix hF (by decide)
  have e0 : τ.1 47 (3 + 170 * l) = n := by rw [i4, if_neg (by omega), h2]
  refine b_M_removes_8 _ _ hT (wmi_p (c_M_squaresOf hT h1) ⟨hT, wmi_p c_M_placeOf ⟨hT, by omega, by omega, fun c => ⟨by omega, by omega, rfl, pre_eq i3.1, i3.tr (Fr.wr (frO_a (by decide) _)), fun j => ?_⟩, fun c => ⟨by omega, by omega, ih (by omega) _ ⟨by omega, by omega, i3.tr (Fr.wr (frO_a (by decide) _)), fun j => ?_⟩⟩⟩⟩)
  · rw [wr_at, e0]
    by_cases hj : j = 3 + 170 * l
    · rw [if_pos ⟨rfl, hj⟩, if_pos hj]
    · rw [if_neg (fun q => hj q.2), if_neg hj, i4 j]
      by_cases hj2 : plc l s ≤ j ∧ j < plc l n - 21
      · rw [if_pos (by omega), if_pos hj2]
      · rw [if_neg (by omega), if_neg hj2]
  · rw [wr_at]
    by_cases hj : j = k - 21
    · rw [if_pos ⟨rfl, hj⟩, if_pos (by omega), i4 k, if_neg (by omega), hj]
      exact cgA _ (by omega)
    · rw [if_neg (fun q => hj q.2), i4 j]
      by_cases hj2 : plc l s ≤ j ∧ j < k - 21
      · rw [if_pos hj2, if_pos (by omega)]
      · rw [if_neg hj2, if_neg (by omega)]
end MRoom
/-! changes of a line in a moment -/
def setLn (M : Mo) (l : Int) (L : Ln) : Mo := (M.1, M.2.1, M.2.2.set l.toNat L)
theorem MoAt_setLn {f g : Int → Int} {M : Mo} {l : Int} {L L' : Ln} (h : MoAt f 0 M) (hl : lnAt M l = some L) (hk : ∀ t : Nat × Ln, M.2.2[t.1]? = some t.2 → t.2.2.length ≤ 8 ∧ ∀ u ∈ t.2.2, (rc 0 u).length ≤ 20) (e : ∀ k, k < 3 + 170 * l ∨ 3 + 170 * l + 170 ≤ k → g k = f k) (hL : LnAt g (3 + 170 * l) L') : MoAt g 0 (setLn M l L') := by
  obtain ⟨a1, a2, a3, a4⟩ := h
  obtain ⟨l1, l2, l3⟩ := lnAt_some hl
  refine ⟨(e _ (by omega)).trans a1, (e _ (by omega)).trans a2, (e _ (by omega)).trans (by rw [a3]; exact congrArg Nat.cast (List.length_set).symm), fun q K hq => ?_⟩
  by_cases hq2 : q = l.toNat
  · subst hq2
    have : K = L' := by
      have h5 : (M.2.2.set l.toNat L')[l.toNat]? = some K := hq
      rw [List.getElem?_set_self (by omega)] at h5
      exact (Option.some.inj h5).symm
    subst this
    rw [show 0 + 3 + 170 * ((l.toNat : Nat) : Int) = 3 + 170 * l by omega]
    exact hL
  · have h5 : (M.2.2.set l.toNat L')[q]? = some K := hq
    rw [List.getElem?_set_ne (by omega)] at h5
    obtain ⟨b1, b2, b3⟩ := a4 q K h5
    obtain ⟨c1, c2⟩ := hk (q, K) h5
    refine ⟨(e _ (by omega)).trans b1, (e _ (by omega)).trans b2, fun s t hs => ?_⟩
    have h6 := (List.getElem?_eq_some_iff.mp hs).1
    have h7 := c2 t (List.mem_of_getElem? hs)
    obtain ⟨d1, d2⟩ := b3 s t hs
    simp only at c1
    exact ⟨(e _ (by omega)).trans d1, d2.congr (fun i hi => e _ (by omega))⟩
