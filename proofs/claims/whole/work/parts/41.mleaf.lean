section MLeaf
variable {E : EV} {d : Nat} {σ : St}
theorem c_M_in {v lo hi : Int} (h1 : rI v) (h2 : rI lo) (h3 : rI hi) : WMi E m_M_in d [aI v, aI lo, aI hi] σ (fun r τ => r = b2i (lo ≤ v ∧ v ≤ hi) ∧ τ = σ) := by
  refine (e_M_in _ _ _ ⟨h1, h2, fun c => ?_, fun c => ⟨h1, h3, fun c2 => ?_, fun c2 => ?_⟩⟩)
  · exact ri_p (b2i_f (by omega)).symm
  · exact ri_p (b2i_f (by omega)).symm
  · exact ri_p (b2i_t (by omega)).symm
theorem c_M_isTold {l : Int} (hF : Fix σ) (h1 : rI l) (h2 : ∀ l, 0 ≤ l → l < 26 → rI (σ.1 43 l)) : WMi E m_M_isTold (d + 1) [aP 42, aI l] σ (fun r τ => r = b2i ((0 ≤ l ∧ l ≤ 25) ∧ 0 < σ.1 43 l) ∧ τ = σ) := by
  refine (e_M_isTold _ hF (wmi_p (c_M_in h1 (by decide) (by decide)) ⟨hF, b2i_r _, fun c => ?_, fun c => ?_⟩))
  · rw [b2i_0] at c
    exact ri_p (b2i_f (by omega)).symm
  · rw [b2i_n0] at c
    refine ⟨by omega, h2 _ (by omega) (by omega), fun c2 => ?_, fun c2 => ?_⟩
    · exact ri_p (b2i_f (by omega)).symm
    · exact ri_p (b2i_t (by omega)).symm
theorem c_M_isLine {l : Int} (hF : Fix σ) (h1 : rI l) (h2 : 0 ≤ σ.1 47 2 ∧ σ.1 47 2 ≤ 4) : WMi E m_M_isLine (d + 1) [aP 42, aI l] σ (fun r τ => r = b2i (0 ≤ l ∧ l < σ.1 47 2) ∧ τ = σ) := by
  refine (e_M_isLine _ hF (wmi_p (c_M_in h1 (by decide) (by omega)) ⟨b2i_01 _, ri_p ?_⟩))
  by_cases h : 0 ≤ l ∧ l < σ.1 47 2
  · rw [b2i_t h, b2i_t (by omega)]
  · rw [b2i_f h, b2i_f (by omega)]
theorem c_M_squaresOf {l : Int} (hF : Fix σ) (h1 : 0 ≤ l ∧ l < 4) : WMi E m_M_squaresOf d [aP 42, aI l] σ (fun r τ => r = σ.1 47 (3 + 170 * l) ∧ τ = σ) :=
  (e_M_squaresOf _ hF ⟨by omega, ri_p rfl⟩)
theorem c_M_isLeft {l : Int} (hF : Fix σ) (h1 : 0 ≤ l ∧ l < 4) (h2 : rI (σ.1 47 (3 + 170 * l + 1))) : WMi E m_M_isLeft d [aP 42, aI l] σ (fun r τ => r = b2i (σ.1 47 (3 + 170 * l + 1) = 1) ∧ τ = σ) :=
  (e_M_isLeft _ hF ⟨by omega, h2, fun c => ri_p (b2i_f c).symm, fun c => ri_p (b2i_t c).symm⟩)
theorem c_M_isSquare {l s : Int} (hF : Fix σ) (h1 : rI l) (h2 : rI s) (h3 : 0 ≤ σ.1 47 2 ∧ σ.1 47 2 ≤ 4) (h4 : ∀ l, 0 ≤ l → l < σ.1 47 2 → 0 ≤ σ.1 47 (3 + 170 * l) ∧ σ.1 47 (3 + 170 * l) ≤ 8) : WMi E m_M_isSquare (d + 2) [aP 42, aI l, aI s] σ (fun r τ => r = b2i ((0 ≤ l ∧ l < σ.1 47 2) ∧ 0 ≤ s ∧ s < σ.1 47 (3 + 170 * l)) ∧ τ = σ) := by
  refine (e_M_isSquare _ _ hF (wmi_p (c_M_isLine hF h1 h3) ⟨hF, b2i_r _, fun c => ?_, fun c => ?_⟩))
  · rw [b2i_0] at c
    exact ri_p (b2i_f (by omega)).symm
  · rw [b2i_n0] at c
    have h5 := h4 l c.1 c.2
    refine wmi_p (c_M_squaresOf hF (by omega)) (wmi_p (c_M_in h2 (by decide) (by omega)) ⟨b2i_r _, fun c2 => ?_, fun c2 => ?_⟩)
    · rw [b2i_0] at c2
      exact ri_p (b2i_f (by omega)).symm
    · rw [b2i_n0] at c2
      exact ri_p (b2i_t (by omega)).symm
theorem c_M_placeOf {l s : Int} : WMi E m_M_placeOf d [aI l, aI s] σ (fun r τ => r = 5 + 170 * l + 21 * s ∧ τ = σ) :=
  (e_M_placeOf _ _ (ri_p (by omega)))
/-- how many parts a node has -/
def ptsOf (n : Int) : Int := if n < 100 then 0 else if n < 200 then 1 else n % 100
theorem c_M_partsOf {n : Int} (h1 : 0 ≤ n ∧ n ≤ 1000) : WMi E m_M_partsOf d [aI n] σ (fun r τ => r = ptsOf n ∧ τ = σ) := by
  refine (e_M_partsOf _ ⟨by omega, fun c => ⟨by omega, fun c2 => ⟨by omega, ri_p ?_⟩, fun c2 => ri_p ?_⟩, fun c => ri_p ?_⟩)
  · unfold ptsOf; rw [if_neg (by omega), if_neg (by omega)]
  · unfold ptsOf; rw [if_neg (by omega), if_pos (by omega)]
  · unfold ptsOf; rw [if_pos (by omega)]
theorem c_M_isSign {n : Int} (h1 : rI n) : WMi E m_M_isSign d [aI n] σ (fun r τ => r = b2i (n < 200) ∧ τ = σ) :=
  (e_M_isSign _ ⟨h1, fun c => ri_p (b2i_f (by omega)).symm, fun c => ri_p (b2i_t (by omega)).symm⟩)
theorem c_M_letterOf {n : Int} (h1 : 0 ≤ n ∧ n ≤ 2147483647) : WMi E m_M_letterOf d [aI n] σ (fun r τ => r = n % 100 - 1 ∧ τ = σ) :=
  (e_M_letterOf _ ⟨h1, ri_p rfl⟩)
/-- the place and the length of a square's row -/
abbrev plc (l s : Int) : Int := 5 + 170 * l + 21 * s
theorem l_M_takes (hF : Fix σ) (p n : Int) (h1 : σ.1 42 10 = n) (h2 : 0 ≤ n ∧ n ≤ 20) (h3 : 0 ≤ p ∧ p ≤ 662) : ∀ (j : Nat) (k : Int), (j : Int) = n - k → 0 ≤ k → ∀ τ : St, Fix τ → τ.1 42 10 = n → Fr [(50, -1), (42, 10)] σ τ → (∀ i, 0 ≤ i → i < k → τ.1 50 i = σ.1 47 (p + 1 + i)) →
    WP E m_M_takes (d + 1) 19 [(0, aP 42), (3, aI p), (4, aI k)] [] τ (fun r υ => r = none ∧ Fr [(50, -1), (42, 10)] σ υ ∧ υ.1 42 10 = n ∧ ∀ i, 0 ≤ i → i < n → υ.1 50 i = σ.1 47 (p + 1 + i))
  | 0, k, hj, hk, τ, hT, hs, hf, hr => by
    refine b_M_takes_19 _ _ hT ⟨by omega, by omega, fun c => ⟨rfl, hf, hs, fun i h0 h1 => hr i h0 (by omega)⟩, fun c => ?_⟩
    omega
  | j + 1, k, hj, hk, τ, hT, hs, hf, hr => by
    refine b_M_takes_19 _ _ hT ⟨by omega, by omega, fun c => ?_, fun c => ⟨by omega, by omega, ?_⟩⟩
    · omega
    · refine l_M_takes hF p n h1 h2 h3 j (k + 1) (by omega) (by omega) _ (hT.wa (by decide)) ?_ (hf.tr (Fr.wr (frO_a (by decide) _))) (fun i h0 hi => ?_)
      · rw [wr_na _ (by decide)]; exact hs
      · rw [wr_at]
        by_cases hik : i = k
        · rw [if_pos ⟨rfl, hik⟩, hf.2 _ _ rfl, hik]
        · rw [if_neg (fun q => hik q.2)]
          exact hr i h0 (by omega)
end MLeaf
