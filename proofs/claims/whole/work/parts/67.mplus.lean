theorem plus_nat {D G B C : Nat} (hB : 0 < B) (hC : 0 < C) (h : D * G = B * C) (hD : 0 < D) : ∃ k, 0 < k ∧ G = k * (B / Nat.gcd D B) ∧ C = k * (D / Nat.gcd D B) := by
  have hy : 0 < Nat.gcd D B := Nat.gcd_pos_of_pos_left _ hD
  have hco := Nat.coprime_div_gcd_div_gcd hy
  have e1 := Nat.mul_div_cancel' (Nat.gcd_dvd_left D B)
  have e2 := Nat.mul_div_cancel' (Nat.gcd_dvd_right D B)
  generalize D / Nat.gcd D B = e at *
  generalize B / Nat.gcd D B = f at *
  generalize Nat.gcd D B = y at *
  have h1 : y * (e * G) = y * (f * C) := by rw [← Nat.mul_assoc, ← Nat.mul_assoc, e1, e2]; exact h
  have h2 : e * G = f * C := Nat.eq_of_mul_eq_mul_left hy h1
  have h3 : f ∣ G := hco.symm.dvd_of_dvd_mul_left ⟨C, h2⟩
  obtain ⟨k, hk⟩ := h3
  have hf : 0 < f := Nat.pos_of_ne_zero (fun q => by subst q; simp at e2; omega)
  have h4 : C = e * k := by
    refine Nat.eq_of_mul_eq_mul_left hf ?_
    rw [← h2, hk]
    exact Nat.mul_left_comm _ _ _
  refine ⟨k, Nat.pos_of_ne_zero (fun q => ?_), by rw [hk, Nat.mul_comm], by rw [h4, Nat.mul_comm]⟩
  subst q
  simp at h4
  omega
theorem plus_red {n N a b c : Int} (hN : 0 < N) (hb : 0 < b) (hbc : b * c = N) {q : Rat} (hq : q = Rat.divInt n N) : ∃ k : Int, 0 < k ∧ n + a * c = k * (q.num * (b / (Int.gcd q.den b : Nat)) + a * (q.den / (Int.gcd q.den b : Nat))) ∧ N = k * ((q.den / (Int.gcd q.den b : Nat)) * b) := by
  obtain ⟨G, g1, g2, g3, -⟩ := rat_red (n := n) hN
  rw [← hq] at g2 g3
  have hc : 0 < c := by
    refine Int.not_le.mp (fun q => ?_)
    have : b * c ≤ 0 := Int.mul_nonpos_of_nonneg_of_nonpos (by omega) q
    omega
  obtain ⟨B, rfl⟩ := Int.eq_ofNat_of_zero_le (Int.le_of_lt hb)
  obtain ⟨C, rfl⟩ := Int.eq_ofNat_of_zero_le (Int.le_of_lt hc)
  have h1 : q.den * G = B * C := by
    have : ((q.den * G : Nat) : Int) = ((B * C : Nat) : Int) := by rw [Int.natCast_mul, Int.natCast_mul, ← g3, ← hbc]
    exact Int.ofNat.inj this
  obtain ⟨k, k1, k2, k3⟩ := plus_nat (by omega) (by omega) h1 (Nat.pos_of_ne_zero q.den_nz)
  have ey : Int.gcd (q.den : Int) (B : Int) = Nat.gcd q.den B := rfl
  rw [ey]
  refine ⟨k, by omega, ?_, ?_⟩
  · rw [← Int.natCast_ediv, ← Int.natCast_ediv]
    conv => lhs; rw [g2, k2, k3]
    rw [Int.natCast_mul, Int.natCast_mul, Int.mul_add]
    congr 1
    · exact Int.mul_left_comm _ _ _
    · exact Int.mul_left_comm _ _ _
  · rw [← Int.natCast_ediv, ← hbc]
    conv => lhs; rw [k3]
    rw [Int.natCast_mul, Int.mul_comm, Int.mul_assoc]
theorem rat_add {n m N : Int} (hN : N ≠ 0) : Rat.divInt n N + Rat.divInt m N = Rat.divInt (n + m) N := by
  rw [Rat.divInt_add_divInt _ _ hN hN, ← Int.add_mul, Rat.divInt_mul_right hN]
section MPlus
variable {E : EV} {d : Nat} {σ : St} {T : Tb} {M : Mo} {P : List Mo} {tp : List Int}
theorem Told.den {q : Rat} (h : Told σ q) : 0 < σ.1 42 17 := by rw [h.2]; have := q.den_nz; omega
theorem le_of_mul_pos {k x L : Int} (hk : 0 < k) (h : -L ≤ k * x ∧ k * x ≤ L) : -L ≤ x ∧ x ≤ L := by
  have h1 : k * x = x + (k - 1) * x := by rw [Int.sub_mul]; omega
  by_cases hx : 0 ≤ x
  · have := Int.mul_nonneg (show 0 ≤ k - 1 by omega) hx
    omega
  · have := Int.mul_nonpos_of_nonneg_of_nonpos (show 0 ≤ k - 1 by omega) (show x ≤ 0 by omega)
    omega
theorem c_M_plus {n N a b c : Int} {q : Rat} (hF : Fix σ) (hq : Told σ q) (hqn : q = Rat.divInt n N) (hN : 0 < N ∧ N ≤ 9223372036854775807) (hb : 0 < b) (hbc : b * c = N) (hs : -9223372036854775807 ≤ n + a * c ∧ n + a * c ≤ 9223372036854775807) : WMv E m_M_plus (d + 2) [aP 42, aL a, aL b] σ (fun τ => Fr [(42, 16), (42, 17)] σ τ ∧ Told τ (Rat.divInt (n + a * c) N)) := by
  obtain ⟨k, k1, k2, k3⟩ := plus_red (a := a) hN.1 hb hbc hqn
  obtain ⟨G, g1, -, g3, -⟩ := rat_red (n := n) hN.1
  rw [← hqn] at g3
  have hdN : (q.den : Int) ≤ N := Int.le_of_dvd hN.1 ⟨G, g3⟩
  have hbN : b ≤ N := Int.le_of_dvd hN.1 ⟨c, hbc.symm⟩
  have hdp := hq.den
  have hy : 0 < Int.gcd (q.den : Int) b := Int.gcd_pos_of_ne_zero_right _ (by omega)
  have hyb : ((Int.gcd (q.den : Int) b : Nat) : Int) ≤ b := Int.le_of_dvd hb (Int.gcd_dvd_right _ _)
  refine e_M_plus _ _ hF (wml_p (c_M_common (by rw [hq.2]; omega) ⟨by omega, by omega⟩) ?_)
  rw [hq.1, hq.2]
  rw [Int.tdiv_eq_ediv_of_nonneg (by omega), Int.tdiv_eq_ediv_of_nonneg (by omega)]
  generalize hX : q.num * (b / (Int.gcd (q.den : Int) b : Nat)) + a * (q.den / (Int.gcd (q.den : Int) b : Nat)) = X at *
  generalize hY : (q.den / (Int.gcd (q.den : Int) b : Nat)) * b = Y at *
  have hXb := le_of_mul_pos k1 (by rw [← k2]; exact hs)
  have hYb := le_of_mul_pos (L := 9223372036854775807) (x := Y) k1 (by rw [← k3]; omega)
  have hY0 : 0 < Y := by
    refine Int.not_le.mp (fun q => ?_)
    have := Int.mul_nonpos_of_nonneg_of_nonpos (show 0 ≤ k by omega) q
    omega
  refine ⟨hF, ⟨by unfold rL; omega, by omega, by omega⟩, ⟨by unfold rL; omega, by omega, by omega⟩, ⟨by unfold rL; omega, by omega, by omega⟩, WMv.mono (c_M_tells hF hXb ⟨hY0, hYb.2⟩) (fun τ hp ht => ⟨rfl, hp, ht.1, ?_⟩)⟩
  rw [k2, k3, Rat.divInt_mul_left (by omega)]
  exact ht.2
theorem c_M_term {w : Int} (hF : Fix σ) (hw : rI w) : WMl E m_M_term d [aP 42, aI w] σ (fun r τ => r = (if w = 0 then σ.1 42 16 else σ.1 42 17) ∧ τ = σ) := by
  refine e_M_term _ hF ⟨hw, fun c => rl_p ?_, fun c => rl_p ?_⟩
  · rw [if_neg c]
  · rw [if_pos c]
end MPlus
