/-! FRACTIONS: what is told is a rational number -/
def Told (σ : St) (q : Rat) : Prop := σ.1 42 16 = q.num ∧ σ.1 42 17 = q.den
theorem rat_red {n N : Int} (hN : 0 < N) : ∃ g : Nat, 0 < g ∧ n = (Rat.divInt n N).num * g ∧ N = (Rat.divInt n N).den * g ∧ g = Int.gcd n N := by
  have hg : 0 < Int.gcd N n := Int.gcd_pos_of_ne_zero_left _ (by omega)
  refine ⟨Int.gcd N n, hg, ?_, ?_, Int.gcd_comm _ _⟩
  · rw [Rat.num_divInt, Int.sign_eq_one_of_pos hN, Int.one_mul]
    exact (Int.ediv_mul_cancel (Int.gcd_dvd_right _ _)).symm
  · rw [Rat.den_divInt, if_neg (by omega)]
    have h1 : Int.gcd N n ∣ N.natAbs := Int.gcd_dvd_natAbs_left _ _
    have h2 := Nat.div_mul_cancel h1
    have h3 : ((N.natAbs : Nat) : Int) = N := by omega
    rw [← Int.natCast_mul, h2, h3]
section MRat
variable {E : EV} {d : Nat} {σ : St} {T : Tb} {M : Mo} {P : List Mo} {tp : List Int}
theorem c_M_common {a b : Int} (ha : -9223372036854775807 ≤ a ∧ a ≤ 9223372036854775807) (hb : 0 ≤ b ∧ b ≤ 9223372036854775807) : WMl E m_M_common d [aL a, aL b] σ (fun r τ => r = Int.gcd a b ∧ τ = σ) := by
  have key : ∀ z : Nat × Nat, (Nat.gcd z.1 z.2 = Int.gcd a b ∧ z.1 ≤ 9223372036854775807 ∧ z.2 ≤ 9223372036854775807) → WP E m_M_common d 17 [(4, aL z.1), (6, aL z.2)] [] σ (fun r τ => ∃ v, r = some (aL v) ∧ σ.2 <+: τ.2 ∧ v = Int.gcd a b ∧ τ = σ) := by
    refine lpx (fun z => z.2) _ _ (fun z hI ih => ?_)
    obtain ⟨x, y⟩ := z
    obtain ⟨i1, i2, i3⟩ := hI
    simp only at i1 i2 i3 ih ⊢
    refine b_M_common_17 _ _ ⟨by omega, fun c => rl_p ?_, fun c => ⟨by omega, ?_⟩⟩
    · have : y = 0 := by omega
      subst this
      rw [← i1, Nat.gcd_zero_right]
    · have hy : 0 < y := by omega
      have h9 := ih (y, x % y) (Nat.mod_lt _ hy) ⟨by rw [← i1, Nat.gcd_comm x y, Nat.gcd_rec y x, Nat.gcd_comm], i3, by have := Nat.mod_lt x hy; show x % y ≤ _; omega⟩
      simp only at h9
      rw [show ((x % y : Nat) : Int) = (x : Int) % (y : Int) by omega] at h9
      exact h9
  have e2 : ((b.natAbs : Nat) : Int) = b := by omega
  refine e_M_common _ _ ⟨by omega, fun c => b_M_common_12 _ _ ?_, fun c => b_M_common_12 _ _ ?_⟩
  · have h9 := key (a.natAbs, b.natAbs) ⟨rfl, by show a.natAbs ≤ _; omega, by show b.natAbs ≤ _; omega⟩
    simp only at h9
    rw [e2, show ((a.natAbs : Nat) : Int) = a by omega] at h9
    exact h9
  · have h9 := key (a.natAbs, b.natAbs) ⟨rfl, by show a.natAbs ≤ _; omega, by show b.natAbs ≤ _; omega⟩
    simp only at h9
    rw [e2, show ((a.natAbs : Nat) : Int) = -a by omega] at h9
    exact h9
theorem c_M_tells {a b : Int} (hF : Fix σ) (ha : -9223372036854775807 ≤ a ∧ a ≤ 9223372036854775807) (hb : 0 < b ∧ b ≤ 9223372036854775807) : WMv E m_M_tells (d + 1) [aP 42, aL a, aL b] σ (fun τ => Fr [(42, 16), (42, 17)] σ τ ∧ Told τ (Rat.divInt a b)) := by
  obtain ⟨g, g1, g2, g3, g4⟩ := rat_red (n := a) hb.1
  refine e_M_tells _ _ hF (wml_p (c_M_common ha ⟨by omega, hb.2⟩) ?_)
  rw [← g4]
  have hgb : (g : Int) ≤ b := Int.le_of_dvd hb.1 ⟨(Rat.divInt a b).den, by rw [Int.mul_comm]; exact g3⟩
  refine ⟨hF, ⟨by unfold rL; omega, by omega, by omega⟩, ⟨by unfold rL; omega, by omega, by omega⟩, rfl, List.prefix_refl _, (Fr.wr (frO_k (by decide))).tr (Fr.wr (frO_k (by decide))), ?_, ?_⟩
  · rw [wr_nk _ (by decide), wr_same]
    conv => lhs; rw [g2]
    exact Int.mul_tdiv_cancel _ (by omega)
  · rw [wr_same]
    conv => lhs; rw [g3]
    exact Int.mul_tdiv_cancel _ (by omega)
end MRat
