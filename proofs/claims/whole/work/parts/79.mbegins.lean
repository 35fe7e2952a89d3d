/-! a group's numbers: its scale, its left and top -/
def GrpAt (σ : St) (n : Nat) (S D L U : Int) : Prop := (σ.1 55 n = (Rat.divInt S D).num ∧ σ.1 56 n = (Rat.divInt S D).den) ∧ (σ.1 57 n = (Rat.divInt L (2 * D)).num ∧ σ.1 58 n = (Rat.divInt L (2 * D)).den) ∧ σ.1 59 n = (Rat.divInt U (2 * D)).num ∧ σ.1 60 n = (Rat.divInt U (2 * D)).den
def bgX : List (Int × Int) := [(42, 16), (42, 17), (42, 27), (61, -1), (62, -1), (63, -1), (57, -1), (58, -1), (59, -1), (60, -1)]
def udX : List (Int × Int) := [(42, 16), (42, 17)]
theorem rat_bd {n N : Int} (hN : 0 < N) {L : Int} (h : -L ≤ n ∧ n ≤ L) : (-L ≤ (Rat.divInt n N).num ∧ (Rat.divInt n N).num ≤ L) ∧ 0 < ((Rat.divInt n N).den : Int) ∧ ((Rat.divInt n N).den : Int) ≤ N := by
  obtain ⟨G, g1, g2, g3, -⟩ := rat_red (n := n) hN
  have hd := (Rat.divInt n N).den_nz
  refine ⟨le_of_mul_pos (k := G) (by omega) ?_, by omega, Int.le_of_dvd hN ⟨G, g3⟩⟩
  rw [Int.mul_comm, ← g2]; exact h
section MBegins
variable {E : EV} {d : Nat} {σ : St} {T : Tb} {M : Mo} {P : List Mo} {tp : List Int}
/-- a further term that is so many times the scale -/
theorem c_M_plusS {S D X v : Int} {q s : Rat} (hF : Fix σ) (hq : Told σ q) (hqn : q = Rat.divInt X (2 * D)) (hD : 0 < D ∧ D ≤ 466948881) (hs : s = Rat.divInt S D) (hb : -1000000000000 ≤ X + v * S ∧ X + v * S ≤ 1000000000000) : WMv E m_M_plus (d + 2) [aP 42, aL (v * s.num), aL (2 * (s.den : Int))] σ (fun τ => Fr udX σ τ ∧ Told τ (Rat.divInt (X + v * S) (2 * D))) := by
  obtain ⟨G, g1, g2, g3, -⟩ := rat_red (n := S) hD.1
  rw [← hs] at g2 g3
  have hden : 0 < (s.den : Int) := by have := s.den_nz; omega
  have e : X + v * s.num * (G : Int) = X + v * S := by rw [Int.mul_assoc, ← g2]
  have := c_M_plus (E := E) (d := d) (n := X) (N := 2 * D) (a := v * s.num) (b := 2 * (s.den : Int)) (c := G) hF hq hqn (by omega) (by omega) (by rw [Int.mul_assoc, ← g3]) (by rw [e]; omega)
  rw [e] at this
  exact this
theorem c_M_plusT {S D X v : Int} {q s : Rat} (hF : Fix σ) (hq : Told σ q) (hqn : q = Rat.divInt X (2 * D)) (hD : 0 < D ∧ D ≤ 466948881) (hs : s = Rat.divInt S D) (hb : -1000000000000 ≤ X + v * S * 2 ∧ X + v * S * 2 ≤ 1000000000000) : WMv E m_M_plus (d + 2) [aP 42, aL (v * s.num), aL (s.den : Int)] σ (fun τ => Fr udX σ τ ∧ Told τ (Rat.divInt (X + v * S * 2) (2 * D))) := by
  obtain ⟨G, g1, g2, g3, -⟩ := rat_red (n := S) hD.1
  rw [← hs] at g2 g3
  have hden : 0 < (s.den : Int) := by have := s.den_nz; omega
  have e : X + v * s.num * ((G : Int) * 2) = X + v * S * 2 := by rw [← Int.mul_assoc, Int.mul_assoc v, ← g2]
  have := c_M_plus (E := E) (d := d) (n := X) (N := 2 * D) (a := v * s.num) (b := (s.den : Int)) (c := (G : Int) * 2) hF hq hqn (by omega) (by omega) (by rw [← Int.mul_assoc, ← g3]; omega) (by rw [e]; omega)
  rw [e] at this
  exact this
theorem c_M_begins {k : Int} {n : Nat} {w h S D X Y p1 p2 p3 p4 : Int} (hF : Fix σ) (hk : 0 ≤ k ∧ k < 24) (hn : σ.1 42 27 = n) (hn12 : n < 12) (hs : σ.1 55 n = (Rat.divInt S D).num ∧ σ.1 56 n = (Rat.divInt S D).den) (hD : 0 < D ∧ D ≤ 466948881) (hwh : σ.1 52 k = w ∧ σ.1 53 k = h) (hwb : (0 ≤ w ∧ w ≤ 147) ∧ 0 ≤ h ∧ h ≤ 147) (hp : Rat.divInt p1 p2 = Rat.divInt X (2 * D)) (hp1 : -1000000000000 ≤ p1 ∧ p1 ≤ 1000000000000) (hp2 : 0 < p2 ∧ p2 ≤ 1000000000000) (hr : Rat.divInt p3 p4 = Rat.divInt Y (2 * D)) (hp3 : -1000000000000 ≤ p3 ∧ p3 ≤ 1000000000000) (hp4 : 0 < p4 ∧ p4 ≤ 1000000000000) (hX : 0 ≤ X - S * w ∧ X - S * w ≤ 1000000000000) (hY : 0 ≤ Y - S * h ∧ Y - S * h ≤ 1000000000000) :
    WMv E m_M_begins (d + 3) [aP 42, aI k, aL p1, aL p2, aL p3, aL p4] σ (fun τ => Fr bgX σ τ ∧ τ.1 42 27 = n + 1 ∧ (τ.1 61 k = n ∧ τ.1 62 k = 0 ∧ τ.1 63 k = 0) ∧ GrpAt τ n S D (X - S * w) (Y - S * h) ∧ (∀ j, j ≠ k → τ.1 61 j = σ.1 61 j ∧ τ.1 62 j = σ.1 62 j ∧ τ.1 63 j = σ.1 63 j) ∧ ∀ j, j ≠ (n : Int) → τ.1 57 j = σ.1 57 j ∧ τ.1 58 j = σ.1 58 j ∧ τ.1 59 j = σ.1 59 j ∧ τ.1 60 j = σ.1 60 j) := by
  have eX : X + (-w) * S = X - S * w := by rw [Int.neg_mul, Int.mul_comm w S]; omega
  have eY : Y + (-h) * S = Y - S * h := by rw [Int.neg_mul, Int.mul_comm h S]; omega
  generalize hsr : Rat.divInt S D = s at hs
  have f1 : Fr bgX σ (wr (wr (wr (wr σ 42 27 ((σ.1 42 27) + 1)) 61 k (σ.1 42 27)) 62 k 0) 63 k 0) := (((Fr.wr (frO_k (by decide))).tr (Fr.wr (frO_a (by decide) _))).tr (Fr.wr (frO_a (by decide) _))).tr (Fr.wr (frO_a (by decide) _))
  have g1 : (wr (wr (wr (wr σ 42 27 ((σ.1 42 27) + 1)) 61 k (σ.1 42 27)) 62 k 0) 63 k 0).1 42 27 = n + 1 := by rw [wr_na _ (by decide), wr_na _ (by decide), wr_na _ (by decide), wr_same, hn]
  have g2 : (wr (wr (wr (wr σ 42 27 ((σ.1 42 27) + 1)) 61 k (σ.1 42 27)) 62 k 0) 63 k 0).1 61 k = n ∧ (wr (wr (wr (wr σ 42 27 ((σ.1 42 27) + 1)) 61 k (σ.1 42 27)) 62 k 0) 63 k 0).1 62 k = 0 ∧ (wr (wr (wr (wr σ 42 27 ((σ.1 42 27) + 1)) 61 k (σ.1 42 27)) 62 k 0) 63 k 0).1 63 k = 0 := ⟨by rw [wr_na _ (by decide), wr_na _ (by decide), wr_same, hn], by rw [wr_na _ (by decide), wr_same], by rw [wr_same]⟩
  have g3 : ∀ j, j ≠ k → (wr (wr (wr (wr σ 42 27 ((σ.1 42 27) + 1)) 61 k (σ.1 42 27)) 62 k 0) 63 k 0).1 61 j = σ.1 61 j ∧ (wr (wr (wr (wr σ 42 27 ((σ.1 42 27) + 1)) 61 k (σ.1 42 27)) 62 k 0) 63 k 0).1 62 j = σ.1 62 j ∧ (wr (wr (wr (wr σ 42 27 ((σ.1 42 27) + 1)) 61 k (σ.1 42 27)) 62 k 0) 63 k 0).1 63 j = σ.1 63 j := fun j hj => ⟨by rw [wr_na _ (by decide), wr_na _ (by decide), wr_nk _ hj, wr_na _ (by decide)], by rw [wr_na _ (by decide), wr_nk _ hj, wr_na _ (by decide), wr_na _ (by decide)], by rw [wr_nk _ hj, wr_na _ (by decide), wr_na _ (by decide), wr_na _ (by decide)]⟩
  have F1 := f1.fix hF (by decide)
  have hpl : ∀ a j, a = 57 ∨ a = 58 ∨ a = 59 ∨ a = 60 → (wr (wr (wr (wr σ 42 27 ((σ.1 42 27) + 1)) 61 k (σ.1 42 27)) 62 k 0) 63 k 0).1 a j = σ.1 a j := fun a j ha => by
    rcases ha with rfl | rfl | rfl | rfl <;> rw [wr_na _ (by decide), wr_na _ (by decide), wr_na _ (by decide), wr_na _ (by decide)]
  refine e_M_begins _ _ _ _ _ hF ⟨hk, hk, hk, ?_⟩
  generalize (wr (wr (wr (wr σ 42 27 ((σ.1 42 27) + 1)) 61 k (σ.1 42 27)) 62 k 0) 63 k 0) = υ at *
  refine WMv.mono (c_M_tells F1 (by omega) (by omega)) (fun τ1 p1' t1 => ?_)
  have fr1 : Fr bgX σ τ1 := f1.tr (t1.1.mono (by decide))
  have FT1 := fr1.fix hF (by decide)
  have x1 : τ1.1 52 k = w := (fr1.2 _ _ rfl).trans hwh.1
  have x2 : τ1.1 55 n = s.num := (fr1.2 _ _ rfl).trans hs.1
  have x3 : τ1.1 56 n = s.den := (fr1.2 _ _ rfl).trans hs.2
  rw [hn, x1, x2, x3]
  have hn0 : (0 : Int) ≤ n ∧ (n : Int) < 12 := by omega
  refine ⟨FT1, hk, by omega, hn0, hn0, WMv.mono (c_M_plusS (S := S) (X := X) FT1 t1.2 hp hD hsr.symm (by rw [eX]; omega)) (fun τ2 p2' t2 => ?_)⟩
  rw [eX] at t2
  have fr2 : Fr bgX σ τ2 := fr1.tr (t2.1.mono (by decide))
  have FT2 := fr2.fix hF (by decide)
  have fw2 : Fr bgX τ2 (wr (wr τ2 57 n (τ2.1 42 16)) 58 n (τ2.1 42 17)) := (Fr.wr (frO_a (by decide) _)).tr (Fr.wr (frO_a (by decide) _))
  refine ⟨FT2, hn0, hn0, WMv.mono (c_M_tells (fw2.fix FT2 (by decide)) (by omega) (by omega)) (fun τ3 p3' t3 => ?_)⟩
  have fr3 : Fr bgX σ τ3 := (fr2.tr fw2).tr (t3.1.mono (by decide))
  have FT3 := fr3.fix hF (by decide)
  have y1 : τ3.1 53 k = h := (fr3.2 _ _ rfl).trans hwh.2
  have y2 : τ3.1 55 n = s.num := (fr3.2 _ _ rfl).trans hs.1
  have y3 : τ3.1 56 n = s.den := (fr3.2 _ _ rfl).trans hs.2
  rw [y1, y2, y3]
  refine ⟨FT3, hk, by omega, hn0, hn0, WMv.mono (c_M_plusS (S := S) (X := Y) FT3 t3.2 hr hD hsr.symm (by rw [eY]; omega)) (fun τ4 p4' t4 => ?_)⟩
  rw [eY] at t4
  have fr4 : Fr bgX σ τ4 := fr3.tr (t4.1.mono (by decide))
  have FT4 := fr4.fix hF (by decide)
  have fw4 : Fr bgX τ4 (wr (wr τ4 59 n (τ4.1 42 16)) 60 n (τ4.1 42 17)) := (Fr.wr (frO_a (by decide) _)).tr (Fr.wr (frO_a (by decide) _))
  -- the chain of states, but for up and down
  have c1 : ∀ a j, frO udX a j = true → τ1.1 a j = υ.1 a j := fun a j q => t1.1.2 a j q
  have c2 : ∀ a j, frO udX a j = true → τ2.1 a j = υ.1 a j := fun a j q => (t2.1.2 a j q).trans (c1 a j q)
  have c3 : ∀ a j, frO udX a j = true → τ3.1 a j = (wr (wr τ2 57 n (τ2.1 42 16)) 58 n (τ2.1 42 17)).1 a j := fun a j q => t3.1.2 a j q
  have c4 : ∀ a j, frO udX a j = true → τ4.1 a j = (wr (wr τ2 57 n (τ2.1 42 16)) 58 n (τ2.1 42 17)).1 a j := fun a j q => (t4.1.2 a j q).trans (c3 a j q)
  refine ⟨FT4, hn0, hn0, rfl, pre_eq (fr4.tr fw4).1, fr4.tr fw4, ?_, ⟨?_, ?_, ?_⟩, ⟨⟨?_, ?_⟩, ⟨?_, ?_⟩, ?_, ?_⟩, fun j hj => ⟨?_, ?_, ?_⟩, fun j hj => ⟨?_, ?_, ?_, ?_⟩⟩
  · rw [wr_na _ (by decide), wr_na _ (by decide), c4 _ _ rfl, wr_na _ (by decide), wr_na _ (by decide), c2 _ _ rfl]; exact g1
  · rw [wr_na _ (by decide), wr_na _ (by decide), c4 _ _ rfl, wr_na _ (by decide), wr_na _ (by decide), c2 _ _ rfl]; exact g2.1
  · rw [wr_na _ (by decide), wr_na _ (by decide), c4 _ _ rfl, wr_na _ (by decide), wr_na _ (by decide), c2 _ _ rfl]; exact g2.2.1
  · rw [wr_na _ (by decide), wr_na _ (by decide), c4 _ _ rfl, wr_na _ (by decide), wr_na _ (by decide), c2 _ _ rfl]; exact g2.2.2
  · rw [hsr, (fr4.tr fw4).2 _ _ rfl]; exact hs.1
  · rw [hsr, (fr4.tr fw4).2 _ _ rfl]; exact hs.2
  · rw [wr_na _ (by decide), wr_na _ (by decide), c4 _ _ rfl, wr_na _ (by decide), wr_same]; exact t2.2.1
  · rw [wr_na _ (by decide), wr_na _ (by decide), c4 _ _ rfl, wr_same]; exact t2.2.2
  · rw [wr_na _ (by decide), wr_same]; exact t4.2.1
  · rw [wr_same]; exact t4.2.2
  · rw [wr_na _ (by decide), wr_na _ (by decide), c4 _ _ rfl, wr_na _ (by decide), wr_na _ (by decide), c2 _ _ rfl]; exact (g3 j hj).1
  · rw [wr_na _ (by decide), wr_na _ (by decide), c4 _ _ rfl, wr_na _ (by decide), wr_na _ (by decide), c2 _ _ rfl]; exact (g3 j hj).2.1
  · rw [wr_na _ (by decide), wr_na _ (by decide), c4 _ _ rfl, wr_na _ (by decide), wr_na _ (by decide), c2 _ _ rfl]; exact (g3 j hj).2.2
  · rw [wr_na _ (by decide), wr_na _ (by decide), c4 _ _ rfl, wr_na _ (by decide), wr_nk _ hj, c2 _ _ rfl]; exact hpl _ _ (Or.inl rfl)
  · rw [wr_na _ (by decide), wr_na _ (by decide), c4 _ _ rfl, wr_nk _ hj, wr_na _ (by decide), c2 _ _ rfl]; exact hpl _ _ (Or.inr (Or.inl rfl))
  · rw [wr_na _ (by decide), wr_nk _ hj, c4 _ _ rfl, wr_na _ (by decide), wr_na _ (by decide), c2 _ _ rfl]; exact hpl _ _ (Or.inr (Or.inr (Or.inl rfl)))
  · rw [wr_nk _ hj, wr_na _ (by decide), c4 _ _ rfl, wr_na _ (by decide), wr_na _ (by decide), c2 _ _ rfl]; exact hpl _ _ (Or.inr (Or.inr (Or.inr rfl)))
end MBegins
