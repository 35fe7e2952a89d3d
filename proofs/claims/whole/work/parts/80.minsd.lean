/-- a part's place: its group, and where it lies there, in halves of the group's scale -/
def Pl (σ : St) (T : Tb) (g sd : Int) (j : Int) (u : Tr) (q : Qd) : Prop := ∃ (n : Nat) (L U : Int), (σ.1 61 j = n ∧ (n : Int) < σ.1 42 27) ∧ GrpAt σ n q.1 q.2.1 L U ∧ ((0 ≤ σ.1 62 j ∧ σ.1 62 j + 2 * wid T g u ≤ 294) ∧ 0 ≤ σ.1 63 j ∧ σ.1 63 j + 2 * hei T g u ≤ 294) ∧ (q.2.2.1 - q.1 * wid T g u = L + σ.1 62 j * q.1 ∧ q.2.2.2 - q.1 * hei T g u = U + σ.1 63 j * q.1) ∧ (0 ≤ L ∧ L ≤ 2 * sd * q.2.1) ∧ 0 ≤ U ∧ U ≤ 2 * sd * q.2.1
theorem okQ_n {T : Tb} {g sd : Int} {u : Tr} {q : Qd} (h : okQ T g sd u q) (hs : 1 ≤ sd ∧ sd ≤ 24) (hw : 1 ≤ wid T g u) (hh : 1 ≤ hei T g u) : (0 < q.2.1 ∧ q.2.1 ≤ 466948881) ∧ (0 < q.1 ∧ q.1 ≤ q.2.1) ∧ 2 * sd * q.2.1 ≤ 22413546288 ∧ (0 ≤ q.2.2.1 ∧ q.2.2.1 ≤ 2 * sd * q.2.1) ∧ (0 ≤ q.2.2.2 ∧ q.2.2.2 ≤ 2 * sd * q.2.1) ∧ 0 < q.1 * wid T g u ∧ 0 < q.1 * hei T g u := by
  obtain ⟨⟨h1, h2⟩, h3, ⟨h4, h5⟩, h6, h7⟩ := h
  have hp := pw_pos (dcp u)
  have hD : q.2.1 ≤ q.2.1 * pw (dcp u) := by
    have := Int.mul_le_mul_of_nonneg_left hp (show 0 ≤ q.2.1 by omega)
    omega
  have m1 := Int.mul_pos h1 (show 0 < wid T g u by omega)
  have m2 := Int.mul_pos h1 (show 0 < hei T g u by omega)
  have m3 : 2 * sd * q.2.1 ≤ 48 * 466948881 := Int.mul_le_mul (by omega) (by omega) (by omega) (by omega)
  exact ⟨by omega, by omega, by omega, by omega, by omega, m1, m2⟩
theorem rat_sc {S D n d : Int} (hD : 0 < D) {s : Rat} (hs : s = Rat.divInt S D) : Rat.divInt (s.num * n) ((s.den : Int) * d) = Rat.divInt (S * n) (D * d) := by
  obtain ⟨G, g1, g2, g3, -⟩ := rat_red (n := S) hD
  rw [← hs] at g2 g3
  have e1 : S * n = s.num * n * (G : Int) := by conv => lhs; rw [g2]
                                                rw [Int.mul_assoc, Int.mul_comm (G : Int) n, ← Int.mul_assoc]
  have e2 : D * d = (s.den : Int) * d * (G : Int) := by conv => lhs; rw [g3]
                                                        rw [Int.mul_assoc, Int.mul_comm (G : Int) d, ← Int.mul_assoc]
  rw [e1, e2, Rat.divInt_mul_right (by omega)]
theorem rat_num_pos {S D : Int} (hS : 0 < S) (hD : 0 < D) : 0 < (Rat.divInt S D).num := by
  obtain ⟨G, g1, g2, g3, -⟩ := rat_red (n := S) hD
  refine Int.not_le.mp (fun q => ?_)
  have := Int.mul_nonpos_of_nonneg_of_nonpos (show (0 : Int) ≤ G by omega) q
  rw [Int.mul_comm] at this
  omega
def giX : List (Int × Int) := (55, -1) :: (56, -1) :: bgX
/-- a group is begun at a place, and nothing else of the places changes -/
def Begun (σ τ : St) (k : Int) (n : Nat) (S D L U : Int) : Prop := τ.1 42 27 = n + 1 ∧ (τ.1 61 k = n ∧ τ.1 62 k = 0 ∧ τ.1 63 k = 0) ∧ GrpAt τ n S D L U ∧ (∀ j, j ≠ k → τ.1 61 j = σ.1 61 j ∧ τ.1 62 j = σ.1 62 j ∧ τ.1 63 j = σ.1 63 j) ∧ ∀ j, j ≠ (n : Int) → (τ.1 55 j = σ.1 55 j ∧ τ.1 56 j = σ.1 56 j) ∧ τ.1 57 j = σ.1 57 j ∧ τ.1 58 j = σ.1 58 j ∧ τ.1 59 j = σ.1 59 j ∧ τ.1 60 j = σ.1 60 j
section MInsd
variable {E : EV} {d : Nat} {σ : St} {T : Tb} {M : Mo} {P : List Mo} {tp : List Int}
theorem c_M_goesInside {k n : Nat} {g sd : Int} {w : Tr} {l : Nat} {q : Qd} (hF : Fix σ) (hT : TabR σ T) (hkT : okTab T) (hg : 0 ≤ g ∧ g ≤ 3) (hsd : 1 ≤ sd ∧ sd ≤ 24) (hk : k < 23) (hn : σ.1 42 27 = n) (hn12 : n < 12) (hu : okU T (.pow w l)) (hq : okQ T g sd (.pow w l) q) (hrow : σ.1 50 k = nd (.pow w l)) (hz : σ.1 52 k = (T l).1 ∧ σ.1 53 k = (T l).2.1) (hz1 : σ.1 52 (k + 1) = wid T g w ∧ σ.1 53 (k + 1) = hei T g w) (hpl : Pl σ T g sd k (.pow w l) q) :
    WMv E m_M_goesInside (d + 4) [aP 42, aI k] σ (fun τ => Fr giX σ τ ∧ Begun σ τ (k + 1) n (insQ T g l w q).1 (insQ T g l w q).2.1 ((insQ T g l w q).2.2.1 - (insQ T g l w q).1 * wid T g w) ((insQ T g l w q).2.2.2 - (insQ T g l w q).1 * hei T g w)) := by
  have huw := okU_pow hu
  have hsz := okU_sz hkT hg huw
  have hsu := okU_sz hkT hg hu
  have hcb := core_b hkT hu
  have hl26 : l < 26 := hu.1.2
  have htb := hkT l hl26
  obtain ⟨⟨ib1, ib2, ib3⟩, -, -⟩ := inA_b (T := T) (g := g) (l := l) (t := w) ⟨hcb.1, hcb.2.2.1⟩ hsz.1 hsz.2
  have hqi := okQ_I hq hcb hsz.1 hsz.2
  have qn := okQ_n hq hsd hsu.1.1 hsu.2.1
  have qi := okQ_n hqi hsd hsz.1.1 hsz.2.1
  have hiw := hqi.2.2
  obtain ⟨n0, L, U, ⟨pg, pgl⟩, ⟨⟨ga1, ga2⟩, ⟨gb1, gb2⟩, gc1, gc2⟩, ⟨⟨pa1, pa2⟩, pd1, pd2⟩, ⟨px, py⟩, ⟨pL0, pL1⟩, pU0, pU1⟩ := hpl
  have ew : wid T g (.pow w l) = (T l).1 := rfl
  have eh : hei T g (.pow w l) = (T l).2.1 := rfl
  rw [ew] at px pa2 qn hsu
  rw [eh] at py pd2 qn hsu
  have eiQ : insQ T g l w q = (q.1 * (inA T g l w).1, q.2.1 * (inA T g l w).2, q.2.2.1 * (inA T g l w).2, q.2.2.2 * (inA T g l w).2) := rfl
  have hno : (n0 : Int) ≠ n := by rw [hn] at pgl; omega
  have hn0b : (0 : Int) ≤ n0 ∧ (n0 : Int) < 12 := by rw [hn] at pgl; omega
  have hnb : (0 : Int) ≤ n ∧ (n : Int) < 12 := by omega
  have hkb : (0 : Int) ≤ k ∧ (k : Int) < 24 := by omega
  have hk1b : (0 : Int) ≤ (k : Int) + 1 ∧ (k : Int) + 1 < 24 := by omega
  have t1 := (hT l hl26).2.2.1
  have t2 := (hT l hl26).2.2.2
  have fin : WP E m_M_goesInside (d + 4) 106 [(0, aP 42), (1, aI k), (2, aI n0), (4, aL (inA T g l w).1), (6, aL (inA T g l w).2)] [] σ (fun r τ => r = none ∧ σ.2 <+: τ.2 ∧ Fr giX σ τ ∧ Begun σ τ (k + 1) n (insQ T g l w q).1 (insQ T g l w q).2.1 ((insQ T g l w q).2.2.1 - (insQ T g l w q).1 * wid T g w) ((insQ T g l w q).2.2.2 - (insQ T g l w q).1 * hei T g w)) := by
    rw [eiQ] at qi hiw ⊢
    dsimp only at qi hiw ⊢
    generalize (inA T g l w).1 = a at *
    generalize (inA T g l w).2 = b at *
    generalize hs : Rat.divInt q.1 q.2.1 = s at ga1 ga2
    have sb := rat_bd (n := q.1) (N := q.2.1) qn.1.1 (L := 466948881) (by omega)
    have sp := rat_num_pos (S := q.1) (D := q.2.1) qn.2.1.1 qn.1.1
    rw [hs] at sb sp
    have m1 : s.num * a ≤ 466948881 * 147 := Int.mul_le_mul sb.1.2 (by omega) (by omega) (by omega)
    have m2 : (s.den : Int) * b ≤ 466948881 * 147 := Int.mul_le_mul (by omega) (by omega) (by omega) (by omega)
    have m3 := Int.mul_pos sp ib1
    have m4 := Int.mul_pos sb.2.1 (show 0 < b by omega)
    refine b_M_goesInside_106 _ _ _ _ hF ⟨hn0b, hn0b, ?_⟩
    rw [ga1, ga2]
    refine WMv.mono (c_M_tells hF (by omega) (by omega)) (fun τ1 p1 q1 => ?_)
    have F1 := q1.1.fix hF (by decide)
    have r1 : τ1.1 42 27 = n := (q1.1.2 _ _ rfl).trans hn
    have lu : τ1.1 57 n0 = (Rat.divInt L (2 * q.2.1)).num := (q1.1.2 _ _ rfl).trans gb1
    have ld : τ1.1 58 n0 = (Rat.divInt L (2 * q.2.1)).den := (q1.1.2 _ _ rfl).trans gb2
    rw [r1, lu, ld]
    have fw : Fr giX τ1 (wr (wr τ1 55 n (τ1.1 42 16)) 56 n (τ1.1 42 17)) := (Fr.wr (frO_a (by decide) _)).tr (Fr.wr (frO_a (by decide) _))
    have f2 : Fr giX σ (wr (wr τ1 55 n (τ1.1 42 16)) 56 n (τ1.1 42 17)) := (q1.1.mono (by decide)).tr fw
    have s1 : (wr (wr τ1 55 n (τ1.1 42 16)) 56 n (τ1.1 42 17)).1 55 n = (Rat.divInt (q.1 * a) (q.2.1 * b)).num := by
      rw [wr_na _ (by decide), wr_same, q1.2.1, rat_sc qn.1.1 hs.symm]
    have s2 : (wr (wr τ1 55 n (τ1.1 42 16)) 56 n (τ1.1 42 17)).1 56 n = (Rat.divInt (q.1 * a) (q.2.1 * b)).den := by
      rw [wr_same, q1.2.2, rat_sc qn.1.1 hs.symm]
    have s3 : ∀ j, j ≠ (n : Int) → (wr (wr τ1 55 n (τ1.1 42 16)) 56 n (τ1.1 42 17)).1 55 j = σ.1 55 j ∧ (wr (wr τ1 55 n (τ1.1 42 16)) 56 n (τ1.1 42 17)).1 56 j = σ.1 56 j := fun j hj => ⟨by rw [wr_na _ (by decide), wr_nk _ hj]; exact q1.1.2 _ _ rfl, by rw [wr_nk _ hj, wr_na _ (by decide)]; exact q1.1.2 _ _ rfl⟩
    have s4 : ∀ a j, frO giX a j = true ∨ a = 57 ∨ a = 58 ∨ a = 59 ∨ a = 60 ∨ a = 61 ∨ a = 62 ∨ a = 63 → (wr (wr τ1 55 n (τ1.1 42 16)) 56 n (τ1.1 42 17)).1 a j = σ.1 a j := fun a j h => by
      rcases h with h | h
      · exact f2.2 _ _ h
      · rcases h with rfl | rfl | rfl | rfl | rfl | rfl | rfl <;> rw [wr_na _ (by decide), wr_na _ (by decide)] <;> exact q1.1.2 _ _ rfl
    have s5 : (wr (wr τ1 55 n (τ1.1 42 16)) 56 n (τ1.1 42 17)).1 42 27 = n := by rw [wr_na _ (by decide), wr_na _ (by decide)]; exact r1
    have F2 := f2.fix hF (by decide)
    refine ⟨F1, hnb, hnb, hn0b, hn0b, ?_⟩
    generalize wr (wr τ1 55 n (τ1.1 42 16)) 56 n (τ1.1 42 17) = υ at *
    have Lb := rat_bd (n := L) (N := 2 * q.2.1) (by omega) (L := 22413546288) (by omega)
    have Ub := rat_bd (n := U) (N := 2 * q.2.1) (by omega) (L := 22413546288) (by omega)
    refine WMv.mono (c_M_tells F2 (by omega) (by omega)) (fun τ2 p2 q2 => ?_)
    rw [Rat.num_divInt_den] at q2
    have F3 := q2.1.fix F2 (by decide)
    have e1 : τ2.1 62 k = σ.1 62 k := (q2.1.2 _ _ rfl).trans (s4 _ _ (by simp))
    have e2 : τ2.1 52 k = (T l).1 := ((q2.1.2 _ _ rfl).trans (s4 _ _ (Or.inl rfl))).trans hz.1
    have e3 : τ2.1 55 n0 = s.num := ((q2.1.2 _ _ rfl).trans (s3 _ hno).1).trans ga1
    have e4 : τ2.1 56 n0 = s.den := ((q2.1.2 _ _ rfl).trans (s3 _ hno).2).trans ga2
    rw [e1, e2, e3, e4]
    have eX : L + (σ.1 62 k + (T l).1) * q.1 = q.2.2.1 := by rw [Int.add_mul, Int.mul_comm (T l).1 q.1]; omega
    have eY : U + (σ.1 63 k + (T l).2.1) * q.1 = q.2.2.2 := by rw [Int.add_mul, Int.mul_comm (T l).2.1 q.1]; omega
    refine ⟨F3, hkb, hkb, by omega, hn0b, hn0b, WMv.mono (c_M_plusS (S := q.1) (X := L) F3 q2.2 rfl qn.1 hs.symm (by rw [eX]; omega)) (fun τ3 p3 q3 => ?_)⟩
    rw [eX] at q3
    have F4 := q3.1.fix F3 (by decide)
    have tu : τ3.1 59 n0 = (Rat.divInt U (2 * q.2.1)).num := ((q3.1.2 _ _ rfl).trans ((q2.1.2 _ _ rfl).trans (s4 _ _ (by simp)))).trans gc1
    have td : τ3.1 60 n0 = (Rat.divInt U (2 * q.2.1)).den := ((q3.1.2 _ _ rfl).trans ((q2.1.2 _ _ rfl).trans (s4 _ _ (by simp)))).trans gc2
    rw [tu, td]
    refine ⟨F4, hn0b, hn0b, WMv.mono (c_M_tells F4 (by omega) (by omega)) (fun τ4 p4 q4 => ?_)⟩
    rw [Rat.num_divInt_den] at q4
    have F5 := q4.1.fix F4 (by decide)
    have c4 : ∀ a j, frO udX a j = true → τ4.1 a j = υ.1 a j := fun a j q => (q4.1.2 a j q).trans ((q3.1.2 a j q).trans (q2.1.2 a j q))
    have e5 : τ4.1 63 k = σ.1 63 k := (c4 _ _ rfl).trans (s4 _ _ (by simp))
    have e6 : τ4.1 53 k = (T l).2.1 := ((c4 _ _ rfl).trans (s4 _ _ (Or.inl rfl))).trans hz.2
    have e7 : τ4.1 55 n0 = s.num := ((c4 _ _ rfl).trans (s3 _ hno).1).trans ga1
    have e8 : τ4.1 56 n0 = s.den := ((c4 _ _ rfl).trans (s3 _ hno).2).trans ga2
    rw [e5, e6, e7, e8]
    refine ⟨F5, hkb, hkb, by omega, hn0b, hn0b, WMv.mono (c_M_plusS (S := q.1) (X := U) F5 q4.2 rfl qn.1 hs.symm (by rw [eY]; omega)) (fun τ5 p5 q5 => ?_)⟩
    rw [eY] at q5
    have F6 := q5.1.fix F5 (by decide)
    have c5 : ∀ a j, frO udX a j = true → τ5.1 a j = υ.1 a j := fun a j q => (q5.1.2 a j q).trans (c4 a j q)
    rw [q3.2.1, q3.2.2, q5.2.1, q5.2.2]
    have Xb := rat_bd (n := q.2.2.1) (N := 2 * q.2.1) (by omega) (L := 22413546288) (by omega)
    have Yb := rat_bd (n := q.2.2.2) (N := 2 * q.2.1) (by omega) (L := 22413546288) (by omega)
    have eqX : Rat.divInt (Rat.divInt q.2.2.1 (2 * q.2.1)).num ((Rat.divInt q.2.2.1 (2 * q.2.1)).den : Int) = Rat.divInt (q.2.2.1 * b) (2 * (q.2.1 * b)) := by
      rw [Rat.num_divInt_den, ← Int.mul_assoc, Rat.divInt_mul_right (by omega)]
    have eqY : Rat.divInt (Rat.divInt q.2.2.2 (2 * q.2.1)).num ((Rat.divInt q.2.2.2 (2 * q.2.1)).den : Int) = Rat.divInt (q.2.2.2 * b) (2 * (q.2.1 * b)) := by
      rw [Rat.num_divInt_den, ← Int.mul_assoc, Rat.divInt_mul_right (by omega)]
    refine ⟨F6, WMv.mono (c_M_begins (n := n) (w := wid T g w) (h := hei T g w) (S := q.1 * a) (D := q.2.1 * b) (X := q.2.2.1 * b) (Y := q.2.2.2 * b) F6 hk1b ((c5 _ _ rfl).trans s5) hn12 ⟨(c5 _ _ rfl).trans s1, (c5 _ _ rfl).trans s2⟩ qi.1 ⟨((c5 _ _ rfl).trans (s4 _ _ (Or.inl rfl))).trans hz1.1, ((c5 _ _ rfl).trans (s4 _ _ (Or.inl rfl))).trans hz1.2⟩ (by omega) eqX (by omega) (by omega) eqY (by omega) (by omega) (by omega) (by omega)) (fun τ6 p6 q6 => ?_)⟩
    obtain ⟨z1, z2, z3, z4, z5, z6⟩ := q6
    have f5 : Fr giX σ τ5 := ((((f2.tr (q2.1.mono (by decide))).tr (q3.1.mono (by decide))).tr (q4.1.mono (by decide))).tr (q5.1.mono (by decide)))
    refine ⟨rfl, pre_eq (f5.tr (z1.mono (by decide))).1, f5.tr (z1.mono (by decide)), z2, z3, z4, fun j hj => ?_, fun j hj => ⟨⟨?_, ?_⟩, ?_, ?_, ?_, ?_⟩⟩
    · obtain ⟨y1, y2, y3⟩ := z5 j hj
      exact ⟨y1.trans ((c5 _ _ rfl).trans (s4 _ _ (by simp))), y2.trans ((c5 _ _ rfl).trans (s4 _ _ (by simp))), y3.trans ((c5 _ _ rfl).trans (s4 _ _ (by simp)))⟩
    · exact (z1.2 _ _ rfl).trans ((c5 _ _ rfl).trans (s3 j hj).1)
    · exact (z1.2 _ _ rfl).trans ((c5 _ _ rfl).trans (s3 j hj).2)
    · exact (z6 j hj).1.trans ((c5 _ _ rfl).trans (s4 _ _ (by simp)))
    · exact (z6 j hj).2.1.trans ((c5 _ _ rfl).trans (s4 _ _ (by simp)))
    · exact (z6 j hj).2.2.1.trans ((c5 _ _ rfl).trans (s4 _ _ (by simp)))
    · exact (z6 j hj).2.2.2.trans ((c5 _ _ rfl).trans (s4 _ _ (by simp)))
  have hrn : nd (.pow w l) = (l : Int) + 101 := rfl
  have hlet : (σ.1 50 k) % 100 - 1 = l := by rw [hrow, hrn]; omega
  have hlb : (0 : Int) ≤ l ∧ (l : Int) < 26 := by omega
  have mid : ∀ a b : Int, (a, b) = (if (T l).2.2.1 < wid T g w then ((T l).2.2.1, wid T g w) else ((1 : Int), (1 : Int))) → WP E m_M_goesInside (d + 4) 60 [(0, aP 42), (1, aI k), (2, aI n0), (3, aI l), (4, aL a), (6, aL b)] [] σ (fun r τ => r = none ∧ σ.2 <+: τ.2 ∧ Fr giX σ τ ∧ Begun σ τ (k + 1) n (insQ T g l w q).1 (insQ T g l w q).2.1 ((insQ T g l w q).2.2.1 - (insQ T g l w q).1 * wid T g w) ((insQ T g l w q).2.2.2 - (insQ T g l w q).1 * hei T g w)) := by
    intro a b hab
    have hb1 : (1 ≤ a ∧ a ≤ 147) ∧ 1 ≤ b ∧ b ≤ 147 := by
      split at hab <;> (injection hab with h1 h2; omega)
    have einA : inA T g l w = if (T l).2.2.2 * b < a * hei T g w then ((T l).2.2.2, hei T g w) else (a, b) := by
      unfold inA
      rw [← hab]
    have m1 : (T l).2.2.2 * b ≤ 147 * 147 := Int.mul_le_mul (by omega) (by omega) (by omega) (by omega)
    have m2 : a * hei T g w ≤ 147 * 147 := Int.mul_le_mul (by omega) (by omega) (by omega) (by omega)
    have m3 := Int.mul_pos (show 0 < (T l).2.2.2 by omega) (show 0 < b by omega)
    have m4 := Int.mul_pos (show 0 < a by omega) (show 0 < hei T g w by omega)
    refine b_M_goesInside_60 _ _ _ _ _ hF ⟨hlb, ?_⟩
    rw [t2, hz1.2]
    refine ⟨by omega, hk1b, by omega, by unfold rL; omega, by unfold rL; omega, fun c => ?_, fun c => ⟨hlb, by omega, hk1b, by omega, ?_⟩⟩
    · rw [if_neg (by omega)] at einA
      rw [einA] at fin
      exact fin
    · rw [if_pos (by omega)] at einA
      rw [einA] at fin
      exact fin
  refine e_M_goesInside _ hF ⟨hkb, hkb, wmi_p (c_M_letterOf (by rw [hrow, hrn]; omega)) ?_⟩
  rw [hlet, t1, hz1.1, pg]
  refine ⟨hF, hlb, hk1b, by omega, by omega, fun c => mid 1 1 (by rw [if_neg (by omega)]), fun c => ⟨hlb, by omega, hk1b, by omega, mid _ _ (by rw [if_pos (by omega)])⟩⟩
end MInsd
