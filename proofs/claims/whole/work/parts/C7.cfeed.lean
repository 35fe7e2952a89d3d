/-! FEED -/
theorem iand_mod (y : Int) : iand y 255 = y % 256 := by
  have h1 : ((Int32.ofInt y &&& Int32.ofInt 255).toBitVec).toNat = (y % 4294967296).toNat % 256 := by
    rw [Int32.toBitVec_and, BitVec.toNat_and]
    have e1 : (Int32.ofInt 255).toBitVec.toNat = 2 ^ 8 - 1 := by decide
    have e2 : (Int32.ofInt y).toBitVec.toNat = (y % 4294967296).toNat := by
      show (BitVec.ofInt 32 y).toNat = _
      rw [BitVec.toNat_ofInt]
      rfl
    rw [e1, e2, Nat.and_two_pow_sub_one_eq_mod]
  have h2 : (Int32.ofInt y &&& Int32.ofInt 255).toInt = ((Int32.ofInt y &&& Int32.ofInt 255).toBitVec).toNat := by
    show ((Int32.ofInt y &&& Int32.ofInt 255).toBitVec).toInt = _
    exact BitVec.toInt_eq_toNat_of_lt (by omega)
  unfold iand
  rw [h2, h1]
  omega
theorem bmod_bt (v : Int) (k : Nat) : Int.bmod (bt v k) 256 = Int.bmod (ishr v (24 - 8 * (k : Int))) 256 := by
  unfold bt
  rw [iand_mod]
  exact Int.emod_bmod _ 256
def Tq (σ : St) (tp : List Int) : Prop := σ.1 12 1 = tp.length ∧ ∀ (i : Nat) (x : Int), tp[i]? = some x → σ.1 13 i = Int.bmod x 256
section CFeed
variable {E : EV} {d : Nat} {σ : St} {b : Int} {T : Tb} {M : Mo} {P : List Mo} {tp : List Int}
theorem bmod_b (y : Int) : -128 ≤ Int.bmod y 256 ∧ Int.bmod y 256 ≤ 127 := by
  have h1 := Int.le_bmod (x := y) (m := 256) (by decide)
  have h2 := Int.bmod_lt (x := y) (m := 256) (by decide)
  omega
theorem c_Reader_takeFour {v : Int} (hF : Fix σ) (h : Tq σ tp) (hn : tp.length + 4 ≤ 400) : WMv E m_Reader_takeFour d [aP 12, aI v] σ (fun τ => Fr [(13, -1), (12, 1)] σ τ ∧ Tq τ (tp ++ [bt v 0, bt v 1, bt v 2, bt v 3])) := by
  refine e_Reader_takeFour _ ?_
  have key : ∀ (s : Nat × St), (s.1 ≤ 4 ∧ Fr [(13, -1), (12, 1)] σ s.2 ∧ Tq s.2 (tp ++ [bt v 0, bt v 1, bt v 2, bt v 3].take s.1)) → WP E m_Reader_takeFour d 3 [(0, aP 12), (1, aI v), (2, aI (24 - 8 * (s.1 : Int)))] [] s.2 (fun r τ => r = none ∧ σ.2 <+: τ.2 ∧ Fr [(13, -1), (12, 1)] σ τ ∧ Tq τ (tp ++ [bt v 0, bt v 1, bt v 2, bt v 3])) := by
    refine lpx (fun s => 4 - s.1) _ _ (fun s hI ih => ?_)
    obtain ⟨k, τ⟩ := s
    obtain ⟨i1, i2, i3⟩ := hI
    simp only at i1 i2 i3 ih ⊢
    have hlen : (tp ++ [bt v 0, bt v 1, bt v 2, bt v 3].take k).length = tp.length + k := by simp; omega
    have h1 := i3.1
    have hT := i2.fix hF (by decide)
    refine b_Reader_takeFour_3 _ _ hT ⟨by omega, fun c => ⟨rfl, pre_eq i2.1, i2, ?_⟩, fun c => ⟨by omega, fun c2 => by omega, fun c2 => ⟨by omega, fun c3 => by omega, fun c3 => ⟨by omega, bmod_b _, ?_⟩⟩⟩⟩
    · have : k = 4 := by omega
      subst this
      exact i3
    · have h9 := ih (k + 1, wr (wr τ 13 (τ.1 12 1) (Int.bmod (ishr v (24 - 8 * (k : Int))) 256)) 12 1 (τ.1 12 1 + 1)) (by show 4 - (k + 1) < 4 - k; omega) ⟨by show k + 1 ≤ 4; omega, (i2.tr (Fr.wr (frO_a (by decide) _))).tr (Fr.wr (frO_k (by decide))), ?_, fun i x hx => ?_⟩
      · rw [show (24 : Int) - 8 * (k : Int) + -8 = 24 - 8 * ((k + 1 : Nat) : Int) by omega]
        exact h9
      · show (wr _ 12 1 _).1 12 1 = ((tp ++ [bt v 0, bt v 1, bt v 2, bt v 3].take (k + 1)).length : Int)
        rw [wr_same, h1, hlen]; simp; omega
      · show (wr (wr τ 13 (τ.1 12 1) _) 12 1 _).1 13 i = _
        rw [wr_na _ (by decide), wr_at]
        have hx2 : (tp ++ [bt v 0, bt v 1, bt v 2, bt v 3].take (k + 1))[i]? = some x := hx
        have hbt : [bt v 0, bt v 1, bt v 2, bt v 3][k]? = some (bt v k) := by
          have : k = 0 ∨ k = 1 ∨ k = 2 ∨ k = 3 := by omega
          rcases this with q | q | q | q <;> (subst q; rfl)
        have e : tp ++ [bt v 0, bt v 1, bt v 2, bt v 3].take (k + 1) = (tp ++ [bt v 0, bt v 1, bt v 2, bt v 3].take k) ++ [bt v k] := by
          rw [List.take_succ, hbt, List.append_assoc]; rfl
        rw [e] at hx2
        by_cases c4 : (i : Int) = τ.1 12 1
        · rw [if_pos ⟨rfl, c4⟩]
          rw [List.getElem?_append_right (by omega), show i - (tp ++ [bt v 0, bt v 1, bt v 2, bt v 3].take k).length = 0 by omega] at hx2
          simp only [List.getElem?_cons_zero, Option.some.injEq] at hx2
          rw [← hx2, bmod_bt]
        · rw [if_neg (fun q => c4 q.2)]
          have hil := (List.getElem?_eq_some_iff.mp hx2).1
          rw [List.length_append, List.length_singleton] at hil
          rw [List.getElem?_append_left (by omega)] at hx2
          exact i3.2 i x hx2
  have := key (0, σ) ⟨by simp, Fr.refl _ _, by simpa using h⟩
  simpa using this
theorem c_S_feed {a1 a2 a3 a4 a5 : Int} (h : CS σ b T M P tp) (ht : tp.length ≤ 400) : WMi E m_S_feed (d + 1) [aP 1, aI a1, aI a2, aI a3, aI a4, aI a5] σ (fun r τ => if tp.length + 20 ≤ 400 then r = tp.length + 20 ∧ Fr [(13, -1), (12, 1)] σ τ ∧ CS τ b T M P (tp ++ fed a1 a2 a3 a4 a5) else r = -1 ∧ τ = σ) := by
  have h1 := h.2.2.2.1.1
  refine e_S_feed _ _ _ _ _ h.1.1 ⟨by omega, fun c => ?_, fun c => ⟨_, rfl, List.prefix_refl _, ?_⟩⟩
  · have c' : tp.length + 20 ≤ 400 := by omega
    simp only [if_pos c']
    refine WMv.mono (c_Reader_takeFour h.1.1 ⟨h1, h.2.2.2.1.2⟩ (by omega)) (fun t1 p1 q1 => ?_)
    have F1 := q1.1.fix h.1.1 (by decide)
    refine ⟨F1, WMv.mono (c_Reader_takeFour F1 q1.2 (by simp; omega)) (fun t2 p2 q2 => ?_)⟩
    have F2 := q2.1.fix F1 (by decide)
    refine ⟨F2, WMv.mono (c_Reader_takeFour F2 q2.2 (by simp; omega)) (fun t3 p3 q3 => ?_)⟩
    have F3 := q3.1.fix F2 (by decide)
    refine ⟨F3, WMv.mono (c_Reader_takeFour F3 q3.2 (by simp; omega)) (fun t4 p4 q4 => ?_)⟩
    have F4 := q4.1.fix F3 (by decide)
    refine ⟨F4, WMv.mono (c_Reader_takeFour F4 q4.2 (by simp; omega)) (fun t5 p5 q5 => ?_)⟩
    have F5 := q5.1.fix F4 (by decide)
    have hf := (((q1.1.tr q2.1).tr q3.1).tr q4.1).tr q5.1
    have e : tp ++ [bt a1 0, bt a1 1, bt a1 2, bt a1 3] ++ [bt a2 0, bt a2 1, bt a2 2, bt a2 3] ++ [bt a3 0, bt a3 1, bt a3 2, bt a3 3] ++ [bt a4 0, bt a4 1, bt a4 2, bt a4 3] ++ [bt a5 0, bt a5 1, bt a5 2, bt a5 3] = tp ++ fed a1 a2 a3 a4 a5 := by simp [fed]
    have hq := q5.2
    rw [e] at hq
    refine ⟨F5, _, rfl, pre_eq hf.1, ?_, hf, h.tape hf hq.1 hq.2⟩
    rw [hq.1]; simp [fed]
  · show (if tp.length + 20 ≤ 400 then _ else _)
    rw [if_neg (by omega)]; exact ⟨rfl, rfl⟩
end CFeed
