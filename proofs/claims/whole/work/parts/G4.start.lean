/-! WHAT BOTH HOLD WHEN THEY ARE MADE -/
def WF : List (Int × Int × Int) := [(47, 1, 1), (47, 0, 12), (42, 73, 92), (42, 69, 91), (42, 68, 90), (42, 67, 89), (42, 65, 88), (42, 64, 87), (42, 63, 86), (42, 62, 85), (42, 61, 84), (42, 60, 83), (42, 59, 82), (42, 57, 81), (42, 56, 80), (42, 55, 79), (42, 54, 78), (42, 48, 77), (77, 28, 0), (77, 27, 116), (77, 26, 102), (77, 25, 101), (77, 24, 108), (77, 23, 0), (77, 22, 101), (77, 21, 110), (77, 20, 105), (77, 19, 108), (77, 18, 0), (77, 17, 101), (77, 16, 114), (77, 15, 111), (77, 14, 99), (77, 13, 0), (77, 12, 110), (77, 11, 103), (77, 10, 105), (77, 9, 115), (77, 8, 0), (77, 7, 112), (77, 6, 97), (77, 5, 103), (77, 4, 0), (77, 3, 101), (77, 2, 100), (77, 1, 105), (77, 0, 115), (42, 46, 76), (42, 44, 75), (42, 40, 74), (42, 38, 73), (42, 37, 72), (42, 36, 71), (42, 35, 70), (42, 34, 69), (42, 33, 68), (42, 32, 67), (42, 31, 66), (42, 30, 65), (42, 28, 64), (42, 26, 63), (42, 25, 62), (42, 24, 61), (42, 23, 60), (42, 22, 59), (42, 21, 58), (42, 20, 57), (42, 19, 56), (42, 18, 55), (42, 15, 54), (42, 14, 53), (42, 13, 52), (42, 11, 51), (42, 9, 50), (42, 7, 49), (42, 6, 48), (42, 5, 47), (42, 4, 46), (42, 3, 45), (42, 2, 44), (42, 1, 43), (1, 8, 32), (32, 13, 0), (32, 12, 0), (32, 11, 0), (32, 10, 0), (32, 9, 41), (32, 8, 40), (32, 7, 0), (32, 6, 39), (32, 5, 38), (32, 4, 37), (32, 3, 36), (32, 2, 35), (32, 1, 34), (32, 0, 33), (1, 7, 31), (1, 6, 23), (23, 7, 0), (23, 6, 30), (23, 5, 29), (23, 4, 28), (23, 3, 27), (23, 2, 26), (23, 1, 25), (23, 0, 24), (1, 5, 12), (12, 11, 0), (12, 10, 1), (12, 9, 12), (12, 8, 0), (12, 7, 18), (18, 3, 22), (18, 2, 21), (18, 1, 20), (18, 0, 19), (12, 6, 0), (12, 5, 0), (12, 4, 17), (12, 3, 16), (12, 2, 14), (14, 1, 0), (14, 0, 15), (12, 1, 0), (12, 0, 13), (1, 4, 10), (10, 1, 0), (10, 0, 11), (1, 3, 0), (1, 2, 9), (1, 1, 7), (7, 2, 1), (7, 1, 12), (7, 0, 8), (1, 0, 2), (2, 3, 6), (2, 2, 5), (2, 1, 4), (2, 0, 3)]
def D00 : Dt := (T00, (12, 1, []), [], [])
section GStart
variable {σ : St}
theorem st_fix (h : Is σ 92 WF) : Fix σ := by
  have hall : FF.all (fun q => lk WF q.1 q.2.1 == q.2.2) = true := by decide +kernel
  refine ⟨fun i hi => ?_, fun q hq => ?_⟩
  · rw [h.1, List.getElem?_take, if_pos hi]
  · rw [h.2.1]
    have := List.all_eq_true.mp hall q hq
    rw [beq_iff_eq] at this
    exact this
theorem st_v (h : Is σ 92 WF) {a k v : Int} (hv : lk WF a k = v) : σ.1 a k = v := (h.2.1 a k).trans hv
theorem st_0 (h : Is σ 92 WF) {a : Int} (ha : WF.all (fun w => w.1 != a) = true) (k : Int) : σ.1 a k = 0 := (h.2.1 a k).trans (lk_0 ha k)
theorem st_C (h : Is σ 92 WF) : CSd σ 92 D00 := by
  have hF := st_fix h
  have e0 : σ.1 1 0 = 2 := st_v h (by decide +kernel)
  have e1 : σ.1 1 1 = 7 := st_v h (by decide +kernel)
  have a0 : σ.1 2 0 = 3 := st_v h (by decide +kernel)
  have a1 : σ.1 2 1 = 4 := st_v h (by decide +kernel)
  have a2 : σ.1 2 2 = 5 := st_v h (by decide +kernel)
  have a3 : σ.1 2 3 = 6 := st_v h (by decide +kernel)
  have m0 : σ.1 7 0 = 8 := st_v h (by decide +kernel)
  refine ⟨⟨hF, Int.le_refl _, by rw [h.len]; exact Int.le_refl _⟩, ⟨?_, ?_⟩, ⟨st_v h (by decide +kernel), fun i m hm => by simp [D00] at hm⟩, ⟨st_v h (by decide +kernel), fun i x hx => by simp [D00] at hx⟩, Or.inl (st_v h (by decide +kernel))⟩
  · rw [e0]
    refine ⟨?_, sf_2 hF, ?_, fun l hl => ?_⟩
    · rw [a0, a1, a2, a3]; unfold imA; exact ⟨Or.inl (by decide), Or.inl (by decide), Or.inl (by decide), Or.inl (by decide), Or.inl (by decide)⟩
    · rw [a0, a1, a2, a3]; exact ⟨sf_3 hF, sf_4 hF, sf_5 hF, sf_6 hF⟩
    · rw [a0, a1, a2, a3]; exact ⟨st_0 h (by decide +kernel) _, st_0 h (by decide +kernel) _, st_0 h (by decide +kernel) _, st_0 h (by decide +kernel) _⟩
  · rw [e1]
    refine ⟨?_, sf_7 hF, ?_, ⟨st_v h (by decide +kernel), st_v h (by decide +kernel)⟩, fun l L hL => by simp [D00] at hL⟩
    · rw [m0]; unfold imA; exact ⟨Or.inl (by decide), Or.inl (by decide)⟩
    · rw [m0]; exact sf_8 hF
theorem st_R (h : Is σ 92 WF) : RSd σ D00 := by
  have hF := st_fix h
  refine ⟨⟨hF, fun l hl => ⟨st_0 h (by decide +kernel) _, st_0 h (by decide +kernel) _, st_0 h (by decide +kernel) _, st_0 h (by decide +kernel) _⟩, ⟨st_v h (by decide +kernel), st_v h (by decide +kernel), st_v h (by decide +kernel), fun l L hL => by simp [D00] at hL⟩⟩, ⟨st_v h (by decide +kernel), fun i m hm => by simp [D00] at hm⟩, ⟨st_v h (by decide +kernel), At.nil _ _⟩, fun i hi => ?_⟩
  have hall : ∀ i : Fin 29, lk WF 77 (0 + ((i.val : Nat) : Int)) = wordsL.getD i.val 0 := by decide +kernel
  rw [h.2.1]
  exact hall ⟨i, hi⟩
theorem st_F (h : Is σ 92 WF) : FmOK σ := Or.inr (fun n _ _ => st_0 h (by decide +kernel) _)
theorem st_D : okDd D00 := ⟨fun l hl => Or.inl ⟨rfl, rfl, rfl, rfl⟩, ⟨by decide, by decide, by show (0 : Nat) ≤ 4; decide, fun L hL => by simp [D00] at hL⟩, ⟨by show (0 : Nat) ≤ 12; decide, fun m hm => by simp [D00] at hm⟩, by show (0 : Nat) ≤ 400; decide, fun x hx => by simp [D00] at hx⟩
end GStart
