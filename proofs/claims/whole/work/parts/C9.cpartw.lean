/-! A PART IS WRITTEN -/
theorem dpF_one (x : Int) (p : Int × Int) : dpF p [x] = dst x p := rfl
theorem dst_let {x O D : Int} (h : O ≤ D) (hx : ¬ (x = 40 ∨ x = 60) ∧ ¬ (x = 41 ∨ x = 62)) : dst x (O, D) = (O, D) := by
  unfold dst
  rw [if_neg hx.1, if_neg hx.2]
  simp
  omega
theorem dst_op {x O D : Int} (hx : x = 40 ∨ x = 60) : dst x (O, D) = (O + 1, max D (O + 1)) := by
  unfold dst
  rw [if_pos hx, if_neg (by omega)]
  simp
theorem dst_cl {x O D : Int} (h : O ≤ D) (hx : x = 41 ∨ x = 62) : dst x (O, D) = (O - 1, D) := by
  unfold dst
  rw [if_neg (by omega), if_pos hx]
  simp
  omega
theorem dpF_cons (x : Int) (X : List Int) (p : Int × Int) : dpF p (x :: X) = dpF (dst x p) X := rfl
theorem dpT {u : Tr} (h : okw u) : ∀ (k : Nat) (O D : Int), O ≤ D → ∃ D', dpF (O, D) (tx k u) = (O, D') ∧ D ≤ D' ∧ D' ≤ max D (O + (cC u).length) := by
  induction u with
  | var l => intro k O D hD; have h2 : vN l < 26 := h; exact ⟨D, by simp only [tx]; rw [dpF_one, dst_let hD (by omega)], by omega, by omega⟩
  | pow t l ih =>
    intro k O D hD
    have h2 := h.2
    obtain ⟨D', e, h3, h4⟩ := ih h.1 0 (O + 1) (max D (O + 1)) (by omega)
    refine ⟨D', ?_, by omega, by simp only [cC, List.length_cons]; omega⟩
    simp only [tx]
    rw [dpF_cons, dst_let hD (by omega), dpF_cons, dst_op (by omega), dpF_app, e, dpF_one, dst_cl (by omega) (by omega)]
    congr 1; omega
  | mul a b iha ihb =>
    intro k O D hD
    obtain ⟨D1, e1, h1, g1⟩ := iha h.1 1 O D hD
    obtain ⟨D2, e2, h2, g2⟩ := ihb h.2 1 O D1 (by omega)
    refine ⟨D2, ?_, by omega, by simp only [cC, List.length_cons, List.length_append]; omega⟩
    simp only [tx]
    rw [dpF_app, e1, dpF_cons, dst_let (by omega) (by omega), e2]
  | add a b iha ihb =>
    intro k O D hD
    simp only [tx]
    split
    · obtain ⟨D1, e1, h1, g1⟩ := iha h.1 2 (O + 1) (max D (O + 1)) (by omega)
      obtain ⟨D2, e2, h2, g2⟩ := ihb h.2 2 (O + 1) D1 (by omega)
      refine ⟨D2, ?_, by omega, by simp only [cC, List.length_cons, List.length_append]; omega⟩
      rw [dpF_cons, dst_op (by omega), dpF_app, e1, dpF_cons, dst_let (by omega) (by omega), dpF_app, e2, dpF_one, dst_cl (by omega) (by omega)]
      congr 1; omega
    · obtain ⟨D1, e1, h1, g1⟩ := iha h.1 2 O D hD
      obtain ⟨D2, e2, h2, g2⟩ := ihb h.2 2 O D1 (by omega)
      refine ⟨D2, ?_, by omega, by simp only [cC, List.length_cons, List.length_append]; omega⟩
      rw [dpF_app, e1, dpF_cons, dst_let (by omega) (by omega), e2]
  | _ => exact absurd h (by simp [okw])
