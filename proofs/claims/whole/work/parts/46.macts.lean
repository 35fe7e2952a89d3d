theorem cgA (f : Int → Int) {a b : Int} (h : a = b) : f a = f b := by rw [h]
theorem MoAt.move {T : Tb} {f g : Int → Int} {o p : Int} {M : Mo} (h : MoAt f o M) (hk : okMo T M) (e : ∀ k : Int, 0 ≤ k → k < 683 → g (p + k) = f (o + k)) : MoAt g p M := by
  obtain ⟨h1, h2, h3, h4⟩ := h
  have h5 := hk.2.2.1
  have e' : ∀ k q r : Int, 0 ≤ k → k < 683 → q = p + k → r = o + k → g q = f r := fun k q r a b c d => by rw [c, d]; exact e k a b
  refine ⟨by rw [← h1]; exact e' 0 _ _ (by omega) (by omega) (by omega) (by omega), by rw [← h2]; exact e' 1 _ _ (by omega) (by omega) (by omega) (by omega), by rw [← h3]; exact e' 2 _ _ (by omega) (by omega) (by omega) (by omega), fun l L hl => ?_⟩
  have h6 := (List.getElem?_eq_some_iff.mp hl).1
  have h7 := hk.2.2.2 L (List.mem_of_getElem? hl)
  obtain ⟨a1, a2, a3⟩ := h4 l L hl
  refine ⟨by rw [← a1]; exact e' (3 + 170 * l) _ _ (by omega) (by omega) (by omega) (by omega), by rw [← a2]; exact e' (3 + 170 * l + 1) _ _ (by omega) (by omega) (by omega) (by omega), fun s t hs => ?_⟩
  have h8 := (List.getElem?_eq_some_iff.mp hs).1
  have h9 := h7.1.2
  have h10 := h7.2 t (List.mem_of_getElem? hs)
  have h11 := (rc_len2 h10.1 0).1
  have h12 := h10.2.1
  obtain ⟨b1, b2⟩ := a3 s t hs
  refine ⟨by rw [← b1]; exact e' (3 + 170 * l + 2 + 21 * s) _ _ (by omega) (by omega) (by omega) (by omega), b2.move (fun i hi => ?_)⟩
  exact e' (3 + 170 * l + 2 + 21 * s + 1 + i) _ _ (by omega) (by omega) (by omega) (by omega)
/-- the latest twelve moments -/
def push (P : List Mo) (M : Mo) : List Mo := (if P.length = 12 then P.tail else P) ++ [M]
theorem push_ok {T : Tb} {P : List Mo} {M : Mo} (h : P.length ≤ 12 ∧ ∀ m ∈ P, okMo T m) (hM : okMo T M) : (push P M).length ≤ 12 ∧ ∀ m ∈ push P M, okMo T m := by
  unfold push
  refine ⟨?_, fun m hm => ?_⟩
  · split <;> simp <;> omega
  · rcases List.mem_append.mp hm with h1 | h1
    · refine h.2 m ?_
      split at h1
      · exact List.mem_of_mem_tail h1
      · exact h1
    · rw [List.mem_singleton] at h1
      subst h1; exact hM
section MActs
variable {E : EV} {d : Nat} {σ : St} {T : Tb} {M : Mo} {P : List Mo} {tp : List Int}
/-- a copy of a stretch of numbers, place by place -/
theorem c_M_keeps (h : RS σ T M P tp) (hk : okD T M P tp) : WMv E m_M_keeps d [aP 42] σ (fun τ => Fr [(49, -1), (42, 8)] σ τ ∧ RS τ T M (push P M) tp) := by
  have hF := h.1.1
  have hac := h.2.1.1
  have hP := hk.2.2.1
  -- the second loop: the moment is copied behind
  have second : ∀ (Q : List Mo) (τ : St), Q.length < 12 → (∀ m ∈ Q, okMo T m) → Fr [(49, -1), (42, 8)] σ τ → τ.1 42 8 = Q.length → (∀ (i : Nat) (m : Mo), Q[i]? = some m → MoAt (τ.1 49) (683 * i) m) →
      WP E m_M_keeps d 54 [(0, aP 42), (1, aI 0)] [] τ (fun r υ => r = none ∧ σ.2 <+: υ.2 ∧ Fr [(49, -1), (42, 8)] σ υ ∧ RS υ T M (Q ++ [M]) tp) := by
    intro Q τ0 hQ hQk hf0 ha0 hm0
    refine lpu 683 (fun k τ => WP E m_M_keeps d 54 [(0, aP 42), (1, aI k)] [] τ _) (fun k τ => 0 ≤ k ∧ k ≤ 683 ∧ Fr [(49, -1), (42, 8)] σ τ ∧ τ.1 42 8 = Q.length ∧ (∀ (i : Nat) (m : Mo), Q[i]? = some m → MoAt (τ.1 49) (683 * i) m) ∧ ∀ j, 0 ≤ j → j < k → τ.1 49 (683 * Q.length + j) = σ.1 47 j) (fun k τ hI ih => ?_) 0 τ0 ⟨by omega, by omega, hf0, ha0, hm0, fun j a b => by omega⟩
    obtain ⟨i1, i2, i3, i4, i5, i6⟩ := hI
    have hT := i3.fix hF (by decide)
    refine b_M_keeps_54 _ hT ⟨by omega, fun c => ?_, fun c => ⟨by omega, by omega, ?_⟩⟩
    · have f5 : Fr [(49, -1), (42, 8)] σ (wr τ 42 8 (τ.1 42 8 + 1)) := i3.tr (Fr.wr (frO_k (by decide)))
      have f1 : (wr τ 42 8 (τ.1 42 8 + 1)).1 47 = σ.1 47 := funext (fun k => f5.2 _ _ rfl)
      have f2 : (wr τ 42 8 (τ.1 42 8 + 1)).1 49 = τ.1 49 := funext (fun k => wr_na _ (by decide))
      have f3 : (wr τ 42 8 (τ.1 42 8 + 1)).1 76 = σ.1 76 := funext (fun k => f5.2 _ _ rfl)
      have f4 : (wr τ 42 8 (τ.1 42 8 + 1)).1 77 = σ.1 77 := funext (fun k => f5.2 _ _ rfl)
      refine ⟨rfl, pre_eq f5.1, f5, ⟨f5.fix hF (by decide), fun l hl => ?_, by rw [f1]; exact h.1.2.2⟩, ⟨?_, ?_⟩, ⟨(f5.2 _ _ rfl).trans h.2.2.1.1, by rw [f3]; exact h.2.2.1.2⟩, by rw [f4]; exact h.2.2.2⟩
      · rw [f5.2 _ _ rfl, f5.2 _ _ rfl, f5.2 _ _ rfl, f5.2 _ _ rfl]
        exact h.1.2.1 l hl
      · rw [wr_same, i4, List.length_append]; simp
      · intro i m hm
        rw [f2]
        by_cases hi : i < Q.length
        · rw [List.getElem?_append_left hi] at hm
          exact i5 i m hm
        · have h8 := (List.getElem?_eq_some_iff.mp hm).1
          rw [List.length_append, List.length_singleton] at h8
          have h9 : i = Q.length := by omega
          subst h9
          simp at hm
          subst hm
          refine h.1.2.2.move hk.2.1 (fun q a b => ?_)
          rw [i6 q a (by omega)]
          exact cgA _ (by omega)
    · refine ih (by omega) _ ⟨by omega, by omega, i3.tr (Fr.wr (frO_a (by decide) _)), by rw [wr_na _ (by decide)]; exact i4, fun i m hm => ?_, fun j a b => ?_⟩
      · have h8 := (List.getElem?_eq_some_iff.mp hm).1
        refine (i5 i m hm).move (hQk m (List.mem_of_getElem? hm)) (fun q a b => wr_nk _ ?_)
        rw [i4]
        omega
      · rw [wr_at]
        by_cases hj : j = k
        · rw [if_pos ⟨rfl, by rw [i4, hj]⟩, i3.2 _ _ rfl, hj]
        · rw [if_neg (fun q => hj (by have := q.2; rw [i4] at this; omega))]
          exact i6 j a (by omega)
  refine e_M_keeps hF ⟨by omega, fun c => ?_, fun c => ?_⟩
  · refine b_M_keeps_52 ?_
    have e : push P M = P ++ [M] := by unfold push; rw [if_neg (by omega)]
    rw [e]
    exact second P σ (by omega) hP.2 (Fr.refl _ _) hac h.2.1.2
  · have e : push P M = P.tail ++ [M] := by unfold push; rw [if_pos (by omega)]
    rw [e]
    refine lpu 8196 (fun k τ => WP E m_M_keeps d 13 [(0, aP 42), (1, aI k)] [] τ _) (fun k τ => 683 ≤ k ∧ k ≤ 8196 ∧ Fr [(49, -1), (42, 8)] σ τ ∧ τ.1 42 8 = 12 ∧ (∀ j, 0 ≤ j → j < k - 683 → τ.1 49 j = σ.1 49 (j + 683)) ∧ ∀ j, k - 683 ≤ j → τ.1 49 j = σ.1 49 j) (fun k τ hI ih => ?_) _ _ ⟨by omega, by omega, Fr.refl _ _, by omega, fun j a b => by omega, fun j a => rfl⟩
    obtain ⟨i1, i2, i3, i4, i5, i6⟩ := hI
    have hT := i3.fix hF (by decide)
    refine b_M_keeps_13 _ hT ⟨by omega, fun c => ?_, fun c => ⟨by omega, by omega, ?_⟩⟩
    · refine b_M_keeps_52 (second P.tail _ (by rw [List.length_tail]; omega) (fun m hm => hP.2 m (List.mem_of_mem_tail hm)) (i3.tr (Fr.wr (frO_k (by decide)))) (by rw [wr_same, i4, List.length_tail]; omega) (fun i m hm => ?_))
      have f2 : (wr τ 42 8 (τ.1 42 8 - 1)).1 49 = τ.1 49 := funext (fun k => wr_na _ (by decide))
      rw [f2]
      rw [List.getElem?_tail] at hm
      have h8 := (List.getElem?_eq_some_iff.mp hm).1
      refine (h.2.1.2 (i + 1) m hm).move (hP.2 m (List.mem_of_getElem? hm)) (fun q a b => ?_)
      rw [i5 _ (by omega) (by omega)]
      exact cgA _ (by omega)
    · refine ih (by omega) _ ⟨by omega, by omega, i3.tr (Fr.wr (frO_a (by decide) _)), by rw [wr_na _ (by decide)]; exact i4, fun j a b => ?_, fun j a => ?_⟩
      · rw [wr_at]
        by_cases hj : j = k - 683
        · rw [if_pos ⟨rfl, hj⟩, i6 k (by omega), hj]
          exact cgA _ (by omega)
        · rw [if_neg (fun q => hj q.2)]
          exact i5 j a (by omega)
      · rw [wr_nk _ (by omega)]
        exact i6 j (by omega)
end MActs
