section MActs2
variable {E : EV} {d : Nat} {σ : St} {T : Tb} {M : Mo} {P : List Mo} {tp : List Int}
theorem c_M_undo0 (h : RS σ T M [] tp) : WMi E m_M_undo d [aP 42] σ (fun r τ => r = -1 ∧ τ = σ) := by
  have h1 : σ.1 42 8 = 0 := h.2.1.1
  exact e_M_undo h.1.1 ⟨by omega, fun c => absurd h1 c, fun c => ri_p rfl⟩
theorem c_M_undo1 {m : Mo} (h : RS σ T M (P ++ [m]) tp) (hk : okD T M (P ++ [m]) tp) : WMi E m_M_undo d [aP 42] σ (fun r τ => r = P.length ∧ Fr [(47, -1), (42, 8)] σ τ ∧ RS τ T m P tp) := by
  have hF := h.1.1
  have h1 : σ.1 42 8 = P.length + 1 := by rw [h.2.1.1]; simp
  have h2 : P.length + 1 ≤ 12 := by have := hk.2.2.1.1; simpa using this
  have hm : MoAt (σ.1 49) (683 * P.length) m := h.2.1.2 P.length m (by simp)
  have hmk : okMo T m := hk.2.2.1.2 m (by simp)
  refine e_M_undo hF ⟨by omega, fun c => ?_, fun c => by omega⟩
  refine lpu 683 (fun k τ => WP E m_M_undo d 21 [(0, aP 42), (1, aI k)] [] τ _) (fun k τ => 0 ≤ k ∧ k ≤ 683 ∧ Fr [(47, -1), (42, 8)] σ τ ∧ τ.1 42 8 = P.length ∧ ∀ j, 0 ≤ j → j < k → τ.1 47 j = σ.1 49 (683 * P.length + j)) (fun k τ hI ih => ?_) _ _ ⟨by omega, by omega, Fr.wr (frO_k (by decide)), by rw [wr_same]; omega, fun j a b => by omega⟩
  obtain ⟨i1, i2, i3, i4, i5⟩ := hI
  have hT := i3.fix hF (by decide)
  refine b_M_undo_21 _ hT ⟨by omega, fun c => ⟨_, rfl, pre_eq i3.1, i4, i3, ?_⟩, fun c => ⟨by omega, by omega, ih (by omega) _ ⟨by omega, by omega, i3.tr (Fr.wr (frO_a (by decide) _)), by rw [wr_na _ (by decide)]; exact i4, fun j a b => ?_⟩⟩⟩
  · have f2 : τ.1 49 = σ.1 49 := funext (fun k => i3.2 _ _ rfl)
    have f3 : τ.1 76 = σ.1 76 := funext (fun k => i3.2 _ _ rfl)
    have f4 : τ.1 77 = σ.1 77 := funext (fun k => i3.2 _ _ rfl)
    refine ⟨⟨hT, fun l hl => ?_, ?_⟩, ⟨i4, fun i q hq => ?_⟩, ⟨(i3.2 _ _ rfl).trans h.2.2.1.1, by rw [f3]; exact h.2.2.1.2⟩, by rw [f4]; exact h.2.2.2⟩
    · rw [i3.2 _ _ rfl, i3.2 _ _ rfl, i3.2 _ _ rfl, i3.2 _ _ rfl]
      exact h.1.2.1 l hl
    · refine hm.move hmk (fun q a b => ?_)
      rw [i5 _ (by omega) (by omega)]
      exact cgA _ (by omega)
    · rw [f2]
      have := (List.getElem?_eq_some_iff.mp hq).1
      exact h.2.1.2 i q (by rw [List.getElem?_append_left (by omega)]; exact hq)
  · rw [wr_at]
    by_cases hj : j = k
    · rw [if_pos ⟨rfl, hj⟩, i3.2 _ _ rfl, i4, hj]
    · rw [if_neg (fun q => hj q.2)]
      exact i5 j a (by omega)
theorem RS.now {τ : St} {M' : Mo} (h : RS σ T M P tp) (hf : Fr [(47, -1)] σ τ) (hM : MoAt (τ.1 47) 0 M') : RS τ T M' P tp := by
  obtain ⟨⟨h1, h2, h3⟩, ⟨h4, h5⟩, ⟨h6, h7⟩, h8⟩ := h
  have f2 : τ.1 49 = σ.1 49 := funext (fun k => hf.2 _ _ rfl)
  have f3 : τ.1 76 = σ.1 76 := funext (fun k => hf.2 _ _ rfl)
  have f4 : τ.1 77 = σ.1 77 := funext (fun k => hf.2 _ _ rfl)
  refine ⟨⟨hf.fix h1 (by decide), fun l hl => ?_, hM⟩, ⟨(hf.2 _ _ rfl).trans h4, by rw [f2]; exact h5⟩, ⟨(hf.2 _ _ rfl).trans h6, by rw [f3]; exact h7⟩, by rw [f4]; exact h8⟩
  rw [hf.2 _ _ rfl, hf.2 _ _ rfl, hf.2 _ _ rfl, hf.2 _ _ rfl]
  exact h2 l hl
/-- the lines stay where only side and gap are written -/
theorem MoAt.sg {f g : Int → Int} {M : Mo} {s p : Int} (h : MoAt f 0 M) (h0 : g 0 = s) (h1 : g 1 = p) (e : ∀ k, 2 ≤ k → g k = f k) : MoAt g 0 (s, p, M.2.2) := by
  obtain ⟨a1, a2, a3, a4⟩ := h
  refine ⟨h0, h1, (e _ (by omega)).trans a3, fun l L hl => ?_⟩
  obtain ⟨b1, b2, b3⟩ := a4 l L hl
  refine ⟨(e _ (by omega)).trans b1, (e _ (by omega)).trans b2, fun q t hq => ?_⟩
  obtain ⟨c1, c2⟩ := b3 q t hq
  exact ⟨(e _ (by omega)).trans c1, c2.congr (fun i hi => e _ (by omega))⟩
theorem c_M_side {x : Int} (h : RS σ T M P tp) (hk : okD T M P tp) (hx : rI x) : WMi E m_M_side (d + 2) [aP 42, aI x] σ (fun r τ => if (1 ≤ x ∧ x ≤ 24) ∧ x ≠ M.1 then r = M.1 ∧ Fr [(49, -1), (42, 8), (47, -1)] σ τ ∧ RS τ T (x, M.2.1, M.2.2) (push P M) tp else r = -1 ∧ τ = σ) := by
  have hF := h.1.1
  have e0 : σ.1 47 0 = M.1 := h.1.2.2.1
  have hs := hk.2.1.1
  refine e_M_side _ hF (wmi_p (c_M_in hx (by decide) (by decide)) ⟨hF, b2i_r _, fun c => ?_, fun c => ⟨hx, by omega, fun c2 => ?_, fun c2 => ?_⟩⟩)
  · rw [b2i_0] at c
    refine ⟨_, rfl, List.prefix_refl _, ?_⟩
    dsimp only
    rw [if_neg (by omega)]; exact ⟨rfl, rfl⟩
  · refine ⟨_, rfl, List.prefix_refl _, ?_⟩
    dsimp only
    rw [if_neg (by omega)]; exact ⟨rfl, rfl⟩
  · rw [b2i_n0] at c
    refine e_M_becomes _ _ hF (WMv.mono (c_M_keeps h hk) (fun τ hp hq => ?_))
    have hT := hq.2.1.1
    refine ⟨hT, by omega, by omega, _, rfl, hp, _, rfl, hp, ?_⟩
    dsimp only
    rw [if_pos (by omega)]
    have f1 : Fr [(47, -1)] τ (wr τ 47 0 x) := Fr.wr (frO_a (by decide) _)
    refine ⟨(hq.1.2 _ _ rfl).trans e0, (hq.1.mono (by decide)).tr (f1.mono (by decide)), hq.2.now f1 ?_⟩
    exact hq.2.1.2.2.sg (wr_same _ _ _ _) ((wr_nk _ (by decide)).trans hq.2.1.2.2.2.1) (fun k hk => wr_nk _ (by omega))
theorem c_M_gap {x : Int} (h : RS σ T M P tp) (hk : okD T M P tp) (hx : rI x) : WMi E m_M_gap (d + 2) [aP 42, aI x] σ (fun r τ => if (0 ≤ x ∧ x ≤ 3) ∧ x ≠ M.2.1 then r = M.2.1 ∧ Fr [(49, -1), (42, 8), (47, -1)] σ τ ∧ RS τ T (M.1, x, M.2.2) (push P M) tp else r = -1 ∧ τ = σ) := by
  have hF := h.1.1
  have e0 : σ.1 47 1 = M.2.1 := h.1.2.2.2.1
  have hs := hk.2.1.2.1
  refine e_M_gap _ hF (wmi_p (c_M_in hx (by decide) (by decide)) ⟨hF, b2i_r _, fun c => ?_, fun c => ⟨hx, by omega, fun c2 => ?_, fun c2 => ?_⟩⟩)
  · rw [b2i_0] at c
    refine ⟨_, rfl, List.prefix_refl _, ?_⟩
    dsimp only
    rw [if_neg (by omega)]; exact ⟨rfl, rfl⟩
  · refine ⟨_, rfl, List.prefix_refl _, ?_⟩
    dsimp only
    rw [if_neg (by omega)]; exact ⟨rfl, rfl⟩
  · rw [b2i_n0] at c
    refine e_M_becomes _ _ hF (WMv.mono (c_M_keeps h hk) (fun τ hp hq => ?_))
    have hT := hq.2.1.1
    refine ⟨hT, by omega, by omega, _, rfl, hp, _, rfl, hp, ?_⟩
    dsimp only
    rw [if_pos (by omega)]
    have f1 : Fr [(47, -1)] τ (wr τ 47 1 x) := Fr.wr (frO_a (by decide) _)
    refine ⟨(hq.1.2 _ _ rfl).trans e0, (hq.1.mono (by decide)).tr (f1.mono (by decide)), hq.2.now f1 ?_⟩
    exact hq.2.1.2.2.sg ((wr_nk _ (by decide)).trans hq.2.1.2.2.1) (wr_same _ _ _ _) (fun k hk => wr_nk _ (by omega))
end MActs2
