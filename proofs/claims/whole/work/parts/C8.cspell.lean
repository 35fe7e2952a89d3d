/-! THE SPELLER: its text X so far (the sign wanted is i), behind a word w, brackets B, open O, deepest D, cores open C, deepest G -/
def SpIs (σ : St) (i : Int) (X : List Int) (w B O D C G : Int) : Prop := (σ.1 31 0 = i ∧ σ.1 31 1 = (if 0 ≤ i ∧ i < X.length then X.getD i.toNat 0 else -1) ∧ σ.1 31 2 = X.length) ∧ σ.1 31 3 = w ∧ σ.1 31 4 = B ∧ σ.1 31 5 = O ∧ σ.1 31 6 = D ∧ σ.1 31 7 = C ∧ σ.1 31 8 = G
def spX : List (Int × Int) := [(31, -1)]
section CSpell
variable {E : EV} {d : Nat} {σ : St} {i w B O D C G : Int} {X : List Int}
theorem c_Speller_begin (hF : Fix σ) : WMv E m_Speller_begin d [aP 31, aI i] σ (fun τ => Fr spX σ τ ∧ SpIs τ i [] 0 0 0 0 0 0) := by
  refine e_Speller_begin _ hF ⟨rfl, List.prefix_refl _, ?_, ⟨?_, ?_, ?_⟩, ?_, ?_, ?_, ?_, ?_, ?_⟩
  · have f : ∀ (σ : St) (k v : Int), Fr spX σ (wr σ 31 k v) := fun σ k v => Fr.wr (frO_a (by decide) _)
    exact ((((((((f _ _ _).tr (f _ _ _)).tr (f _ _ _)).tr (f _ _ _)).tr (f _ _ _)).tr (f _ _ _)).tr (f _ _ _)).tr (f _ _ _)).tr (f _ _ _)
  · simp [wr]
  · rw [if_neg (by simp)]; simp [wr]
  · simp [wr]
  · simp [wr]
  · simp [wr]
  · simp [wr]
  · simp [wr]
  · simp [wr]
  · simp [wr]
theorem SpIs.put_ {c : Int} (h : SpIs σ i X w B O D C G) (τ : St) (h1 : τ.1 31 1 = if X.length = i then c else σ.1 31 1) (h2 : τ.1 31 2 = X.length + 1) (h3 : ∀ k, k ≠ 1 → k ≠ 2 → τ.1 31 k = σ.1 31 k) : SpIs τ i (X ++ [c]) w B O D C G := by
  obtain ⟨⟨a1, a2, a3⟩, b1, b2, b3, b4, b5, b6⟩ := h
  refine ⟨⟨by rw [h3 0 (by decide) (by decide)]; exact a1, ?_, by rw [h2]; simp⟩, by rw [h3 3 (by decide) (by decide)]; exact b1, by rw [h3 4 (by decide) (by decide)]; exact b2, by rw [h3 5 (by decide) (by decide)]; exact b3, by rw [h3 6 (by decide) (by decide)]; exact b4, by rw [h3 7 (by decide) (by decide)]; exact b5, by rw [h3 8 (by decide) (by decide)]; exact b6⟩
  rw [h1, List.length_append, List.length_singleton]
  by_cases q : (X.length : Int) = i
  · rw [if_pos q, if_pos (by omega), List.getD_eq_getElem?_getD, List.getElem?_append_right (by omega), show i.toNat - X.length = 0 by omega]
    rfl
  · rw [if_neg q, a2]
    by_cases q2 : 0 ≤ i ∧ i < X.length
    · rw [if_pos q2, if_pos (by omega), List.getD_eq_getElem?_getD, List.getD_eq_getElem?_getD, List.getElem?_append_left (by omega)]
    · rw [if_neg q2, if_neg (by omega)]
theorem c_Speller_put {c : Int} (hF : Fix σ) (h : SpIs σ i X w B O D C G) (hi : rI i) (hX : X.length ≤ 100000) : WMv E m_Speller_put d [aP 31, aI c] σ (fun τ => Fr spX σ τ ∧ SpIs τ i (X ++ [c]) w B O D C G) := by
  have a1 := h.1.1
  have a3 := h.1.2.2
  refine e_Speller_put _ hF ⟨by omega, by omega, fun q => b_Speller_put_16 hF ⟨rfl, List.prefix_refl _, Fr.wr (frO_a (by decide) _), h.put_ _ ?_ ?_ (fun k _ q2 => wr_nk _ q2)⟩, fun q => b_Speller_put_16 (hF.wa (by decide)) ⟨rfl, List.prefix_refl _, (Fr.wr (frO_a (by decide) _)).tr (Fr.wr (frO_a (by decide) _)), h.put_ _ ?_ ?_ (fun k q1 q2 => by rw [wr_nk _ q2, wr_nk _ q1])⟩⟩
  · rw [wr_nk _ (by decide), if_neg (by omega)]
  · rw [wr_same, a3]
  · rw [wr_nk _ (by decide), wr_same, if_pos (by omega)]
  · rw [wr_same, wr_nk _ (by decide), a3]
theorem SpIs.set_ {σ : St} (h : SpIs σ i X w B O D C G) (v : Int) : SpIs (wr σ 31 3 v) i X v B O D C G ∧ SpIs (wr σ 31 4 v) i X w v O D C G ∧ SpIs (wr σ 31 5 v) i X w B v D C G ∧ SpIs (wr σ 31 6 v) i X w B O v C G ∧ SpIs (wr σ 31 7 v) i X w B O D v G ∧ SpIs (wr σ 31 8 v) i X w B O D C v := by
  unfold SpIs at *
  obtain ⟨⟨a1, a2, a3⟩, b1, b2, b3, b4, b5, b6⟩ := h
  simp [wr, a1, a2, a3, b1, b2, b3, b4, b5, b6]
theorem fr_sp (σ : St) (k v : Int) : Fr spX σ (wr σ 31 k v) := Fr.wr (frO_a (by decide) _)
theorem c_Speller_beginWord (hF : Fix σ) (h : SpIs σ i X w B O D C G) (hi : rI i) (hX : X.length ≤ 100000) (hw : w = 0 ∨ w = 1) : WMv E m_Speller_beginWord (d + 1) [aP 31] σ (fun τ => Fr spX σ τ ∧ SpIs τ i (X ++ (if w = 1 then [32] else [])) 1 B O D C G) := by
  have b1 := h.2.1
  refine e_Speller_beginWord hF ⟨by rw [b1]; omega, fun q => ?_, fun q => WMv.mono (c_Speller_put hF h hi hX) (fun τ hp hq => ?_)⟩
  · rw [b1] at q
    rw [if_neg (by omega), List.append_nil]
    exact b_Speller_beginWord_13 hF ⟨rfl, List.prefix_refl _, fr_sp _ _ _, (h.set_ 1).1⟩
  · rw [b1] at q
    rw [if_pos (by omega)]
    exact b_Speller_beginWord_13 (hq.1.fix hF (by decide)) ⟨rfl, hp, hq.1.tr (fr_sp _ _ _), (hq.2.set_ 1).1⟩
theorem c_Speller_writeMark {c : Int} (hF : Fix σ) (h : SpIs σ i X w B O D C G) (hi : rI i) (hX : X.length ≤ 100000) : WMv E m_Speller_writeMark (d + 1) [aP 31, aI c] σ (fun τ => Fr spX σ τ ∧ SpIs τ i (X ++ [c]) 0 B O D C G) :=
  e_Speller_writeMark _ hF (WMv.mono (c_Speller_put hF h hi hX) (fun τ hp hq => ⟨hq.1.fix hF (by decide), rfl, hp, hq.1.tr (fr_sp _ _ _), (hq.2.set_ 0).1⟩))
theorem c_Speller_writeLetter {c : Int} (hF : Fix σ) (h : SpIs σ i X w B O D C G) (hi : rI i) (hX : X.length ≤ 10000) (hw : w = 0 ∨ w = 1) : WMv E m_Speller_writeLetter (d + 2) [aP 31, aI c] σ (fun τ => Fr spX σ τ ∧ SpIs τ i (X ++ ((if w = 1 then [32] else []) ++ [97 + c])) 1 B O D C G) := by
  refine e_Speller_writeLetter _ hF (WMv.mono (c_Speller_beginWord hF h hi (by omega) hw) (fun τ hp hq => ?_))
  have hF2 := hq.1.fix hF (by decide)
  refine ⟨hF2, WMv.mono (c_Speller_put hF2 hq.2 hi (by rw [List.length_append]; split <;> simp <;> omega)) (fun υ hp2 hq2 => ⟨rfl, hp.trans hp2, hq.1.tr hq2.1, ?_⟩)⟩
  rw [← List.append_assoc]
  exact hq2.2
theorem c_Speller_writeOpening {c : Int} (hF : Fix σ) (h : SpIs σ i X w B O D C G) (hi : rI i) (hX : X.length ≤ 100000) (hO : 0 ≤ O ∧ O ≤ 1000) (hD : 0 ≤ D ∧ D ≤ 1000) : WMv E m_Speller_writeOpening (d + 2) [aP 31, aI c] σ (fun τ => Fr spX σ τ ∧ SpIs τ i (X ++ [c]) 0 B (O + 1) (max D (O + 1)) C G) := by
  have b5 := h.2.2.2.1
  have b6 := h.2.2.2.2.1
  refine e_Speller_writeOpening _ hF ⟨by omega, by omega, ?_⟩
  rw [b5, b6]
  have h1 := ((h.set_ (O + 1)).2.2.1.set_ (max D (O + 1))).2.2.2.1
  have f1 := (fr_sp σ 5 (O + 1)).tr (fr_sp _ 6 (max D (O + 1)))
  exact WMv.mono (c_Speller_writeMark (f1.fix hF (by decide)) h1 hi hX) (fun τ hp hq => ⟨rfl, hp, f1.tr hq.1, hq.2⟩)
theorem c_Speller_writeClosing {c : Int} (hF : Fix σ) (h : SpIs σ i X w B O D C G) (hi : rI i) (hX : X.length ≤ 100000) : WMv E m_Speller_writeClosing (d + 2) [aP 31, aI c] σ (fun τ => Fr spX σ τ ∧ SpIs τ i (X ++ [c]) 0 B (O - 1) D C G) := by
  have b5 := h.2.2.2.1
  refine e_Speller_writeClosing _ hF ?_
  rw [b5]
  have h1 := (h.set_ (O - 1)).2.2.1
  have f1 := fr_sp σ 5 (O - 1)
  exact WMv.mono (c_Speller_writeMark (f1.fix hF (by decide)) h1 hi hX) (fun τ hp hq => ⟨rfl, hp, f1.tr hq.1, hq.2⟩)
theorem c_Speller_told (hF : Fix σ) (h : SpIs σ i X w B O D C G) (hi : rI i) : WMi E m_Speller_told d [aP 31] σ (fun r τ => r = (if i < -1 then -1 else tdT X i) ∧ τ = σ) := by
  obtain ⟨⟨a1, a2, a3⟩, -⟩ := h
  refine e_Speller_told hF ⟨by omega, fun q => ri_p ?_, fun q => ri_p ?_⟩
  · rw [a2]
    unfold tdT
    by_cases c : i < -1
    · rw [if_pos c, if_neg (by omega)]
    · by_cases c2 : i < X.length
      · rw [if_pos (show 0 ≤ i ∧ i < X.length by omega), if_neg c, if_neg (show ¬ i = -1 by omega), if_pos c2]
      · rw [if_neg (show ¬ (0 ≤ i ∧ i < X.length) by omega), if_neg c, if_neg (show ¬ i = -1 by omega), if_neg c2]
  · rw [a3]
    unfold tdT
    rw [if_neg (by omega), if_pos (by omega)]
end CSpell
