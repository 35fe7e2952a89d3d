/-! squares come into a line and go out of it -/
theorem SqAt.move {f g : Int → Int} {p q : Int} {t : Tr} (h : SqAt f p t) (hl : (rc 0 t).length ≤ 20) (e : ∀ k, 0 ≤ k → k ≤ 20 → g (q + k) = f (p + k)) : SqAt g q t := by
  obtain ⟨h1, h2⟩ := h
  refine ⟨?_, h2.move (fun i hi => ?_)⟩
  · have := e 0 (by omega) (by omega)
    rw [show q + 0 = q by omega, show p + 0 = p by omega] at this
    rw [this, h1]
  · have := e (1 + i) (by omega) (by omega)
    rw [show q + 1 + (i : Int) = q + (1 + i) by omega, show p + 1 + (i : Int) = p + (1 + i) by omega, this]
/-- what a memory's line is once room was made at s -/
def roomF (f : Int → Int) (l s n k : Int) : Int := if k = 3 + 170 * l then n + 1 else if plc l s + 21 ≤ k ∧ k < plc l n + 21 then f (k - 21) else f k
def gapF (f : Int → Int) (l s n k : Int) : Int := if k = 3 + 170 * l then n - 1 else if plc l s ≤ k ∧ k < plc l n - 21 then f (k + 21) else f k
theorem LnAt_ins {f g : Int → Int} {l s : Int} {L : Ln} {t : Tr} (h : LnAt f (3 + 170 * l) L) (hs : 0 ≤ s ∧ s ≤ L.2.length) (hn : L.2.length ≤ 7) (hk : ∀ u ∈ L.2, (rc 0 u).length ≤ 20) (e : ∀ k, 3 + 170 * l ≤ k → k < 3 + 170 * l + 170 → k < plc l s ∨ plc l s + 20 < k → g k = roomF f l s L.2.length k) (ht : SqAt g (plc l s) t) : LnAt g (3 + 170 * l) (L.1, L.2.insertIdx s.toNat t) := by
  have p1 : plc l s = 5 + 170 * l + 21 * s := rfl
  have p2 : plc l L.2.length = 5 + 170 * l + 21 * L.2.length := rfl
  obtain ⟨b1, b2, b3⟩ := h
  have hlen : (L.2.insertIdx s.toNat t).length = L.2.length + 1 := List.length_insertIdx_of_le_length (by omega) t
  refine ⟨?_, ?_, fun q u hq => ?_⟩
  · rw [e _ (by omega) (by omega) (by omega)]
    unfold roomF
    rw [if_pos rfl]
    show (L.2.length : Int) + 1 = ((L.2.insertIdx s.toNat t).length : Int)
    omega
  · rw [e _ (by omega) (by omega) (by omega)]
    unfold roomF
    rw [if_neg (by omega), if_neg (by omega)]
    exact b2
  · have hq' : (L.2.insertIdx s.toNat t)[q]? = some u := hq
    have hql := (List.getElem?_eq_some_iff.mp hq').1
    rw [List.getElem?_insertIdx] at hq'
    by_cases h1 : q < s.toNat
    · rw [if_pos h1] at hq'
      have h3 := hk u (List.mem_of_getElem? hq')
      refine (b3 q u hq').move h3 (fun k k0 k1 => ?_)
      rw [e _ (by omega) (by omega) (by omega)]
      unfold roomF
      rw [if_neg (by omega), if_neg (by omega)]
    · rw [if_neg h1] at hq'
      by_cases h2 : q = s.toNat
      · rw [if_pos h2, if_pos (by omega)] at hq'
        cases hq'
        subst h2
        rw [show 3 + 170 * l + 2 + 21 * ((s.toNat : Nat) : Int) = plc l s by omega]
        exact ht
      · rw [if_neg h2] at hq'
        have h3 := hk u (List.mem_of_getElem? hq')
        refine (b3 (q - 1) u hq').move h3 (fun k k0 k1 => ?_)
        rw [e _ (by omega) (by omega) (by omega)]
        unfold roomF
        rw [if_neg (by omega), if_pos (by omega)]
        exact cgA _ (by omega)
theorem LnAt_del {f g : Int → Int} {l s : Int} {L : Ln} (h : LnAt f (3 + 170 * l) L) (hs : 0 ≤ s ∧ s < L.2.length) (hn : L.2.length ≤ 8) (hk : ∀ u ∈ L.2, (rc 0 u).length ≤ 20) (e : ∀ k, 3 + 170 * l ≤ k → k < 3 + 170 * l + 170 → g k = gapF f l s L.2.length k) : LnAt g (3 + 170 * l) (L.1, L.2.eraseIdx s.toNat) := by
  have p1 : plc l s = 5 + 170 * l + 21 * s := rfl
  have p2 : plc l L.2.length = 5 + 170 * l + 21 * L.2.length := rfl
  obtain ⟨b1, b2, b3⟩ := h
  have hlen : (L.2.eraseIdx s.toNat).length = L.2.length - 1 := List.length_eraseIdx_of_lt (by omega)
  refine ⟨?_, ?_, fun q u hq => ?_⟩
  · rw [e _ (by omega) (by omega)]
    unfold gapF
    rw [if_pos rfl]
    show (L.2.length : Int) - 1 = ((L.2.eraseIdx s.toNat).length : Int)
    omega
  · rw [e _ (by omega) (by omega)]
    unfold gapF
    rw [if_neg (by omega), if_neg (by omega)]
    exact b2
  · have hq' : (L.2.eraseIdx s.toNat)[q]? = some u := hq
    have hql := (List.getElem?_eq_some_iff.mp hq').1
    rw [List.getElem?_eraseIdx] at hq'
    by_cases h1 : q < s.toNat
    · rw [if_pos h1] at hq'
      have h3 := hk u (List.mem_of_getElem? hq')
      refine (b3 q u hq').move h3 (fun k k0 k1 => ?_)
      rw [e _ (by omega) (by omega)]
      unfold gapF
      rw [if_neg (by omega), if_neg (by omega)]
    · rw [if_neg h1] at hq'
      have h3 := hk u (List.mem_of_getElem? hq')
      refine (b3 (q + 1) u hq').move h3 (fun k k0 k1 => ?_)
      rw [e _ (by omega) (by omega)]
      unfold gapF
      rw [if_neg (by omega), if_pos (by omega)]
      exact cgA _ (by omega)
theorem setLn_setLn (M : Mo) (l : Int) (A B : Ln) : setLn (setLn M l A) l B = setLn M l B := by simp [setLn, List.set_set]
theorem lnAt_setLn {M : Mo} {l : Int} {L A : Ln} (h : lnAt M l = some L) : lnAt (setLn M l A) l = some A := by
  obtain ⟨h1, h2, h3⟩ := lnAt_some h
  unfold lnAt setLn
  rw [if_pos h1]
  exact List.getElem?_set_self (by omega)
theorem ins_two {α : Type} {L : List α} {s : Nat} (h : s < L.length) (a b : α) : (L.set s a).insertIdx (s + 1) b = L.take s ++ a :: b :: L.drop (s + 1) := by
  induction L generalizing s with
  | nil => simp at h
  | cons x L ih =>
    cases s with
    | zero => simp
    | succ s => simp [ih (by simpa using h)]
theorem del_two {α : Type} {L : List α} {s : Nat} (h : s + 1 < L.length) (a : α) : (L.set s a).eraseIdx (s + 1) = L.take s ++ a :: L.drop (s + 2) := by
  induction L generalizing s with
  | nil => simp at h
  | cons x L ih =>
    cases s with
    | zero =>
      cases L with
      | nil => simp at h
      | cons y L => simp
    | succ s => simp [ih (by simpa using h)]
/-- a square becomes one, and another one comes as the next -/
def twoSq (M : Mo) (l s : Int) (L : Ln) (a b : Tr) : Mo := setLn M l (L.1, L.2.take s.toNat ++ a :: b :: L.2.drop (s.toNat + 1))
theorem MoAt_two {T : Tb} {f g : Int → Int} {M : Mo} {l s : Int} {L : Ln} {t a b : Tr} (h : MoAt f 0 M) (hk : okMo T M) (hl : lnAt M l = some L) (hs : sqIn L s = some t) (hn : L.2.length ≤ 7) (hla : (rc 0 a).length ≤ 20) (e : ∀ k, (k < plc l s ∨ plc l s + 41 < k) → g k = roomF f l (s + 1) L.2.length k) (ha : SqAt g (plc l s) a) (hb : SqAt g (plc l (s + 1)) b) : MoAt g 0 (twoSq M l s L a b) := by
  have p1 : plc l s = 5 + 170 * l + 21 * s := rfl
  have p2 : plc l L.2.length = 5 + 170 * l + 21 * L.2.length := rfl
  have p3 : plc l (s + 1) = 5 + 170 * l + 21 * (s + 1) := rfl
  have b1 := hk.ln hl
  have b3 := sqIn_some hs
  have hrows := (hk.rows (l.toNat, L) (lnAt_some hl).2.1).2
  refine MoAt_setLn h hl hk.rows (fun k hk2 => ?_) ?_
  · rw [e k (by omega)]
    unfold roomF
    rw [if_neg (by omega), if_neg (by omega)]
  · have h4 := h.ln hl
    rw [show 0 + 3 + 170 * l = 3 + 170 * l by omega] at h4
    -- first the one square, then the other
    have hset := LnAt_setSq (g := fun k => if plc l s ≤ k ∧ k ≤ plc l s + 20 then g k else f k) (t' := a) h4 ⟨b3.1, b3.2.2⟩ hrows (fun k hk2 => if_neg (by omega)) (by
      rw [show 3 + 170 * l + 2 + 21 * s = plc l s by omega]
      refine ha.move hla (fun k k0 k1 => ?_)
      exact if_pos (by omega))
    have := LnAt_ins (g := g) (s := s + 1) (t := b) hset ⟨by omega, by show s + 1 ≤ ((L.2.set s.toNat a).length : Int); rw [List.length_set]; omega⟩ (by show (L.2.set s.toNat a).length ≤ 7; rw [List.length_set]; omega) (fun u hu => ?_) (fun k k0 k1 hk2 => ?_) hb
    · rw [show (s + 1).toNat = s.toNat + 1 by omega] at this
      rw [← ins_two (by omega) a b]
      exact this
    · rcases List.mem_or_eq_of_mem_set hu with h5 | h5
      · exact hrows u h5
      · subst h5; exact hla
    · show g k = roomF _ l (s + 1) ((L.2.set s.toNat a).length : Int) k
      rw [List.length_set]
      by_cases hw : plc l s ≤ k ∧ k ≤ plc l s + 20
      · unfold roomF
        rw [if_neg (by omega), if_neg (by omega)]
        exact (if_pos hw).symm
      · rw [e k (by omega)]
        unfold roomF
        by_cases q1 : k = 3 + 170 * l
        · rw [if_pos q1, if_pos q1]
        · rw [if_neg q1, if_neg q1]
          by_cases q2 : plc l (s + 1) + 21 ≤ k ∧ k < plc l L.2.length + 21
          · rw [if_pos q2, if_pos q2]
            exact (if_neg (by omega)).symm
          · rw [if_neg q2, if_neg q2]
            exact (if_neg hw).symm
