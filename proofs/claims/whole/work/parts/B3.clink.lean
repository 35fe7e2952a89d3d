/-! LINKS, AND WHERE THE SIGNS STAND IN A CODE -/
def pJ (y : Int) (t : Tr) : List Tr := if y = 64 then pM t else pA t
theorem pJ_cases {y : Int} {u : Tr} (h : okw u) (hy : y = 64 ∨ y = 65) : (sy u = y ∧ ∃ a b, okw a ∧ okw b ∧ cC u = y :: (cC a ++ cC b) ∧ pJ y u = a :: pJ y b) ∨ (sy u ≠ y ∧ pJ y u = [u]) := by
  cases u with
  | var l => right; have : vN l < 26 := h; exact ⟨by simp only [sy]; omega, by simp [pJ, pM, pA]⟩
  | pow t l => right; have := h.2; exact ⟨by simp only [sy]; omega, by simp [pJ, pM, pA]⟩
  | mul a b =>
    rcases hy with rfl | rfl
    · exact Or.inl ⟨rfl, a, b, h.1, h.2, rfl, rfl⟩
    · exact Or.inr ⟨by simp [sy], by simp [pJ, pA]⟩
  | add a b =>
    rcases hy with rfl | rfl
    · exact Or.inr ⟨by simp [sy], by simp [pJ, pM]⟩
    · exact Or.inl ⟨rfl, a, b, h.1, h.2, rfl, by simp [pJ, pA]⟩
  | _ => exact absurd h (by simp [okw])
theorem pJ_pos {y : Int} {u : Tr} : 1 ≤ (pJ y u).length := by
  unfold pJ
  split
  · rw [pM_len]; exact nM_pos _
  · rw [pA_len]; exact nA_pos _
theorem pJ_le {y : Int} (hy : y = 64 ∨ y = 65) : ∀ (n : Nat) {u : Tr}, okw u → (cC u).length ≤ n → (pJ y u).length ≤ (cC u).length
  | 0, u, h, hn => by have := cC_pos h; omega
  | n + 1, u, h, hn => by
    rcases pJ_cases h hy with ⟨-, a, b, ha, hb, e1, e2⟩ | ⟨-, e⟩
    · have hl := congrArg List.length e1
      simp at hl
      have := pJ_le hy n hb (by omega)
      rw [e2, List.length_cons]
      omega
    · have := cC_pos h
      rw [e]; simp; omega
/-- the place of the n-th sign -/
def poC : Tr → Nat → Nat
  | .pow t _, i => if i = 0 then 0 else 1 + poC t (i - 1)
  | .mul a b, i => if i < sg a then 1 + poC a i else 1 + (cC a).length + poC b (i - sg a)
  | .add a b, i => if i < sg a then 1 + poC a i else 1 + (cC a).length + poC b (i - sg a)
  | _, _ => 0
theorem poC_spec {t : Tr} (h : okw t) : ∀ n, n < sg t → (sbC t)[poC t n]? = some (sgi t n) ∧ ∃ A B, (cC t = A ++ (cC (sgi t n) ++ B) ∧ A.length = poC t n ∧ nSg A = n) ∧ ∀ u, cC (rep t n u) = A ++ (cC u ++ B) := by
  have two : ∀ (y : Int) (t a b : Tr), okw a → okw b → jt y = true → sbC t = t :: (sbC a ++ sbC b) → cC t = y :: (cC a ++ cC b) → sg t = sg a + sg b → (∀ i, poC t i = if i < sg a then 1 + poC a i else 1 + (cC a).length + poC b (i - sg a)) → (∀ i, sgi t i = if i < sg a then sgi a i else sgi b (i - sg a)) → (∀ i u, cC (rep t i u) = y :: (if i < sg a then cC (rep a i u) ++ cC b else cC a ++ cC (rep b (i - sg a) u))) → (∀ n, n < sg a → (sbC a)[poC a n]? = some (sgi a n) ∧ ∃ A B, (cC a = A ++ (cC (sgi a n) ++ B) ∧ A.length = poC a n ∧ nSg A = n) ∧ ∀ u, cC (rep a n u) = A ++ (cC u ++ B)) → (∀ n, n < sg b → (sbC b)[poC b n]? = some (sgi b n) ∧ ∃ A B, (cC b = A ++ (cC (sgi b n) ++ B) ∧ A.length = poC b n ∧ nSg A = n) ∧ ∀ u, cC (rep b n u) = A ++ (cC u ++ B)) → ∀ n, n < sg t → (sbC t)[poC t n]? = some (sgi t n) ∧ ∃ A B, (cC t = A ++ (cC (sgi t n) ++ B) ∧ A.length = poC t n ∧ nSg A = n) ∧ ∀ u, cC (rep t n u) = A ++ (cC u ++ B) := by
    intro y t a b ha hb hy hs hc hg hp hi hr iha ihb n hn
    have la := sbC_len ha
    rw [hp, hi, hs]
    by_cases c : n < sg a
    · simp only [if_pos c]
      obtain ⟨q0, A, B, ⟨q1, q2, q3⟩, q4⟩ := iha n c
      refine ⟨?_, y :: A, B ++ cC b, ⟨by rw [hc, q1]; simp, by simp [q2]; omega, by rw [nSg_cons, if_pos hy]; omega⟩, fun u => by rw [hr, if_pos c, q4]; simp⟩
      rw [show 1 + poC a n = poC a n + 1 by omega, List.getElem?_cons_succ, List.getElem?_append_left (List.getElem?_eq_some_iff.mp q0).1]
      exact q0
    · simp only [if_neg c]
      obtain ⟨q0, A, B, ⟨q1, q2, q3⟩, q4⟩ := ihb (n - sg a) (by omega)
      refine ⟨?_, y :: (cC a ++ A), B, ⟨by rw [hc, q1]; simp, by simp [q2]; omega, by rw [nSg_cons, if_pos hy, nSg_app, nSg_cC ha]; omega⟩, fun u => by rw [hr, if_neg c, q4]; simp⟩
      rw [show 1 + (cC a).length + poC b (n - sg a) = (poC b (n - sg a) + (cC a).length) + 1 by omega, List.getElem?_cons_succ, List.getElem?_append_right (by omega), show poC b (n - sg a) + (cC a).length - (sbC a).length = poC b (n - sg a) by omega]
      exact q0
  induction t with
  | var l =>
    intro n hn
    have : n = 0 := by simp [sg] at hn; omega
    subst this
    exact ⟨rfl, [], [], ⟨by simp [sgi], rfl, rfl⟩, fun u => by simp [rep]⟩
  | pow t l ih =>
    intro n hn
    have hl := h.2
    simp only [poC, sgi]
    by_cases c : n = 0
    · subst c
      exact ⟨rfl, [], [], ⟨by simp, rfl, rfl⟩, fun u => by simp [rep]⟩
    · simp only [if_neg c]
      simp only [sg] at hn
      obtain ⟨q0, A, B, ⟨q1, q2, q3⟩, q4⟩ := ih h.1 (n - 1) (by omega)
      refine ⟨?_, ((l : Int) + 32) :: A, B, ⟨by simp only [cC]; rw [q1]; simp, by simp [q2]; omega, by rw [nSg_cons, if_neg (by simp [jt]; omega)]; omega⟩, fun u => by simp only [rep, if_neg c, cC]; rw [q4]; simp⟩
      rw [show 1 + poC t (n - 1) = poC t (n - 1) + 1 by omega]
      exact q0
  | mul a b iha ihb => exact two 64 _ a b h.1 h.2 rfl rfl rfl rfl (fun _ => rfl) (fun _ => rfl) (fun i u => by simp only [rep]; split <;> simp [cC]) (iha h.1) (ihb h.2)
  | add a b iha ihb => exact two 65 _ a b h.1 h.2 rfl rfl rfl rfl (fun _ => rfl) (fun _ => rfl) (fun i u => by simp only [rep]; split <;> simp [cC]) (iha h.1) (ihb h.2)
  | _ => exact absurd h (by simp [okw])
theorem jt_isS {u : Tr} (h : okw u) : jt (sy u) = !isS u := by
  cases u with
  | var l => have : vN l < 26 := h; simp [isS]; exact decide_eq_false (by simp only [sy]; omega)
  | pow t l => have := h.2; simp [isS]; exact decide_eq_false (by simp only [sy]; omega)
  | mul a b => rfl
  | add a b => rfl
  | _ => exact absurd h (by simp [okw])
theorem ltr_lo {x : Int} (h : ¬ (32 ≤ x ∧ x < 58)) : ltr x = x := if_neg h
theorem ltr_hi {x : Int} (h : 32 ≤ x ∧ x < 58) : ltr x = x - 32 := if_pos h
theorem hl_iff {x : Int} : hl x = true ↔ 32 ≤ x ∧ x < 58 := decide_eq_true_iff
theorem sy_sign {u : Tr} (h : okw u) (hs : isS u = true) : sy u = (lett u : Int) + (if holdsT u then 32 else 0) ∧ ltr (sy u) = lett u ∧ (hl (sy u) = true ↔ holdsT u = true) ∧ lett u < 26 := by
  cases u with
  | var l =>
    have h2 : vN l < 26 := h
    have e : sy (.var l) = (vN l : Int) := rfl
    have n : ¬ hl (sy (.var l)) = true := by rw [e, hl_iff]; omega
    exact ⟨by simp [sy, lett, holdsT], by rw [e, ltr_lo (by omega)]; rfl, ⟨fun q => absurd q n, fun q => by cases q⟩, h⟩
  | pow t l =>
    have h2 := h.2
    have e : sy (.pow t l) = (l : Int) + 32 := rfl
    have n : hl (sy (.pow t l)) = true := by rw [e, hl_iff]; omega
    exact ⟨by simp [sy, lett, holdsT], by rw [e, ltr_hi (by omega)]; show (l : Int) + 32 - 32 = (l : Int); omega, ⟨fun _ => rfl, fun _ => n⟩, h.2⟩
  | _ => simp [isS] at hs
theorem sgi_okw {t : Tr} (h : okw t) (n : Nat) (hn : n < sg t) : okw (sgi t n) ∧ isS (sgi t n) = true := by
  have hq := sbC_at h (poC_spec h n hn).1
  refine ⟨hq.1, ?_⟩
  clear hq
  induction t generalizing n with
  | var l => rfl
  | pow t l ih =>
    simp only [sgi]
    split
    · rfl
    · simp only [sg] at hn; exact ih h.1 _ (by omega)
  | mul a b iha ihb =>
    simp only [sgi]
    split
    · exact iha h.1 _ (by assumption)
    · simp only [sg] at hn; exact ihb h.2 _ (by omega)
  | add a b iha ihb =>
    simp only [sgi]
    split
    · exact iha h.1 _ (by assumption)
    · simp only [sg] at hn; exact ihb h.2 _ (by omega)
  | _ => exact absurd h (by simp [okw])
theorem poC_isPl {t : Tr} (h : okw t) {n : Nat} (hn : n < sg t) : isPl (cC t) n (poC t n) ∧ (cC t).getD (poC t n) 0 = sy (sgi t n) := by
  obtain ⟨q0, A, B, ⟨q1, q2, q3⟩, -⟩ := poC_spec h n hn
  have hs := sgi_okw h n hn
  have e := sbC_sy h q0
  have e2 : (cC t).getD (poC t n) 0 = sy (sgi t n) := by rw [List.getD_eq_getElem?_getD, e]; rfl
  refine ⟨⟨(List.getElem?_eq_some_iff.mp e).1, by rw [e2, jt_isS hs.1, hs.2]; rfl, ?_⟩, e2⟩
  rw [q1, ← q2, List.take_left, q3]
/-- the place of the sign around the n-th one -/
def hoC : Tr → Nat → Int → Int → Int
  | .pow t _, i, o, c => if i = 0 then c else hoC t (i - 1) (o + 1) o
  | .mul a b, i, o, c => if i < sg a then hoC a i (o + 1) c else hoC b (i - sg a) (o + 1 + (cC a).length) c
  | .add a b, i, o, c => if i < sg a then hoC a i (o + 1) c else hoC b (i - sg a) (o + 1 + (cC a).length) c
  | _, _, _, c => c
theorem hq_poC {t : Tr} (h : okw t) : ∀ n c o, n < sg t → (hq c o t)[poC t n]? = some (hoC t n o c) := by
  have lt : ∀ {t : Tr} {n : Nat}, okw t → n < sg t → poC t n < (cC t).length := fun h hn => (poC_isPl h hn).1.1
  induction t with
  | var l => intro n c o hn; rfl
  | pow t l ih =>
    intro n c o hn
    simp only [sg] at hn
    simp only [hq, poC, hoC]
    split
    · rfl
    · rw [show 1 + poC t (n - 1) = poC t (n - 1) + 1 by omega]
      exact ih h.1 (n - 1) o (o + 1) (by omega)
  | mul a b iha ihb =>
    intro n c o hn
    simp only [sg] at hn
    simp only [hq, poC, hoC]
    split
    · rename_i q
      rw [show 1 + poC a n = poC a n + 1 by omega, List.getElem?_cons_succ, List.getElem?_append_left (by rw [hq_len h.1]; exact lt h.1 q)]
      exact iha h.1 n c (o + 1) q
    · rw [show 1 + (cC a).length + poC b (n - sg a) = (poC b (n - sg a) + (cC a).length) + 1 by omega, List.getElem?_cons_succ, List.getElem?_append_right (by rw [hq_len h.1]; omega), hq_len h.1, show poC b (n - sg a) + (cC a).length - (cC a).length = poC b (n - sg a) by omega]
      exact ihb h.2 (n - sg a) c _ (by omega)
  | add a b iha ihb =>
    intro n c o hn
    simp only [sg] at hn
    simp only [hq, poC, hoC]
    split
    · rename_i q
      rw [show 1 + poC a n = poC a n + 1 by omega, List.getElem?_cons_succ, List.getElem?_append_left (by rw [hq_len h.1]; exact lt h.1 q)]
      exact iha h.1 n c (o + 1) q
    · rw [show 1 + (cC a).length + poC b (n - sg a) = (poC b (n - sg a) + (cC a).length) + 1 by omega, List.getElem?_cons_succ, List.getElem?_append_right (by rw [hq_len h.1]; omega), hq_len h.1, show poC b (n - sg a) + (cC a).length - (cC a).length = poC b (n - sg a) by omega]
      exact ihb h.2 (n - sg a) c _ (by omega)
  | _ => exact absurd h (by simp [okw])
/-- a place of a code and the number of signs ahead of it; none: -1 and -2 -/
def PN (L : List Int) (c c' : Int) : Prop := (c = -1 ∧ c' = -2) ∨ ∃ A B, L = A ++ B ∧ c = A.length ∧ c' = nSg A
theorem hoC_inI {t : Tr} (h : okw t) : ∀ (n : Nat) (pre post : List Int) (c c' : Int), n < sg t → PN (pre ++ (cC t ++ post)) c c' → PN (pre ++ (cC t ++ post)) (hoC t n pre.length c) (inI t n (nSg pre) c') := by
  have two : ∀ (y : Int) (t a b : Tr), okw a → okw b → jt y = true → cC t = y :: (cC a ++ cC b) → sg t = sg a + sg b → (∀ i o c, hoC t i o c = if i < sg a then hoC a i (o + 1) c else hoC b (i - sg a) (o + 1 + (cC a).length) c) → (∀ i s c, inI t i s c = if i < sg a then inI a i s c else inI b (i - sg a) (s + sg a) c) → (∀ (n : Nat) (pre post : List Int) (c c' : Int), n < sg a → PN (pre ++ (cC a ++ post)) c c' → PN (pre ++ (cC a ++ post)) (hoC a n pre.length c) (inI a n (nSg pre) c')) → (∀ (n : Nat) (pre post : List Int) (c c' : Int), n < sg b → PN (pre ++ (cC b ++ post)) c c' → PN (pre ++ (cC b ++ post)) (hoC b n pre.length c) (inI b n (nSg pre) c')) → ∀ (n : Nat) (pre post : List Int) (c c' : Int), n < sg t → PN (pre ++ (cC t ++ post)) c c' → PN (pre ++ (cC t ++ post)) (hoC t n pre.length c) (inI t n (nSg pre) c') := by
    intro y t a b ha hb hy hc hg hh hi iha ihb n pre post c c' hn hp
    rw [hh, hi]
    by_cases q : n < sg a
    · rw [if_pos q, if_pos q]
      have e : pre ++ (cC t ++ post) = (pre ++ [y]) ++ (cC a ++ (cC b ++ post)) := by rw [hc]; simp
      have := iha n (pre ++ [y]) (cC b ++ post) c c' q (by rw [← e]; exact hp)
      rw [← e, nSg_app, nSg_cons, if_pos hy] at this
      simpa [nSg] using this
    · rw [if_neg q, if_neg q]
      have e : pre ++ (cC t ++ post) = (pre ++ y :: cC a) ++ (cC b ++ post) := by rw [hc]; simp
      have := ihb (n - sg a) (pre ++ y :: cC a) post c c' (by omega) (by rw [← e]; exact hp)
      rw [← e, nSg_app, nSg_cons, if_pos hy, nSg_cC ha] at this
      rw [show (pre.length : Int) + 1 + ((cC a).length : Int) = ((pre ++ y :: cC a).length : Int) by simp; omega, show nSg pre + sg a = nSg pre + (0 + sg a) by omega]
      exact this
  induction t with
  | var l => intro n pre post c c' hn hp; exact hp
  | pow t l ih =>
    intro n pre post c c' hn hp
    simp only [hoC, inI]
    have hl := h.2
    split
    · exact hp
    · simp only [sg] at hn
      have e : pre ++ (cC (.pow t l) ++ post) = (pre ++ [(l : Int) + 32]) ++ (cC t ++ post) := by simp [cC]
      have := ih h.1 (n - 1) (pre ++ [(l : Int) + 32]) post pre.length (nSg pre) (by omega) (by rw [← e]; exact Or.inr ⟨pre, _, rfl, rfl, rfl⟩)
      rw [← e, nSg_app, nSg_cons, if_neg (by simp [jt]; omega)] at this
      simpa [nSg] using this
  | mul a b iha ihb => exact two 64 _ a b h.1 h.2 rfl rfl rfl (fun _ _ _ => rfl) (fun _ _ _ => rfl) (iha h.1) (ihb h.2)
  | add a b iha ihb => exact two 65 _ a b h.1 h.2 rfl rfl rfl (fun _ _ _ => rfl) (fun _ _ _ => rfl) (iha h.1) (ihb h.2)
  | _ => exact absurd h (by simp [okw])
theorem cC_lc {t : Tr} (h : okw t) {c : Nat} (hc : c < 26) : (cC t).countP (fun x => decide (ltr x = (c : Int))) = lc c t := by
  induction t with
  | var l =>
    have : vN l < 26 := h
    simp only [cC, lc, List.countP_cons, List.countP_nil]
    rw [ltr_lo (by omega)]
    by_cases e : vN l = c
    · rw [if_pos (by simp [e]), if_pos e]
    · rw [if_neg (by simp; omega), if_neg e]
  | pow t l ih =>
    have := h.2
    simp only [cC, lc, List.countP_cons, ih h.1]
    have e1 : ltr ((l : Int) + 32) = l := by unfold ltr; rw [if_pos (by omega)]; omega
    rw [e1]
    by_cases e : l = c
    · simp [e]; try omega
    · simp [e]; try omega
  | mul a b iha ihb =>
    simp only [cC, lc, List.countP_cons, List.countP_append, iha h.1, ihb h.2]
    have e1 : ltr 64 = 64 := by decide
    rw [e1]
    simp; omega
  | add a b iha ihb =>
    simp only [cC, lc, List.countP_cons, List.countP_append, iha h.1, ihb h.2]
    have e1 : ltr 65 = 65 := by decide
    rw [e1]
    simp; omega
  | _ => exact absurd h (by simp [okw])
section CLink
variable {E : EV} {d : Nat} {σ : St} {a : Int} {t : Tr}
theorem c_Sq_place {i : Int} (h : Cd σ a (cC t)) (ht : okw t) (hn : (cC t).length ≤ 1000) (h1 : rI i) : WMi E m_Sq_placeOf (d + 1) [aP a, aI i] σ (fun r τ => r = (if 0 ≤ i ∧ i < sg t then (poC t i.toNat : Int) else -1) ∧ τ = σ) := by
  refine WMi.mono (c_Sq_placeOf h hn (cC_sym ht) h1) (fun r τ _ hq => ⟨?_, hq.2⟩)
  rw [nSg_cC ht] at hq
  rcases hq.1 with ⟨p, rfl, hp⟩ | ⟨rfl, hp⟩
  · have hle := nSg_mono (cC t) (show p + 1 ≤ (cC t).length by have := hp.1; omega)
    rw [nSg_take hp.1, hp.2.1, if_neg (by simp), List.take_length, nSg_cC ht] at hle
    have h2 := hp.2.2
    rw [if_pos (by omega)]
    have h3 := (poC_isPl ht (n := i.toNat) (by omega)).1
    rw [show ((i.toNat : Nat) : Int) = i by omega] at h3
    rw [isPl_uniq hp h3]
  · rw [if_neg hp]
theorem c_Sq_links {y : Int} {A B : List Int} {u : Tr} {o : Int} (h : Cd σ a (A ++ (cC u ++ B))) (hu : okw u) (hn : (A ++ (cC u ++ B)).length ≤ 1000) (ho : o = A.length) (hy : y = 64 ∨ y = 65) : WMi E m_Sq_links (d + 3) [aP a, aI o, aI y] σ (fun r τ => r = (pJ y u).length ∧ τ = σ) := by
  have hl0 : (A ++ (cC u ++ B)).length = A.length + ((cC u).length + B.length) := by simp
  subst ho
  refine e_Sq_links _ _ _ ⟨by omega, ?_⟩
  have key : ∀ (s : List Int × Tr), (okw s.2 ∧ s.1 ++ (cC s.2 ++ B) = A ++ (cC u ++ B)) → ∀ n : Nat, n + (pJ y s.2).length = (pJ y u).length + 1 → WP E m_Sq_links (d + 3) 9 [(0, aP a), (2, aI y), (3, aI n), (4, aI s.1.length)] [] σ (fun r τ => ∃ v, r = some (aI v) ∧ σ.2 <+: τ.2 ∧ v = (pJ y u).length ∧ τ = σ) := by
    refine lpx (S := List Int × Tr) (fun s => (cC s.2).length) (fun s => ∀ n : Nat, n + (pJ y s.2).length = (pJ y u).length + 1 → WP E m_Sq_links (d + 3) 9 [(0, aP a), (2, aI y), (3, aI n), (4, aI s.1.length)] [] σ (fun r τ => ∃ v, r = some (aI v) ∧ σ.2 <+: τ.2 ∧ v = (pJ y u).length ∧ τ = σ)) _ (fun s hI ih n hnn => ?_)
    obtain ⟨K, w⟩ := s
    obtain ⟨i1, i2⟩ := hI
    simp only at i1 i2 ih hnn ⊢
    rw [← i2] at h hn hl0
    have hc := h
    obtain ⟨q1, q2, q3⟩ := h
    have hw := cC_pos i1
    have hr := sy_r i1
    have hle := pJ_le hy _ hu (Nat.le_refl _)
    have hl1 : (K ++ (cC w ++ B)).length = K.length + ((cC w).length + B.length) := by simp
    have e2 : σ.1 (σ.1 a 0) (K.length : Int) = sy w := by
      rw [q3.r (by omega) (by omega), cC_sy i1]
      simp [List.getD_eq_getElem?_getD]
    refine b_Sq_links_9 _ _ _ _ ⟨q1, ⟨_, q2⟩, by omega, by rw [ln_of q2]; omega, fun c => ?_, fun c => ⟨q1, ⟨_, q2, by omega, by omega, by omega⟩, by omega, by omega, fun c2 => ?_, fun c2 => ⟨q1, ?_⟩⟩⟩
    · rw [ln_of q2] at c; omega
    · rw [e2] at c2
      rcases pJ_cases i1 hy with ⟨q, -⟩ | ⟨-, q⟩
      · exact absurd q c2
      · rw [q] at hnn; simp at hnn; exact ri_p (by omega)
    · rw [e2] at c2
      rcases pJ_cases i1 hy with ⟨-, x, z, hx, hz, g1, g2⟩ | ⟨q, -⟩
      · have hcd : Cd σ a ((K ++ [y]) ++ (cC x ++ (cC z ++ B))) := by rw [g1] at hc; simpa using hc
        have hx1 := cC_pos hx
        have hz1 := cC_pos hz
        have hl2 := congrArg List.length g1
        simp only [List.length_cons, List.length_append] at hl2
        refine wmi_p (c_Sq_endOf hcd hx (by simp; omega) (by simp)) ⟨by omega, by omega, ?_⟩
        rw [show max ((K.length : Int) + 1) ((K.length : Int) + 1 + (cC x).length) = ((K ++ y :: cC x).length : Int) by simp; omega]
        rw [g2] at hnn
        exact ih (K ++ y :: cC x, z) (by show (cC z).length < (cC w).length; omega) ⟨hz, by show K ++ y :: cC x ++ (cC z ++ B) = _; rw [← i2, g1]; simp⟩ (n + 1) (by show n + 1 + (pJ y z).length = _; simp at hnn; omega)
      · exact absurd c2 q
  rw [show max 0 (A.length : Int) = A.length by omega]
  exact key (A, u) ⟨hu, rfl⟩ 1 (Nat.add_comm _ _)
theorem c_Sq_linkPlace {y : Int} {k : Nat} (h : Cd σ a (cC t)) (ht : okw t) (hn : (cC t).length ≤ 1000) (hy : y = 64 ∨ y = 65) (hk : k < (pJ y t).length) : WMi E m_Sq_linkPlace (d + 3) [aP a, aI 0, aI y, aI k] σ (fun r τ => (∃ A B w, (pJ y t)[k]? = some w ∧ cC t = A ++ (cC w ++ B) ∧ r = A.length) ∧ τ = σ) := by
  refine e_Sq_linkPlace _ _ _ _ ⟨by omega, ?_⟩
  have hc := h
  obtain ⟨q1, q2, q3⟩ := h
  have hkl := pJ_le hy _ ht (Nat.le_refl _)
  have key : ∀ (s : List Int × Tr × Nat), (okw s.2.1 ∧ s.2.2 ≤ k ∧ (∃ B, cC t = s.1 ++ (cC s.2.1 ++ B)) ∧ pJ y s.2.1 = (pJ y t).drop s.2.2) → WP E m_Sq_linkPlace (d + 3) 10 [(0, aP a), (2, aI y), (3, aI k), (4, aI s.1.length), (5, aI s.2.2)] [] σ (fun r τ => ∃ v, r = some (aI v) ∧ σ.2 <+: τ.2 ∧ (∃ A B w, (pJ y t)[k]? = some w ∧ cC t = A ++ (cC w ++ B) ∧ v = A.length) ∧ τ = σ) := by
    refine lpx (fun s => k - s.2.2) _ _ (fun s hI ih => ?_)
    obtain ⟨K, w, m⟩ := s
    obtain ⟨i1, i2, ⟨B, i3⟩, i4⟩ := hI
    simp only at i1 i2 i3 i4 ih ⊢
    have hw := cC_pos i1
    have hr := sy_r i1
    have hl1 := congrArg List.length i3
    simp only [List.length_append] at hl1
    have e2 : σ.1 (σ.1 a 0) (K.length : Int) = sy w := by
      rw [q3.r (by omega) (by omega), i3, cC_sy i1]
      simp [List.getD_eq_getElem?_getD]
    refine b_Sq_linkPlace_10 _ _ _ _ _ ⟨by omega, by omega, fun c => ?_, fun c => ⟨q1, ⟨_, q2⟩, by omega, by rw [ln_of q2]; omega, fun c2 => ?_, fun c2 => ⟨q1, ⟨_, q2, by omega, by omega, by omega⟩, by omega, by omega, fun c3 => ?_, fun c3 => ⟨q1, ?_⟩⟩⟩⟩
    · have hm : m = k := by omega
      subst hm
      have hg : (pJ y t)[m]? = (pJ y w)[0]? := by rw [i4]; simp
      refine b_Sq_linkPlace_53 _ _ _ ⟨q1, ⟨_, q2⟩, by omega, by rw [ln_of q2]; omega, fun c2 => ?_, fun c2 => ⟨q1, ⟨_, q2, by omega, by omega, by omega⟩, by omega, by omega, fun c3 => ?_, fun c3 => ?_⟩⟩
      · rw [ln_of q2] at c2; omega
      · rw [e2] at c3
        rcases pJ_cases i1 hy with ⟨q, -⟩ | ⟨-, q⟩
        · exact absurd q c3
        · exact ⟨_, rfl, List.prefix_refl _, ⟨K, B, w, by rw [hg, q]; rfl, i3, rfl⟩, rfl⟩
      · rw [e2] at c3
        rcases pJ_cases i1 hy with ⟨-, x, z, hx, hz, g1, g2⟩ | ⟨q, -⟩
        · exact ⟨_, rfl, List.prefix_refl _, ⟨K ++ [y], cC z ++ B, x, by rw [hg, g2]; rfl, by rw [i3, g1]; simp, by simp⟩, rfl⟩
        · exact absurd c3 q
    · rw [ln_of q2] at c2; omega
    · rw [e2] at c3
      rcases pJ_cases i1 hy with ⟨q, -⟩ | ⟨-, q⟩
      · exact absurd q c3
      · rw [i4] at q
        have := congrArg List.length q
        simp at this
        omega
    · rw [e2] at c3
      rcases pJ_cases i1 hy with ⟨-, x, z, hx, hz, g1, g2⟩ | ⟨q, -⟩
      · have hcd : Cd σ a ((K ++ [y]) ++ (cC x ++ (cC z ++ B))) := by rw [i3, g1] at hc; simpa using hc
        have hl2 := congrArg List.length g1
        simp only [List.length_cons, List.length_append] at hl2
        refine wmi_p (c_Sq_endOf hcd hx (by simp; omega) (by simp)) ?_
        rw [show (K.length : Int) + 1 + (cC x).length = ((K ++ y :: cC x).length : Int) by simp; omega]
        refine ih (K ++ y :: cC x, z, m + 1) (by show k - (m + 1) < k - m; omega) ⟨hz, by show m + 1 ≤ k; omega, ⟨B, by show cC t = K ++ y :: cC x ++ (cC z ++ B); rw [i3, g1]; simp⟩, ?_⟩
        show pJ y z = (pJ y t).drop (m + 1)
        rw [← List.drop_drop, ← i4, g2]
        rfl
      · exact absurd c3 q
  exact key ([], t, 0) ⟨ht, Nat.zero_le _, ⟨[], by simp⟩, by simp⟩
end CLink
