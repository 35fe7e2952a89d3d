/-! LETTER, SAME, INSIDE -/
/-- the sign around the i-th one, by its number; s signs are ahead, c is around all -/
def inI : Tr → Nat → Nat → Int → Int
  | .pow t _, i, s, c => if i = 0 then c else inI t (i - 1) (s + 1) s
  | .mul a b, i, s, c => if i < sg a then inI a i s c else inI b (i - sg a) (s + sg a) c
  | .add a b, i, s, c => if i < sg a then inI a i s c else inI b (i - sg a) (s + sg a) c
  | _, _, _, c => c
def pq : Nat → Nat → Int → Tr → List Int
  | _, _, c, .var _ => [c]
  | _, s, c, .pow t _ => c :: pq 0 (s + 1) s t
  | k, s, c, .mul a b => (if k = 1 then [] else [c]) ++ (pq 0 s c a ++ pq 1 (s + sg a) c b)
  | k, s, c, .add a b => (if k = 2 then [] else [c]) ++ (pq 0 s c a ++ pq 2 (s + sg a) c b)
  | _, _, _, _ => []
theorem pq_len (t : Tr) : ∀ k s c, (pq k s c t).length = (rc k t).length := by
  induction t with
  | mul a b iha ihb => intro k s c; simp only [pq, rc]; split <;> simp [iha, ihb] <;> omega
  | add a b iha ihb => intro k s c; simp only [pq, rc]; split <;> simp [iha, ihb] <;> omega
  | pow t l ih => intro k s c; simp [pq, rc, ih]
  | _ => intro k s c; simp [pq, rc]
/-- what the reference's loop does, tree by tree -/
def iH (p : Nat) : List Tr → Nat → Nat → Int → Int
  | [], _, _, c => c
  | u :: L, j, s, c => iH p L (j + 1) (s + (if isS u then 1 else 0)) (if j < p ∧ holdsT u = true ∧ p < j + (rc 0 u).length then s else c)
def cS : List Tr → Nat
  | [] => 0
  | u :: L => (if isS u then 1 else 0) + cS L
theorem cS_app (A B : List Tr) : cS (A ++ B) = cS A + cS B := by
  induction A with
  | nil => simp [cS]
  | cons u A ih => simp only [List.cons_append, cS, ih]; omega
theorem sb_cS {t : Tr} (h : ok t) : ∀ k, cS (sb k t) = sg t := by
  induction t with
  | var l => intro k; simp [sb, cS, sg, isS]
  | pow t l ih => intro k; simp only [sb, cS, sg, isS, ih h.1]; simp; omega
  | mul a b iha ihb => intro k; simp only [sb, cS_app, iha h.1, ihb h.2.1, sg]; split <;> simp [cS, isS]
  | add a b iha ihb => intro k; simp only [sb, cS_app, iha h.1, ihb h.2.1, sg]; split <;> simp [cS, isS]
  | _ => exact absurd h (by simp [ok])
theorem iH_c0 {p j s : Nat} {c : Int} {u : Tr} {L : List Tr} (h : ¬ (j < p ∧ holdsT u = true ∧ p < j + (rc 0 u).length)) : iH p (u :: L) j s c = iH p L (j + 1) (s + (if isS u then 1 else 0)) c := by
  rw [iH, if_neg h]
theorem iH_c1 {p j s : Nat} {c : Int} {u : Tr} {L : List Tr} (h : j < p ∧ holdsT u = true ∧ p < j + (rc 0 u).length) : iH p (u :: L) j s c = iH p L (j + 1) (s + (if isS u then 1 else 0)) s := by
  rw [iH, if_pos h]
theorem iH_app (p : Nat) (A B : List Tr) (j s : Nat) (c : Int) : iH p (A ++ B) j s c = iH p B (j + A.length) (s + cS A) (iH p A j s c) := by
  induction A generalizing j s c with
  | nil => simp [iH, cS]
  | cons u A ih =>
    simp only [List.cons_append, iH, ih, List.length_cons, cS]
    rw [show j + 1 + A.length = j + (A.length + 1) by omega, Nat.add_assoc]
theorem iH_pq {t : Tr} (h : ok t) (p : Nat) : ∀ k s c j, ((p < j ∨ j + (rc k t).length ≤ p) → iH p (sb k t) j s c = c) ∧ (j ≤ p → p < j + (rc k t).length → (pq k s c t)[p - j]? = some (iH p (sb k t) j s c)) := by
  induction t with
  | var l =>
    intro k s c j
    simp only [sb, rc, pq, List.length_cons, List.length_nil]
    rw [iH_c0 (by simp [holdsT])]
    refine ⟨fun _ => by simp [iH], fun h1 h2 => ?_⟩
    rw [show p - j = 0 by omega]; simp [iH]
  | pow t l ih =>
    intro k s c j
    have hi := fun c' => ih h.1 0 (s + 1) c' (j + 1)
    have hl : (rc k (.pow t l)).length = (rc 0 t).length + 1 := rfl
    have hl0 : (rc 0 (.pow t l)).length = (rc 0 t).length + 1 := rfl
    have es : sb k (.pow t l) = .pow t l :: sb 0 t := rfl
    have ed : pq k s c (.pow t l) = c :: pq 0 (s + 1) s t := rfl
    have ei : s + (if isS (Lean.Grind.CommRing.Expr.pow t l) then 1 else 0) = s + 1 := rfl
    rw [hl, es, ed]
    refine ⟨fun h1 => ?_, fun h1 h2 => ?_⟩
    · rw [iH_c0 (by rw [hl0]; omega), ei, (hi c).1 (by omega)]
    · by_cases hp : p = j
      · subst hp
        rw [iH_c0 (by omega), ei, (hi c).1 (by omega), show p - p = 0 by omega]; simp
      · rw [iH_c1 ⟨by omega, rfl, by rw [hl0]; omega⟩, ei, show p - j = (p - (j + 1)) + 1 by omega, List.getElem?_cons_succ, (hi s).2 (by omega) (by omega)]
  | mul a b iha ihb =>
    intro k s c j
    have core : ∀ j, ((p < j ∨ j + ((rc 0 a).length + (rc 1 b).length) ≤ p) → iH p (sb 0 a ++ sb 1 b) j s c = c) ∧ (j ≤ p → p < j + ((rc 0 a).length + (rc 1 b).length) → (pq 0 s c a ++ pq 1 (s + sg a) c b)[p - j]? = some (iH p (sb 0 a ++ sb 1 b) j s c)) := by
      intro j
      have ha := iha h.1 0 s c j
      have hb := fun c' => ihb h.2.1 1 (s + sg a) c' (j + (rc 0 a).length)
      rw [iH_app, sb_len, sb_cS h.1]
      refine ⟨fun h1 => by rw [ha.1 (by omega), (hb c).1 (by omega)], fun h1 h2 => ?_⟩
      by_cases hp : p < j + (rc 0 a).length
      · rw [(hb _).1 (by omega), List.getElem?_append_left (by rw [pq_len]; omega), ha.2 h1 hp]
      · rw [ha.1 (by omega), List.getElem?_append_right (by rw [pq_len]; omega), pq_len, show p - j - (rc 0 a).length = p - (j + (rc 0 a).length) by omega, (hb c).2 (by omega) (by omega)]
    simp only [sb, rc, pq]
    by_cases hk : k = 1
    · rw [if_pos hk, if_pos hk, if_pos hk]
      simpa using core j
    · rw [if_neg hk, if_neg hk, if_neg hk]
      have hc := core (j + 1)
      simp only [List.cons_append, List.nil_append, List.length_cons, List.length_append]
      rw [iH_c0 (by simp [holdsT])]
      simp only [isS, Bool.false_eq_true, if_false, Nat.add_zero]
      refine ⟨fun h1 => hc.1 (by omega), fun h1 h2 => ?_⟩
      by_cases hp : p = j
      · subst hp
        rw [hc.1 (by omega), show p - p = 0 by omega]; simp
      · rw [show p - j = (p - (j + 1)) + 1 by omega, List.getElem?_cons_succ, hc.2 (by omega) (by omega)]
  | add a b iha ihb =>
    intro k s c j
    have core : ∀ j, ((p < j ∨ j + ((rc 0 a).length + (rc 2 b).length) ≤ p) → iH p (sb 0 a ++ sb 2 b) j s c = c) ∧ (j ≤ p → p < j + ((rc 0 a).length + (rc 2 b).length) → (pq 0 s c a ++ pq 2 (s + sg a) c b)[p - j]? = some (iH p (sb 0 a ++ sb 2 b) j s c)) := by
      intro j
      have ha := iha h.1 0 s c j
      have hb := fun c' => ihb h.2.1 2 (s + sg a) c' (j + (rc 0 a).length)
      rw [iH_app, sb_len, sb_cS h.1]
      refine ⟨fun h1 => by rw [ha.1 (by omega), (hb c).1 (by omega)], fun h1 h2 => ?_⟩
      by_cases hp : p < j + (rc 0 a).length
      · rw [(hb _).1 (by omega), List.getElem?_append_left (by rw [pq_len]; omega), ha.2 h1 hp]
      · rw [ha.1 (by omega), List.getElem?_append_right (by rw [pq_len]; omega), pq_len, show p - j - (rc 0 a).length = p - (j + (rc 0 a).length) by omega, (hb c).2 (by omega) (by omega)]
    simp only [sb, rc, pq]
    by_cases hk : k = 2
    · rw [if_pos hk, if_pos hk, if_pos hk]
      simpa using core j
    · rw [if_neg hk, if_neg hk, if_neg hk]
      have hc := core (j + 1)
      simp only [List.cons_append, List.nil_append, List.length_cons, List.length_append]
      rw [iH_c0 (by simp [holdsT])]
      simp only [isS, Bool.false_eq_true, if_false, Nat.add_zero]
      refine ⟨fun h1 => hc.1 (by omega), fun h1 h2 => ?_⟩
      by_cases hp : p = j
      · subst hp
        rw [hc.1 (by omega), show p - p = 0 by omega]; simp
      · rw [show p - j = (p - (j + 1)) + 1 by omega, List.getElem?_cons_succ, hc.2 (by omega) (by omega)]
  | _ => exact absurd h (by simp [ok])
theorem pq_sign {t : Tr} (h : ok t) : ∀ i, i < sg t → ∀ k s c, ∃ A B, cnt A = i ∧ rc k t = A ++ (rc 0 (sgi t i) ++ B) ∧ (pq k s c t)[A.length]? = some (inI t i s c) := by
  have sr : ∀ (u : Tr) (k : Nat), isS u = true → rc k u = rc 0 u := by
    intro u k hu
    cases u <;> simp_all [isS, rc]
  induction t with
  | var l => intro i hi k s c; have : i = 0 := by simp [sg] at hi; omega
             subst this; exact ⟨[], [], rfl, by simp [sgi, sr (.var l) k rfl], by simp [pq, inI]⟩
  | pow t l ih =>
    intro i hi k s c
    have hl : l < 26 := h.2
    by_cases h0 : i = 0
    · subst h0
      exact ⟨[], [], rfl, by simp [sgi, sr (.pow t l) k rfl], by simp [pq, inI]⟩
    · obtain ⟨A, B, h1, h2, h3⟩ := ih h.1 (i - 1) (by simp [sg] at hi; omega) 0 (s + 1) s
      refine ⟨((l : Int) + 101) :: A, B, ?_, ?_, ?_⟩
      · have h3 : (l : Int) + 101 < 200 := by omega
        simp [cnt, h1, h3]; omega
      · simp [sgi, h0, rc, h2]
      · simp only [pq, inI, List.length_cons, List.getElem?_cons_succ, h3, if_neg h0]
  | mul a b iha ihb =>
    intro i hi k s c
    simp only [sg] at hi
    have hx : ¬ ((nM b : Int) + 201 < 200) := by omega
    by_cases hlt : i < sg a
    · obtain ⟨A, B, h1, h2, h3⟩ := iha h.1 i hlt 0 s c
      have hAl : A.length < (pq 0 s c a).length := (List.getElem?_eq_some_iff.mp h3).1
      refine ⟨(if k = 1 then [] else [(nM b : Int) + 201]) ++ A, B ++ rc 1 b, ?_, ?_, ?_⟩
      · rw [cnt_app, h1]
        split <;> simp [cnt, hx]
      · simp only [sgi, if_pos hlt, rc, h2]
        split <;> simp
      · simp only [pq, inI, if_pos hlt]
        split
        · simpa [List.getElem?_append_left hAl] using h3
        · simp only [List.length_append, List.length_cons, List.length_nil, List.cons_append, List.nil_append]
          rw [List.getElem?_cons_succ, List.getElem?_append_left hAl]
          exact h3
    · obtain ⟨A, B, h1, h2, h3⟩ := ihb h.2.1 (i - sg a) (by omega) 1 (s + sg a) c
      refine ⟨(if k = 1 then [] else [(nM b : Int) + 201]) ++ (rc 0 a ++ A), B, ?_, ?_, ?_⟩
      · rw [cnt_app, cnt_app, h1, rc_cnt h.1]
        split <;> simp [cnt, hx] <;> omega
      · simp only [sgi, if_neg hlt, rc, h2]
        split <;> simp
      · simp only [pq, inI, if_neg hlt]
        split
        · simp only [List.length_append, List.nil_append, List.length_nil]
          rw [List.getElem?_append_right (by rw [pq_len]; omega), pq_len, show (rc 0 a).length + A.length - (rc 0 a).length = A.length by omega]
          exact h3
        · simp only [List.length_append, List.length_cons, List.length_nil, List.cons_append, List.nil_append]
          rw [List.getElem?_cons_succ, List.getElem?_append_right (by rw [pq_len]; omega), pq_len, show (rc 0 a).length + A.length - (rc 0 a).length = A.length by omega]
          exact h3
  | add a b iha ihb =>
    intro i hi k s c
    simp only [sg] at hi
    have hx : ¬ ((nA b : Int) + 301 < 200) := by omega
    by_cases hlt : i < sg a
    · obtain ⟨A, B, h1, h2, h3⟩ := iha h.1 i hlt 0 s c
      have hAl : A.length < (pq 0 s c a).length := (List.getElem?_eq_some_iff.mp h3).1
      refine ⟨(if k = 2 then [] else [(nA b : Int) + 301]) ++ A, B ++ rc 2 b, ?_, ?_, ?_⟩
      · rw [cnt_app, h1]
        split <;> simp [cnt, hx]
      · simp only [sgi, if_pos hlt, rc, h2]
        split <;> simp
      · simp only [pq, inI, if_pos hlt]
        split
        · simpa [List.getElem?_append_left hAl] using h3
        · simp only [List.length_append, List.length_cons, List.length_nil, List.cons_append, List.nil_append]
          rw [List.getElem?_cons_succ, List.getElem?_append_left hAl]
          exact h3
    · obtain ⟨A, B, h1, h2, h3⟩ := ihb h.2.1 (i - sg a) (by omega) 2 (s + sg a) c
      refine ⟨(if k = 2 then [] else [(nA b : Int) + 301]) ++ (rc 0 a ++ A), B, ?_, ?_, ?_⟩
      · rw [cnt_app, cnt_app, h1, rc_cnt h.1]
        split <;> simp [cnt, hx] <;> omega
      · simp only [sgi, if_neg hlt, rc, h2]
        split <;> simp
      · simp only [pq, inI, if_neg hlt]
        split
        · simp only [List.length_append, List.nil_append, List.length_nil]
          rw [List.getElem?_append_right (by rw [pq_len]; omega), pq_len, show (rc 0 a).length + A.length - (rc 0 a).length = A.length by omega]
          exact h3
        · simp only [List.length_append, List.length_cons, List.length_nil, List.cons_append, List.nil_append]
          rw [List.getElem?_cons_succ, List.getElem?_append_right (by rw [pq_len]; omega), pq_len, show (rc 0 a).length + A.length - (rc 0 a).length = A.length by omega]
          exact h3
  | _ => exact absurd h (by simp [ok])
theorem iH_late (p : Nat) : ∀ (L : List Tr) (j s : Nat) (c : Int), p ≤ j → iH p L j s c = c
  | [], _, _, _, _ => rfl
  | u :: L, j, s, c, h => by rw [iH_c0 (by omega)]; exact iH_late p L (j + 1) _ c (by omega)
def sp_letter (M : Mo) (l s i : Int) : Int := match sqAt M l s with
  | none => -1
  | some t => if 0 ≤ i ∧ i < sg t then lett (sgi t i.toNat) else -1
def sp_inside (M : Mo) (l s i : Int) : Int := match sqAt M l s with
  | none => -1
  | some t => if 0 ≤ i ∧ i < sg t then inI t i.toNat 0 (-2) else -1
def sp_same (M : Mo) (l s l2 s2 : Int) : Int := match sqAt M l s, sqAt M l2 s2 with
  | some t, some u => if rc 0 t = rc 0 u then 1 else 0
  | _, _ => -1
section MInside
variable {E : EV} {d : Nat} {σ : St} {T : Tb} {M : Mo} {P : List Mo} {tp : List Int}
theorem c_M_letter {l s i : Int} (h : RS σ T M P tp) (hk : okMo T M) (h1 : rI l) (h2 : rI s) (h3 : rI i) : WMi E m_M_letter (d + 4) [aP 42, aI l, aI s, aI i] σ (fun r τ => r = sp_letter M l s i ∧ Fr [(50, -1), (42, 10)] σ τ) := by
  have hF := h.1.1
  refine e_M_letter _ _ _ hF (WMi.mono (c_M_takesSign h hk h1 h2 h3) (fun r τ hp hq => ?_))
  obtain ⟨hf, hq⟩ := hq
  have hT := hf.fix hF (by decide)
  unfold sp_letter
  cases hsq : sqAt M l s with
  | none =>
    rw [hsq] at hq
    dsimp only at hq ⊢
    subst hq
    exact ⟨hT, by decide, fun c => absurd rfl c, fun _ => ⟨_, rfl, hp, rfl, hf⟩⟩
  | some t =>
    rw [hsq] at hq
    dsimp only at hq ⊢
    obtain ⟨a1, a2, a3, a4, a5, a6, a7⟩ := h.1.2.2.sq hk hsq
    by_cases hi : 0 ≤ i ∧ i < sg t
    · rw [if_pos hi] at hq ⊢
      obtain ⟨hR, A, B, hr, hA, hu⟩ := hq
      subst hr
      have hsg := sgi_isS a5.1 i.toNat (by omega)
      have hself := hu _ hsg.1
      rw [rep_self a5.1 _ (by omega), rc_sign hsg.1] at hself
      have hlt := lett_lt hsg.2.1 hsg.1
      have hAl : A.length < 20 := by have := congrArg List.length hself; simp at this; omega
      have hrow := hR.2
      rw [hself] at hrow
      have hx := hrow.at_app
      rw [show (0 : Int) + A.length = A.length by omega] at hx
      have hxr : 1 ≤ τ.1 50 A.length ∧ τ.1 50 A.length ≤ 126 := by rw [hx]; split <;> omega
      have hlet : τ.1 50 A.length % 100 - 1 = lett (sgi t i.toNat) := by rw [hx]; split <;> omega
      exact ⟨hT, by omega, fun _ => ⟨by omega, wmi_p (c_M_letterOf (by omega)) ⟨_, rfl, hp, hlet, hf⟩⟩, fun c => by omega⟩
    · rw [if_neg hi] at hq ⊢
      subst hq
      exact ⟨hT, by decide, fun c => absurd rfl c, fun _ => ⟨_, rfl, hp, rfl, hf⟩⟩
theorem c_M_same {l s l2 s2 : Int} (h : RS σ T M P tp) (hk : okMo T M) (h1 : rI l) (h2 : rI s) (h3 : rI l2) (h4 : rI s2) : WMi E m_M_same (d + 3) [aP 42, aI l, aI s, aI l2, aI s2] σ (fun r τ => r = sp_same M l s l2 s2 ∧ τ = σ) := by
  have hF := h.1.1
  unfold sp_same
  refine e_M_same _ _ _ _ hF (wmi_p (c_M_isSquare' h hk h1 h2) ⟨hF, b2i_r _, fun c => ?_, fun c => wmi_p (c_M_isSquare' h hk h3 h4) ⟨hF, b2i_r _, fun c2 => ?_, fun c2 => ?_⟩⟩)
  · rw [b2i_0] at c
    refine ri_p ?_
    cases hs : sqAt M l s with
    | none => rfl
    | some t => exact absurd (by simp [hs]) c
  · rw [b2i_n0] at c c2
    obtain ⟨t, ht⟩ := Option.isSome_iff_exists.mp c
    obtain ⟨u, hu⟩ := Option.isSome_iff_exists.mp c2
    obtain ⟨a1, a2, a3, a4, a5, a6, a7⟩ := h.1.2.2.sq hk ht
    obtain ⟨b1, b2, b3, b4, b5, b6, b7⟩ := h.1.2.2.sq hk hu
    rw [ht, hu]
    dsimp only
    have p1 : plc l s = 5 + 170 * l + 21 * s := rfl
    have p2 : plc l2 s2 = 5 + 170 * l2 + 21 * s2 := rfl
    rw [p1] at a3 a4
    rw [p2] at b3 b4
    refine wmi_p c_M_placeOf ⟨hF, wmi_p c_M_placeOf ⟨hF, by omega, by omega, by omega, by omega, fun c3 => ?_, fun c3 => ri_p ?_⟩⟩
    · have hle : (rc 0 t).length = (rc 0 u).length := by omega
      have key : ∀ k : Nat, (k ≤ (rc 0 t).length ∧ (rc 0 t).take k = (rc 0 u).take k) → WP E m_M_same (d + 3) 58 [(0, aP 42), (5, aI (5 + 170 * l + 21 * s)), (6, aI (5 + 170 * l2 + 21 * s2)), (7, aI ((k : Int) + 1))] [] σ (fun r τ => ∃ v, r = some (aI v) ∧ σ.2 <+: τ.2 ∧ v = (if rc 0 t = rc 0 u then 1 else 0) ∧ τ = σ) := by
        refine lpx (fun k => (rc 0 t).length - k) _ _ (fun k hI ih => ?_)
        obtain ⟨i1, i2⟩ := hI
        refine b_M_same_58 _ _ _ hF ⟨by omega, by omega, by omega, fun c4 => ri_p ?_, fun c4 => ⟨by omega, by omega, ?_⟩⟩
        · have hkl : k = (rc 0 t).length := by omega
          have h9 := i2
          rw [hkl, List.take_length, hle, List.take_length] at h9
          rw [if_pos h9]
        · have hkl : k < (rc 0 t).length := by omega
          have e1 := a4.get (k := 5 + 170 * l + 21 * s + 1 + k) (by omega) (by omega)
          have e2 := b4.get (k := 5 + 170 * l2 + 21 * s2 + 1 + k) (by omega) (by omega)
          rw [show (5 + 170 * l + 21 * s + 1 + (k : Int) - (5 + 170 * l + 21 * s + 1)).toNat = k by omega] at e1
          rw [show (5 + 170 * l2 + 21 * s2 + 1 + (k : Int) - (5 + 170 * l2 + 21 * s2 + 1)).toNat = k by omega] at e2
          have n1 := a7.at a4 (i := 5 + 170 * l + 21 * s + 1 + k) (by omega) (by omega)
          have n2 := b7.at b4 (i := 5 + 170 * l2 + 21 * s2 + 1 + k) (by omega) (by omega)
          rw [show 5 + 170 * l + 21 * s + ((k : Int) + 1) = 5 + 170 * l + 21 * s + 1 + k by omega, show 5 + 170 * l2 + 21 * s2 + ((k : Int) + 1) = 5 + 170 * l2 + 21 * s2 + 1 + k by omega]
          refine ⟨by omega, by omega, fun c5 => ?_, fun c5 => ri_p ?_⟩
          · have h9 := ih (k + 1) (by omega) ⟨by omega, by rw [take_succ_getD hkl, take_succ_getD (by omega), i2, ← e1, ← e2, c5]⟩
            rw [show ((k + 1 : Nat) : Int) = (k : Int) + 1 by omega] at h9
            exact h9
          · rw [if_neg]
            intro q
            rw [q] at e1
            omega
      exact key 0 ⟨Nat.zero_le _, by simp⟩
    · rw [if_neg]
      intro q
      rw [q] at a3
      omega
  · rw [b2i_0] at c2
    refine ri_p ?_
    cases hs : sqAt M l2 s2 with
    | none => cases sqAt M l s <;> rfl
    | some t => exact absurd (by simp [hs]) c2
theorem c_M_inside {l s i : Int} (h : RS σ T M P tp) (hk : okMo T M) (h1 : rI l) (h2 : rI s) (h3 : rI i) : WMi E m_M_inside (d + 4) [aP 42, aI l, aI s, aI i] σ (fun r τ => r = sp_inside M l s i ∧ Fr [(50, -1), (42, 10)] σ τ) := by
  have hF := h.1.1
  refine e_M_inside _ _ _ hF (WMi.mono (c_M_takesSign h hk h1 h2 h3) (fun r τ hp hq => ?_))
  obtain ⟨hf, hq⟩ := hq
  have hT := hf.fix hF (by decide)
  unfold sp_inside
  cases hsq : sqAt M l s with
  | none =>
    rw [hsq] at hq
    dsimp only at hq ⊢
    subst hq
    exact ⟨by decide, fun c => absurd rfl c, fun _ => ⟨_, rfl, hp, rfl, hf⟩⟩
  | some t =>
    rw [hsq] at hq
    dsimp only at hq ⊢
    obtain ⟨a1, a2, a3, a4, a5, a6, a7⟩ := h.1.2.2.sq hk hsq
    have h10 := a5.2.1
    by_cases hi : 0 ≤ i ∧ i < sg t
    · rw [if_pos hi] at hq ⊢
      obtain ⟨hR, A, B, hr, hA, hu⟩ := hq
      subst hr
      have hsg := sgi_isS a5.1 i.toNat (by omega)
      have hself0 := hu _ hsg.1
      rw [rep_self a5.1 _ (by omega)] at hself0
      obtain ⟨A', B', g1, g2, g3⟩ := pq_sign a5.1 i.toNat (by omega) 0 0 (-2)
      obtain ⟨x, C, x1, x2⟩ := rc_first hsg.2.1 hsg.1
      have hAA : A.length = A'.length := cnt_uniq A A' (C ++ B) (C ++ B') x x (by rw [← List.cons_append, ← List.cons_append, ← x1, ← hself0, ← g2]) x2 x2 (by omega)
      rw [← hAA] at g3
      generalize hpA : A.length = p at *
      have hpl : p < (rc 0 t).length := by have := (List.getElem?_eq_some_iff.mp g3).1; rw [pq_len] at this; exact this
      have hpq := (iH_pq a5.1 p 0 0 (-2) 0).2 (by omega) (by omega)
      rw [show p - 0 = p by omega, g3] at hpq
      have hin : inI t i.toNat 0 (-2) = iH p (sb 0 t) 0 0 (-2) := Option.some.inj hpq
      rw [hin]
      have key : ∀ j : Nat, j ≤ p → WP E m_M_inside (d + 4) 27 [(0, aP 42), (4, aI p), (5, aI (iH p ((sb 0 t).take j) 0 0 (-2))), (6, aI (cS ((sb 0 t).take j) : Nat)), (7, aI j)] [] τ (fun r τ => ∃ v, r = some (aI v) ∧ σ.2 <+: τ.2 ∧ v = iH p (sb 0 t) 0 0 (-2) ∧ Fr [(50, -1), (42, 10)] σ τ) := by
        refine lpx (fun j => p - j) _ _ (fun j hj ih => ?_)
        refine b_M_inside_27 _ _ _ _ hT ⟨by omega, by omega, fun c => ?_, fun c => ⟨by omega, ?_⟩⟩
        · have : j = p := by omega
          subst this
          refine ⟨_, rfl, hp, ?_, hf⟩
          conv => rhs; rw [← List.take_append_drop j (sb 0 t), iH_app, iH_late _ _ _ _ _ (by rw [List.length_take, sb_len]; omega)]
        · have hjl : j < (sb 0 t).length := by rw [sb_len]; omega
          obtain ⟨u1, u2, u3, u4⟩ := sbT_at a5.1 0 (τ.1 50) 0 hR.2 j _ (List.getElem?_eq_getElem hjl)
          have htk : (sb 0 t).take (j + 1) = (sb 0 t).take j ++ [(sb 0 t)[j]] := by rw [List.take_add_one, List.getElem?_eq_getElem hjl]; rfl
          have hlen : ((sb 0 t).take j).length = j := by rw [List.length_take]; omega
          generalize (sb 0 t)[j] = u at *
          rw [show (0 : Int) + (j : Int) = j by omega] at u1
          have hx : τ.1 50 j = nd u := by have h9 := u1; rw [rc0_nd u2] at h9; exact h9.hd
          have hnd := nd_pts u2 (by omega)
          have hh := nd_hold u2 (by omega)
          have hnj := nd_j u2 (by omega)
          have h9 := ih (j + 1) (by omega) (by omega)
          rw [htk, iH_app, cS_app, hlen, show 0 + j = j by omega, show 0 + cS ((sb 0 t).take j) = cS ((sb 0 t).take j) by omega] at h9
          have hSJ : isS u = true ↔ nd u < 200 := by
            constructor
            · intro q
              have : ¬ isJ u = true := by cases u <;> simp_all [isS, isJ, isM, isA]
              exact Int.not_le.mp (fun z => this (hnj.1.mp z))
            · intro q
              cases hh : isJ u with
              | false => exact (isS_tn u2 hh).1
              | true => exact absurd (hnj.1.mpr hh) (by omega)
          refine wmi_p (c_M_isSign (by omega)) ⟨hT, b2i_r _, fun c2 => ⟨by omega, by omega, fun c3 => ?_, fun c3 => ?_⟩, fun c2 => ?_⟩
          · rw [b2i_n0, hx] at c2
            have hS := hSJ.mpr c2
            rw [iH_c0 (fun q => by have := hh.mpr q.2.1; omega)] at h9
            simp only [iH, cS, hS, if_true] at h9
            exact b_M_inside_80 _ _ _ _ (b_M_inside_83 _ _ _ _ h9)
          · rw [b2i_n0, hx] at c2
            have hS := hSJ.mpr c2
            have hho := hh.mp (by omega)
            refine wmi_p (c_M_endOf u2 (by omega) u1 (by omega) ⟨24, sf_50 hT, by omega⟩) ⟨by omega, by omega, fun c4 => ?_, fun c4 => ?_⟩
            · rw [iH_c0 (fun q => by omega)] at h9
              simp only [iH, cS, hS, if_true] at h9
              exact b_M_inside_80 _ _ _ _ (b_M_inside_83 _ _ _ _ h9)
            · rw [iH_c1 ⟨by omega, hho, by omega⟩] at h9
              simp only [iH, cS, hS, if_true] at h9
              exact b_M_inside_80 _ _ _ _ (b_M_inside_83 _ _ _ _ h9)
          · rw [b2i_0, hx] at c2
            have hS : isS u = false := by cases hq : isS u with | false => rfl | true => exact absurd (hSJ.mp hq) c2
            rw [iH_c0 (fun q => by have := hh.mpr q.2.1; omega)] at h9
            simp only [iH, cS, hS, Bool.false_eq_true, if_false] at h9
            exact b_M_inside_83 _ _ _ _ h9
      exact ⟨by omega, fun _ => key 0 (Nat.zero_le _), fun c => by omega⟩
    · rw [if_neg hi] at hq ⊢
      subst hq
      exact ⟨by decide, fun c => absurd rfl c, fun _ => ⟨_, rfl, hp, rfl, hf⟩⟩
end MInside
