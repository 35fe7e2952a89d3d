/-- two places with as many signs ahead are one -/
theorem cnt_uniq : ∀ (A1 A2 B1 B2 : List Int) (x1 x2 : Int), A1 ++ (x1 :: B1) = A2 ++ (x2 :: B2) → x1 < 200 → x2 < 200 → cnt A1 = cnt A2 → A1.length = A2.length := by
  intro A1
  induction A1 with
  | nil =>
    intro A2 B1 B2 x1 x2 q1 q2 q3 q4
    cases A2 with
    | nil => rfl
    | cons y A2 =>
      simp only [List.nil_append, List.cons_append, List.cons.injEq] at q1
      simp only [cnt] at q4
      rw [← q1.1, if_pos q2] at q4
      omega
  | cons z A1 ih =>
    intro A2 B1 B2 x1 x2 q1 q2 q3 q4
    cases A2 with
    | nil =>
      simp only [List.nil_append, List.cons_append, List.cons.injEq] at q1
      simp only [cnt] at q4
      rw [q1.1, if_pos q3] at q4
      omega
    | cons y A2 =>
      simp only [List.cons_append, List.cons.injEq] at q1
      simp only [cnt] at q4
      rw [q1.1] at q4
      have := ih A2 B1 B2 x1 x2 q1.2 q2 q3 (by omega)
      simp [this]
/-- the trees that begin at each place of the reference's row -/
def sb : Nat → Tr → List Tr
  | _, .var l => [.var l]
  | _, .pow t l => .pow t l :: sb 0 t
  | k, .mul a b => (if k = 1 then [] else [.mul a b]) ++ (sb 0 a ++ sb 1 b)
  | k, .add a b => (if k = 2 then [] else [.add a b]) ++ (sb 0 a ++ sb 2 b)
  | _, _ => []
theorem sb_len (t : Tr) : ∀ k, (sb k t).length = (rc k t).length := by
  induction t with
  | mul a b iha ihb => intro k; simp only [sb, rc]; split <;> simp [iha, ihb] <;> omega
  | add a b iha ihb => intro k; simp only [sb, rc]; split <;> simp [iha, ihb] <;> omega
  | pow t l ih => intro k; simp [sb, rc, ih]
  | _ => intro k; simp [sb, rc]
theorem sbT_at {t : Tr} (h : ok t) : ∀ (k : Nat) (f : Int → Int) (o : Int), At f o (rc k t) → ∀ (j : Nat) (u : Tr), (sb k t)[j]? = some u → At f (o + j) (rc 0 u) ∧ ok u ∧ sg u ≤ sg t ∧ j + (rc 0 u).length ≤ (rc k t).length := by
  induction t with
  | var l =>
    intro k f o hA j u hu
    simp only [sb] at hu
    have hj := (List.getElem?_eq_some_iff.mp hu).1
    simp at hj
    subst hj
    simp at hu
    subst hu
    refine ⟨by simpa [rc] using hA, h, Nat.le_refl _, by simp [rc]⟩
  | pow t l ih =>
    intro k f o hA j u hu
    simp only [sb] at hu
    cases j with
    | zero =>
      simp at hu
      subst hu
      refine ⟨by simpa [rc] using hA, h, Nat.le_refl _, by simp [rc]⟩
    | succ j =>
      simp only [List.getElem?_cons_succ] at hu
      simp only [rc] at hA
      have := ih h.1 0 f (o + 1) (At.cons.mp hA).2 j u hu
      refine ⟨?_, this.2.1, by simp only [sg]; omega, by simp only [rc, List.length_cons]; omega⟩
      rw [show o + ((j + 1 : Nat) : Int) = o + 1 + j by omega]
      exact this.1
  | mul a b iha ihb =>
    intro k f o hA j u hu
    have hin : ∀ (o2 : Int) (j2 : Nat), At f o2 (rc 0 a ++ rc 1 b) → (sb 0 a ++ sb 1 b)[j2]? = some u → At f (o2 + j2) (rc 0 u) ∧ ok u ∧ sg u ≤ sg a + sg b ∧ j2 + (rc 0 u).length ≤ (rc 0 a).length + (rc 1 b).length := by
      intro o2 j2 hA2 hu2
      obtain ⟨hA3, hA4⟩ := At.app.mp hA2
      by_cases hj : j2 < (sb 0 a).length
      · rw [List.getElem?_append_left hj] at hu2
        have := iha h.1 0 f o2 hA3 j2 u hu2
        exact ⟨this.1, this.2.1, by omega, by omega⟩
      · rw [List.getElem?_append_right (by omega)] at hu2
        have := ihb h.2.1 1 f _ hA4 _ u hu2
        rw [sb_len] at this hj
        refine ⟨?_, this.2.1, by omega, by omega⟩
        rw [show o2 + (j2 : Int) = o2 + (rc 0 a).length + ((j2 - (rc 0 a).length : Nat) : Int) by omega]
        exact this.1
    simp only [sb, rc, sg] at hu hA ⊢
    by_cases hk : k = 1
    · rw [if_pos hk] at hu hA
      simp only [List.nil_append] at hu
      have := hin o j hA hu
      refine ⟨this.1, this.2.1, this.2.2.1, ?_⟩
      rw [if_pos hk, List.length_append]; exact this.2.2.2
    · rw [if_neg hk] at hu hA
      rw [if_neg hk]
      cases j with
      | zero =>
        simp at hu
        subst hu
        refine ⟨?_, h, by simp [sg], by simp [rc]⟩
        simp only [rc]
        simpa using hA
      | succ j =>
        simp only [List.cons_append, List.nil_append, List.getElem?_cons_succ] at hu
        have := hin (o + 1) j (At.cons.mp hA).2 hu
        refine ⟨?_, this.2.1, this.2.2.1, by simp only [List.length_cons, List.length_append]; omega⟩
        rw [show o + ((j + 1 : Nat) : Int) = o + 1 + j by omega]
        exact this.1
  | add a b iha ihb =>
    intro k f o hA j u hu
    have hin : ∀ (o2 : Int) (j2 : Nat), At f o2 (rc 0 a ++ rc 2 b) → (sb 0 a ++ sb 2 b)[j2]? = some u → At f (o2 + j2) (rc 0 u) ∧ ok u ∧ sg u ≤ sg a + sg b ∧ j2 + (rc 0 u).length ≤ (rc 0 a).length + (rc 2 b).length := by
      intro o2 j2 hA2 hu2
      obtain ⟨hA3, hA4⟩ := At.app.mp hA2
      by_cases hj : j2 < (sb 0 a).length
      · rw [List.getElem?_append_left hj] at hu2
        have := iha h.1 0 f o2 hA3 j2 u hu2
        exact ⟨this.1, this.2.1, by omega, by omega⟩
      · rw [List.getElem?_append_right (by omega)] at hu2
        have := ihb h.2.1 2 f _ hA4 _ u hu2
        rw [sb_len] at this hj
        refine ⟨?_, this.2.1, by omega, by omega⟩
        rw [show o2 + (j2 : Int) = o2 + (rc 0 a).length + ((j2 - (rc 0 a).length : Nat) : Int) by omega]
        exact this.1
    simp only [sb, rc, sg] at hu hA ⊢
    by_cases hk : k = 2
    · rw [if_pos hk] at hu hA
      simp only [List.nil_append] at hu
      have := hin o j hA hu
      refine ⟨this.1, this.2.1, this.2.2.1, ?_⟩
      rw [if_pos hk, List.length_append]; exact this.2.2.2
    · rw [if_neg hk] at hu hA
      rw [if_neg hk]
      cases j with
      | zero =>
        simp at hu
        subst hu
        refine ⟨?_, h, by simp [sg], by simp [rc]⟩
        simp only [rc]
        simpa using hA
      | succ j =>
        simp only [List.cons_append, List.nil_append, List.getElem?_cons_succ] at hu
        have := hin (o + 1) j (At.cons.mp hA).2 hu
        refine ⟨?_, this.2.1, this.2.2.1, by simp only [List.length_cons, List.length_append]; omega⟩
        rw [show o + ((j + 1 : Nat) : Int) = o + 1 + j by omega]
        exact this.1
  | _ => exact absurd h (by simp [ok])
/-- how many of the trees from place j on hold the place p, those ahead of it -/
def cH (p : Nat) : List Tr → Nat → Nat
  | [], _ => 0
  | u :: L, j => (if j < p ∧ holdsT u = true ∧ p < j + (rc 0 u).length then 1 else 0) + cH p L (j + 1)
theorem cH_c0 {p j : Nat} {u : Tr} {L : List Tr} (h : ¬ (j < p ∧ holdsT u = true ∧ p < j + (rc 0 u).length)) : cH p (u :: L) j = cH p L (j + 1) := by
  show (if _ then 1 else 0) + _ = _
  rw [if_neg h]; omega
theorem cH_c1 {p j : Nat} {u : Tr} {L : List Tr} (h : j < p ∧ holdsT u = true ∧ p < j + (rc 0 u).length) : cH p (u :: L) j = 1 + cH p L (j + 1) := by
  show (if _ then 1 else 0) + _ = _
  rw [if_pos h]
theorem cH_app (p : Nat) (A B : List Tr) (j : Nat) : cH p (A ++ B) j = cH p A j + cH p B (j + A.length) := by
  induction A generalizing j with
  | nil => simp [cH]
  | cons u A ih => simp only [List.cons_append, cH, ih, List.length_cons]; rw [show j + 1 + A.length = j + (A.length + 1) by omega]; omega
/-- how deep each place is -/
def dq : Nat → Nat → Tr → List Nat
  | _, e, .var _ => [e]
  | _, e, .pow t _ => e :: dq 0 (e + 1) t
  | k, e, .mul a b => (if k = 1 then [] else [e]) ++ (dq 0 e a ++ dq 1 e b)
  | k, e, .add a b => (if k = 2 then [] else [e]) ++ (dq 0 e a ++ dq 2 e b)
  | _, _, _ => []
theorem dq_len (t : Tr) : ∀ k e, (dq k e t).length = (rc k t).length := by
  induction t with
  | mul a b iha ihb => intro k e; simp only [dq, rc]; split <;> simp [iha, ihb] <;> omega
  | add a b iha ihb => intro k e; simp only [dq, rc]; split <;> simp [iha, ihb] <;> omega
  | pow t l ih => intro k e; simp [dq, rc, ih]
  | _ => intro k e; simp [dq, rc]
theorem cH_dq {t : Tr} (h : ok t) (p : Nat) : ∀ k e j, ((p < j ∨ j + (rc k t).length ≤ p) → cH p (sb k t) j = 0) ∧ (j ≤ p → p < j + (rc k t).length → (dq k e t)[p - j]? = some (cH p (sb k t) j + e)) := by
  induction t with
  | var l =>
    intro k e j
    simp only [sb, cH, rc, dq, holdsT, List.length_cons, List.length_nil]
    refine ⟨fun _ => by simp, fun h1 h2 => ?_⟩
    rw [show p - j = 0 by omega]; simp
  | pow t l ih =>
    intro k e j
    have hi := ih h.1 0 (e + 1) (j + 1)
    have hl : (rc k (.pow t l)).length = (rc 0 t).length + 1 := rfl
    have hl0 : (rc 0 (.pow t l)).length = (rc 0 t).length + 1 := rfl
    have es : sb k (.pow t l) = .pow t l :: sb 0 t := rfl
    have ed : dq k e (.pow t l) = e :: dq 0 (e + 1) t := rfl
    rw [hl, es, ed]
    refine ⟨fun h1 => ?_, fun h1 h2 => ?_⟩
    · rw [cH_c0 (by rw [hl0]; omega), hi.1 (by omega)]
    · by_cases hp : p = j
      · subst hp
        rw [cH_c0 (by omega), hi.1 (by omega), show p - p = 0 by omega]; simp
      · have := hi.2 (by omega) (by omega)
        rw [cH_c1 ⟨by omega, rfl, by rw [hl0]; omega⟩, show p - j = (p - (j + 1)) + 1 by omega, List.getElem?_cons_succ, this]
        congr 1; omega
  | mul a b iha ihb =>
    intro k e j
    have core : ∀ j, ((p < j ∨ j + ((rc 0 a).length + (rc 1 b).length) ≤ p) → cH p (sb 0 a ++ sb 1 b) j = 0) ∧ (j ≤ p → p < j + ((rc 0 a).length + (rc 1 b).length) → (dq 0 e a ++ dq 1 e b)[p - j]? = some (cH p (sb 0 a ++ sb 1 b) j + e)) := by
      intro j
      have ha := iha h.1 0 e j
      have hb := ihb h.2.1 1 e (j + (rc 0 a).length)
      rw [cH_app, sb_len]
      refine ⟨fun h1 => by rw [ha.1 (by omega), hb.1 (by omega)], fun h1 h2 => ?_⟩
      by_cases hp : p < j + (rc 0 a).length
      · rw [hb.1 (by omega), List.getElem?_append_left (by rw [dq_len]; omega), ha.2 h1 hp]; rfl
      · rw [ha.1 (by omega), List.getElem?_append_right (by rw [dq_len]; omega), dq_len, show p - j - (rc 0 a).length = p - (j + (rc 0 a).length) by omega, hb.2 (by omega) (by omega)]
        congr 1; omega
    simp only [sb, rc, dq]
    by_cases hk : k = 1
    · rw [if_pos hk, if_pos hk, if_pos hk]
      simpa using core j
    · rw [if_neg hk, if_neg hk, if_neg hk]
      have hc := core (j + 1)
      simp only [List.cons_append, List.nil_append, List.length_cons, List.length_append]
      rw [cH_c0 (by simp [holdsT])]
      refine ⟨fun h1 => hc.1 (by omega), fun h1 h2 => ?_⟩
      by_cases hp : p = j
      · subst hp
        rw [hc.1 (by omega), show p - p = 0 by omega]; simp
      · rw [show p - j = (p - (j + 1)) + 1 by omega, List.getElem?_cons_succ, hc.2 (by omega) (by omega)]
  | add a b iha ihb =>
    intro k e j
    have core : ∀ j, ((p < j ∨ j + ((rc 0 a).length + (rc 2 b).length) ≤ p) → cH p (sb 0 a ++ sb 2 b) j = 0) ∧ (j ≤ p → p < j + ((rc 0 a).length + (rc 2 b).length) → (dq 0 e a ++ dq 2 e b)[p - j]? = some (cH p (sb 0 a ++ sb 2 b) j + e)) := by
      intro j
      have ha := iha h.1 0 e j
      have hb := ihb h.2.1 2 e (j + (rc 0 a).length)
      rw [cH_app, sb_len]
      refine ⟨fun h1 => by rw [ha.1 (by omega), hb.1 (by omega)], fun h1 h2 => ?_⟩
      by_cases hp : p < j + (rc 0 a).length
      · rw [hb.1 (by omega), List.getElem?_append_left (by rw [dq_len]; omega), ha.2 h1 hp]; rfl
      · rw [ha.1 (by omega), List.getElem?_append_right (by rw [dq_len]; omega), dq_len, show p - j - (rc 0 a).length = p - (j + (rc 0 a).length) by omega, hb.2 (by omega) (by omega)]
        congr 1; omega
    simp only [sb, rc, dq]
    by_cases hk : k = 2
    · rw [if_pos hk, if_pos hk, if_pos hk]
      simpa using core j
    · rw [if_neg hk, if_neg hk, if_neg hk]
      have hc := core (j + 1)
      simp only [List.cons_append, List.nil_append, List.length_cons, List.length_append]
      rw [cH_c0 (by simp [holdsT])]
      refine ⟨fun h1 => hc.1 (by omega), fun h1 h2 => ?_⟩
      by_cases hp : p = j
      · subst hp
        rw [hc.1 (by omega), show p - p = 0 by omega]; simp
      · rw [show p - j = (p - (j + 1)) + 1 by omega, List.getElem?_cons_succ, hc.2 (by omega) (by omega)]
  | _ => exact absurd h (by simp [ok])
