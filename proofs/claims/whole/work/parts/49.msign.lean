/-- a sign, perhaps with something inside -/
def isS : Tr → Bool
  | .var _ => true
  | .pow _ _ => true
  | _ => false
/-- the i-th sign with what is inside it; another one in its place -/
def sgi : Tr → Nat → Tr
  | .var l, _ => .var l
  | .pow t l, i => if i = 0 then .pow t l else sgi t (i - 1)
  | .mul a b, i => if i < sg a then sgi a i else sgi b (i - sg a)
  | .add a b, i => if i < sg a then sgi a i else sgi b (i - sg a)
  | t, _ => t
def rep : Tr → Nat → Tr → Tr
  | .var _, _, u => u
  | .pow t l, i, u => if i = 0 then u else .pow (rep t (i - 1) u) l
  | .mul a b, i, u => if i < sg a then .mul (rep a i u) b else .mul a (rep b (i - sg a) u)
  | .add a b, i, u => if i < sg a then .add (rep a i u) b else .add a (rep b (i - sg a) u)
  | t, _, _ => t
theorem sgi_isS {t : Tr} (h : ok t) : ∀ i, i < sg t → isS (sgi t i) = true ∧ ok (sgi t i) ∧ sg (sgi t i) ≤ sg t := by
  induction t with
  | var l => intro i hi; exact ⟨rfl, h, Nat.le_refl _⟩
  | pow t l ih =>
    intro i hi
    simp only [sgi, sg] at hi ⊢
    split
    · exact ⟨rfl, h, Nat.le_refl _⟩
    · have := ih h.1 (i - 1) (by omega)
      exact ⟨this.1, this.2.1, by omega⟩
  | mul a b iha ihb =>
    intro i hi
    simp only [sgi, sg] at hi ⊢
    split
    · have := iha h.1 i (by omega)
      exact ⟨this.1, this.2.1, by omega⟩
    · have := ihb h.2.1 (i - sg a) (by omega)
      exact ⟨this.1, this.2.1, by omega⟩
  | add a b iha ihb =>
    intro i hi
    simp only [sgi, sg] at hi ⊢
    split
    · have := iha h.1 i (by omega)
      exact ⟨this.1, this.2.1, by omega⟩
    · have := ihb h.2.1 (i - sg a) (by omega)
      exact ⟨this.1, this.2.1, by omega⟩
  | _ => exact absurd h (by simp [ok])
theorem rep_self {t : Tr} (h : ok t) : ∀ i, i < sg t → rep t i (sgi t i) = t := by
  induction t with
  | var l => intro i hi; rfl
  | pow t l ih =>
    intro i hi
    simp only [rep, sgi, sg] at hi ⊢
    split
    · rfl
    · rw [ih h.1 (i - 1) (by omega)]
  | mul a b iha ihb =>
    intro i hi
    simp only [rep, sgi, sg] at hi ⊢
    split
    · rw [iha h.1 i (by omega)]
    · rw [ihb h.2.1 (i - sg a) (by omega)]
  | add a b iha ihb =>
    intro i hi
    simp only [rep, sgi, sg] at hi ⊢
    split
    · rw [iha h.1 i (by omega)]
    · rw [ihb h.2.1 (i - sg a) (by omega)]
  | _ => exact absurd h (by simp [ok])
theorem rep_M {t : Tr} (h : ok t) {u : Tr} (hu : isS u = true) : ∀ i, i < sg t → isM (rep t i u) = isM t ∧ isA (rep t i u) = isA t ∧ nM (rep t i u) = nM t ∧ nA (rep t i u) = nA t := by
  have u1 : isM u = false ∧ isA u = false ∧ nM u = 1 ∧ nA u = 1 := by cases u <;> simp_all [isS, isM, isA, nM, nA]
  induction t with
  | var l => intro i hi; exact ⟨u1.1, u1.2.1, u1.2.2.1, u1.2.2.2⟩
  | pow t l ih =>
    intro i hi
    simp only [rep]
    split
    · exact ⟨u1.1, u1.2.1, u1.2.2.1, u1.2.2.2⟩
    · exact ⟨rfl, rfl, rfl, rfl⟩
  | mul a b iha ihb =>
    intro i hi
    simp only [rep, sg] at hi ⊢
    split
    · exact ⟨rfl, rfl, rfl, rfl⟩
    · have := ihb h.2.1 (i - sg a) (by omega)
      exact ⟨rfl, rfl, by simp only [nM]; rw [this.2.2.1], rfl⟩
  | add a b iha ihb =>
    intro i hi
    simp only [rep, sg] at hi ⊢
    split
    · exact ⟨rfl, rfl, rfl, rfl⟩
    · have := ihb h.2.1 (i - sg a) (by omega)
      exact ⟨rfl, rfl, rfl, by simp only [nA]; rw [this.2.2.2]⟩
  | _ => exact absurd h (by simp [ok])
/-- the i-th sign's place among the reference's nodes -/
theorem rc_split {t : Tr} (h : ok t) : ∀ i, i < sg t → ∀ k, ∃ A B, cnt A = i ∧ ∀ u, isS u = true → rc k (rep t i u) = A ++ (rc 0 u ++ B) := by
  have sr : ∀ (u : Tr) (k : Nat), isS u = true → rc k u = rc 0 u := by
    intro u k hu
    cases u <;> simp_all [isS, rc]
  induction t with
  | var l => intro i hi k; have : i = 0 := by simp [sg] at hi; omega
             subst this; exact ⟨[], [], rfl, fun u hu => by simp [rep, sr u k hu]⟩
  | pow t l ih =>
    intro i hi k
    have hl : l < 26 := h.2
    by_cases h0 : i = 0
    · subst h0
      exact ⟨[], [], rfl, fun u hu => by simp [rep, sr u k hu]⟩
    · obtain ⟨A, B, h1, h2⟩ := ih h.1 (i - 1) (by simp [sg] at hi; omega) 0
      refine ⟨((l : Int) + 101) :: A, B, ?_, fun u hu => ?_⟩
      · have h3 : (l : Int) + 101 < 200 := by omega
        simp [cnt, h1, h3]; omega
      · simp [rep, h0, rc, h2 u hu]
  | mul a b iha ihb =>
    intro i hi k
    simp only [sg] at hi
    by_cases hlt : i < sg a
    · obtain ⟨A, B, h1, h2⟩ := iha h.1 i hlt 0
      refine ⟨(if k = 1 then [] else [(nM b : Int) + 201]) ++ A, B ++ rc 1 b, ?_, fun u hu => ?_⟩
      · rw [cnt_app, h1]
        split <;> simp [cnt]
        omega
      · simp only [rep, if_pos hlt, rc, h2 u hu]
        split <;> simp
    · obtain ⟨A, B, h1, h2⟩ := ihb h.2.1 (i - sg a) (by omega) 1
      refine ⟨(if k = 1 then [] else [(nM b : Int) + 201]) ++ rc 0 a ++ A, B, ?_, fun u hu => ?_⟩
      · have hx : ¬ ((nM b : Int) + 201 < 200) := by omega
        rw [cnt_app, cnt_app, h1, rc_cnt h.1]
        split <;> simp [cnt, hx] <;> omega
      · simp only [rep, if_neg hlt, rc, h2 u hu, (rep_M h.2.1 hu (i - sg a) (by omega)).2.2.1]
        split <;> simp
  | add a b iha ihb =>
    intro i hi k
    simp only [sg] at hi
    by_cases hlt : i < sg a
    · obtain ⟨A, B, h1, h2⟩ := iha h.1 i hlt 0
      refine ⟨(if k = 2 then [] else [(nA b : Int) + 301]) ++ A, B ++ rc 2 b, ?_, fun u hu => ?_⟩
      · rw [cnt_app, h1]
        split <;> simp [cnt]
        omega
      · simp only [rep, if_pos hlt, rc, h2 u hu]
        split <;> simp
    · obtain ⟨A, B, h1, h2⟩ := ihb h.2.1 (i - sg a) (by omega) 2
      refine ⟨(if k = 2 then [] else [(nA b : Int) + 301]) ++ rc 0 a ++ A, B, ?_, fun u hu => ?_⟩
      · have hx : ¬ ((nA b : Int) + 301 < 200) := by omega
        rw [cnt_app, cnt_app, h1, rc_cnt h.1]
        split <;> simp [cnt, hx] <;> omega
      · simp only [rep, if_neg hlt, rc, h2 u hu, (rep_M h.2.1 hu (i - sg a) (by omega)).2.2.2]
        split <;> simp
  | _ => exact absurd h (by simp [ok])
section MSign
variable {E : EV} {d : Nat} {σ : St} {T : Tb} {M : Mo} {P : List Mo} {tp : List Int}
theorem c_M_nodeOf {K : List Int} {i : Int} (hF : Fix σ) (hR : RowIs σ K) (hN : Nod K) (hl : K.length ≤ 20) (hi : 0 ≤ i ∧ i ≤ 2147483647) :
    WMi E m_M_nodeOf (d + 1) [aP 42, aI i] σ (fun r τ => τ = σ ∧ ((∀ A x B, K = A ++ (x :: B) → x < 200 → (cnt A : Int) = i → r = A.length) ∧ ((cnt K : Int) ≤ i → r = -1))) := by
  refine e_M_nodeOf _ ?_
  have key : ∀ s : Int × Int, (0 ≤ s.1 ∧ s.1 ≤ K.length ∧ 0 ≤ s.2 ∧ s.2 = i - cnt (K.take s.1.toNat)) → WP E m_M_nodeOf (d + 1) 4 [(0, aP 42), (2, aI s.2), (3, aI s.1)] [] σ (fun r τ => ∃ v, r = some (aI v) ∧ σ.2 <+: τ.2 ∧ τ = σ ∧ ((∀ A x B, K = A ++ (x :: B) → x < 200 → (cnt A : Int) = i → v = A.length) ∧ ((cnt K : Int) ≤ i → v = -1))) := by
    refine lpx (fun s => ((K.length : Int) - s.1).toNat) _ _ (fun s hI ih => ?_)
    obtain ⟨k, v⟩ := s
    obtain ⟨i1, i2, i3, i4⟩ := hI
    simp only at i1 i2 i3 i4 ih ⊢
    have hsz := hR.1
    refine b_M_nodeOf_4 _ _ hF ⟨by omega, by omega, fun c => ?_, fun c => ?_⟩
    · have e : K.take k.toNat = K := by rw [show k.toNat = K.length by omega, List.take_length]
      rw [e] at i4
      refine ⟨_, rfl, List.prefix_refl _, rfl, fun A x B h1 h2 h3 => ?_, fun _ => rfl⟩
      rw [h1, cnt_app] at i4
      simp [cnt, h2] at i4
      omega
    · have h1 := hN.at hR.2 i1 (by omega)
      have h2 := hR.2.get i1 (by omega)
      rw [show (k - 0).toNat = k.toNat by omega] at h2
      have h3 := take_succ_getD (K := K) (n := k.toNat) (by omega)
      have h4 : cnt (K.take (k + 1).toNat) = cnt (K.take k.toNat) + (if σ.1 50 k < 200 then 1 else 0) := by
        rw [show (k + 1).toNat = k.toNat + 1 by omega, h3, cnt_app, ← h2]
        simp [cnt]
      have hK : K = K.take k.toNat ++ (σ.1 50 k :: K.drop (k.toNat + 1)) := by
        rw [h2, List.getD_eq_getElem?_getD, List.getElem?_eq_getElem (by omega), Option.getD_some, List.getElem_cons_drop, List.take_append_drop]
      refine ⟨by omega, wmi_p (c_M_isSign (by omega)) ⟨b2i_r _, fun c2 => ?_, fun c2 => ?_⟩⟩
      · rw [b2i_n0] at c2
        refine ⟨by omega, fun c3 => ?_, fun c3 => ?_⟩
        · refine b_M_nodeOf_36 _ _ (ih (k + 1, v + -1) (by show ((K.length : Int) - (k + 1)).toNat < ((K.length : Int) - k).toNat; omega) ⟨by show 0 ≤ k + 1; omega, by show k + 1 ≤ (K.length : Int); omega, by show 0 ≤ v + -1; omega, ?_⟩)
          show v + -1 = i - cnt (K.take (k + 1).toNat)
          rw [h4, if_pos c2]; omega
        · refine ⟨_, rfl, List.prefix_refl _, rfl, fun A x B e1 e2 e3 => ?_, fun e1 => ?_⟩
          · -- two places with as many signs ahead
            have hu : ∀ (A1 A2 B1 B2 : List Int) (x1 x2 : Int), A1 ++ (x1 :: B1) = A2 ++ (x2 :: B2) → x1 < 200 → x2 < 200 → cnt A1 = cnt A2 → A1.length = A2.length := by
              intro A1
              induction A1 with
              | nil =>
                intro A2 B1 B2 x1 x2 q1 q2 q3 q4
                cases A2 with
                | nil => rfl
                | cons y A2 =>
                  simp only [List.nil_append, List.cons_append, List.cons.injEq] at q1
                  simp only [cnt] at q4
                  rw [← q1.1, if_pos q2] at q4
                  omega
              | cons z A1 ih =>
                intro A2 B1 B2 x1 x2 q1 q2 q3 q4
                cases A2 with
                | nil =>
                  simp only [List.nil_append, List.cons_append, List.cons.injEq] at q1
                  simp only [cnt] at q4
                  rw [q1.1, if_pos q3] at q4
                  omega
                | cons y A2 =>
                  simp only [List.cons_append, List.cons.injEq] at q1
                  simp only [cnt] at q4
                  rw [q1.1] at q4
                  have := ih A2 B1 B2 x1 x2 q1.2 q2 q3 (by omega)
                  simp [this]
            have := hu A (K.take k.toNat) B (K.drop (k.toNat + 1)) x (σ.1 50 k) (by rw [← e1]; exact hK) e2 c2 (by omega)
            rw [List.length_take] at this
            omega
          · rw [hK, cnt_app] at e1
            simp [cnt, c2] at e1
            omega
      · rw [b2i_0] at c2
        refine b_M_nodeOf_36 _ _ (ih (k + 1, v) (by show ((K.length : Int) - (k + 1)).toNat < ((K.length : Int) - k).toNat; omega) ⟨by show 0 ≤ k + 1; omega, by show k + 1 ≤ (K.length : Int); omega, by show 0 ≤ v; omega, ?_⟩)
        show v = i - cnt (K.take (k + 1).toNat)
        rw [h4, if_neg c2]; simpa using i4
  exact key (0, i) ⟨Int.le_refl _, by show (0 : Int) ≤ K.length; omega, hi.1, by simp [cnt]⟩
theorem rc_first {u : Tr} (h : ok u) (hs : isS u = true) : ∃ x B, rc 0 u = x :: B ∧ x < 200 := by
  cases u with
  | var l => have h2 : vN l < 26 := h
             exact ⟨_, _, rfl, by omega⟩
  | pow t l => have h2 : l < 26 := h.2
               exact ⟨_, _, rfl, by omega⟩
  | _ => simp [isS] at hs
theorem c_M_takesSign {l s i : Int} (h : RS σ T M P tp) (hk : okMo T M) (h1 : rI l) (h2 : rI s) (h3 : rI i) : WMi E m_M_takesSign (d + 3) [aP 42, aI l, aI s, aI i] σ (fun r τ => Fr [(50, -1), (42, 10)] σ τ ∧ match sqAt M l s with
    | none => r = -1
    | some t => if 0 ≤ i ∧ i < sg t then RowIs τ (rc 0 t) ∧ ∃ A B, r = A.length ∧ (cnt A : Int) = i ∧ ∀ u, isS u = true → rc 0 (rep t i.toNat u) = A ++ (rc 0 u ++ B) else r = -1) := by
  have hF := h.1.1
  refine e_M_takesSign _ _ _ hF (wmi_p (c_M_isSquare' h hk h1 h2) ⟨hF, b2i_r _, fun c => ?_, fun c => ?_⟩)
  · rw [b2i_0] at c
    refine ⟨_, rfl, List.prefix_refl _, Fr.refl _ _, ?_⟩
    cases hs : sqAt M l s with
    | none => rfl
    | some t => exact absurd (by simp [hs]) c
  · rw [b2i_n0] at c
    obtain ⟨t, ht⟩ := Option.isSome_iff_exists.mp c
    obtain ⟨a1, a2, a3, a4, a5, a6, a7⟩ := h.1.2.2.sq hk ht
    rw [ht]
    dsimp only
    refine ⟨h3, fun c2 => ?_, fun c2 => ?_⟩
    · refine WMv.mono (c_M_takes' h hk ht) (fun τ hp hq => ⟨hq.1.fix hF (by decide), WMi.mono (c_M_nodeOf (hq.1.fix hF (by decide)) hq.2 a7 (by omega) ⟨c2, h3.2⟩) (fun r υ hp2 hr => ?_)⟩)
      obtain ⟨rfl, h5, h6⟩ := hr
      refine ⟨_, rfl, hp, hq.1, ?_⟩
      split
      · rename_i hlt
        obtain ⟨A, B, e1, e2⟩ := rc_split a5.1 i.toNat (by omega) 0
        refine ⟨hq.2, A, B, ?_, by omega, e2⟩
        have hsg := sgi_isS a5.1 i.toNat (by omega)
        obtain ⟨x, B', e3, e4⟩ := rc_first hsg.2.1 hsg.1
        have e5 := e2 _ hsg.1
        rw [rep_self a5.1 _ (by omega), e3] at e5
        exact h5 A x (B' ++ B) (by rw [e5]; simp) e4 (by omega)
      · refine h6 ?_
        rw [rc_cnt a5.1]; omega
    · refine ⟨_, rfl, List.prefix_refl _, Fr.refl _ _, ?_⟩
      rw [if_neg (by omega)]
end MSign
