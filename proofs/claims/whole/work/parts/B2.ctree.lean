/-! THE CLASS'S CODE AS A TREE: what begins at each place, what is around it -/
def sbC : Tr → List Tr
  | .pow t l => .pow t l :: sbC t
  | .mul a b => .mul a b :: (sbC a ++ sbC b)
  | .add a b => .add a b :: (sbC a ++ sbC b)
  | t => [t]
theorem sbC_len {t : Tr} (h : okw t) : (sbC t).length = (cC t).length := by
  induction t with
  | var l => rfl
  | pow t l ih => simp [sbC, cC, ih h.1]
  | mul a b iha ihb => simp [sbC, cC, iha h.1, ihb h.2]
  | add a b iha ihb => simp [sbC, cC, iha h.1, ihb h.2]
  | _ => exact absurd h (by simp [okw])
theorem sbC_at {t : Tr} (h : okw t) : ∀ {i : Nat} {u : Tr}, (sbC t)[i]? = some u → okw u ∧ ∃ A B, cC t = A ++ (cC u ++ B) ∧ A.length = i := by
  have self : ∀ {t : Tr} {i : Nat} {u : Tr}, okw t → [t][i]? = some u → okw u ∧ ∃ A B, cC t = A ++ (cC u ++ B) ∧ A.length = i := by
    intro t i u h hi
    cases i with
    | zero => simp at hi; subst hi; exact ⟨h, [], [], by simp, rfl⟩
    | succ i => simp at hi
  have two : ∀ {x : Int} {t a b : Tr} {i : Nat} {u : Tr}, okw t → okw a → okw b → cC t = x :: (cC a ++ cC b) → (∀ {i : Nat} {u : Tr}, (sbC a)[i]? = some u → okw u ∧ ∃ A B, cC a = A ++ (cC u ++ B) ∧ A.length = i) → (∀ {i : Nat} {u : Tr}, (sbC b)[i]? = some u → okw u ∧ ∃ A B, cC b = A ++ (cC u ++ B) ∧ A.length = i) → (t :: (sbC a ++ sbC b))[i]? = some u → okw u ∧ ∃ A B, cC t = A ++ (cC u ++ B) ∧ A.length = i := by
    intro x t a b i u h ha hb hc iha ihb hi
    cases i with
    | zero => simp at hi; subst hi; exact ⟨h, [], [], by simp, rfl⟩
    | succ i =>
      simp only [List.getElem?_cons_succ] at hi
      by_cases c : i < (sbC a).length
      · rw [List.getElem?_append_left c] at hi
        obtain ⟨q, A, B, e1, e2⟩ := iha hi
        exact ⟨q, x :: A, B ++ cC b, by rw [hc, e1]; simp, by simp [e2]⟩
      · rw [List.getElem?_append_right (by omega)] at hi
        obtain ⟨q, A, B, e1, e2⟩ := ihb hi
        rw [sbC_len ha] at c e2
        exact ⟨q, x :: (cC a ++ A), B, by rw [hc, e1]; simp, by simp [e2]; omega⟩
  induction t with
  | var l => intro i u hi; exact self h hi
  | pow t l ih =>
    intro i u hi
    cases i with
    | zero => simp [sbC] at hi; subst hi; exact ⟨h, [], [], by simp, rfl⟩
    | succ i =>
      simp only [sbC, List.getElem?_cons_succ] at hi
      obtain ⟨q, A, B, e1, e2⟩ := ih h.1 hi
      exact ⟨q, ((l : Int) + 32) :: A, B, by simp [cC, e1], by simp [e2]⟩
  | mul a b iha ihb => intro i u hi; exact two h h.1 h.2 rfl (iha h.1) (ihb h.2) hi
  | add a b iha ihb => intro i u hi; exact two h h.1 h.2 rfl (iha h.1) (ihb h.2) hi
  | _ => intro i u hi; exact absurd h (by simp [okw])
theorem sbC_sy {t : Tr} (h : okw t) {i : Nat} {u : Tr} (hi : (sbC t)[i]? = some u) : (cC t)[i]? = some (sy u) := by
  obtain ⟨q, A, B, e1, e2⟩ := sbC_at h hi
  rw [e1, cC_sy q, List.getElem?_append_right (by omega), e2]
  simp
/-- the place of the sign around each place; o places are ahead, c is around all -/
def hq : Int → Int → Tr → List Int
  | c, o, .pow t _ => c :: hq o (o + 1) t
  | c, o, .mul a b => c :: (hq c (o + 1) a ++ hq c (o + 1 + (cC a).length) b)
  | c, o, .add a b => c :: (hq c (o + 1) a ++ hq c (o + 1 + (cC a).length) b)
  | c, _, _ => [c]
theorem hq_len {t : Tr} (h : okw t) : ∀ c o, (hq c o t).length = (cC t).length := by
  induction t with
  | var l => intro c o; rfl
  | pow t l ih => intro c o; simp [hq, cC, ih h.1]
  | mul a b iha ihb => intro c o; simp [hq, cC, iha h.1, ihb h.2]
  | add a b iha ihb => intro c o; simp [hq, cC, iha h.1, ihb h.2]
  | _ => exact absurd h (by simp [okw])
/-- no sign between lo and p that holds something reaches over p -/
def clr (t : Tr) (lo : Int) (p : Nat) : Prop := ∀ (i : Nat) (u : Tr), lo < i → i < p → (sbC t)[i]? = some u → hl (sy u) = true → i + (cC u).length ≤ p
def HqS (t : Tr) (c o : Int) (p : Nat) (x : Int) : Prop := (x = c ∧ clr t (-1) p) ∨ ∃ (j : Nat) (u : Tr), x = o + j ∧ j < p ∧ (sbC t)[j]? = some u ∧ hl (sy u) = true ∧ p < j + (cC u).length ∧ clr t j p
theorem hq_spec {t : Tr} (h : okw t) : ∀ (c o : Int) (p : Nat) (x : Int), (hq c o t)[p]? = some x → HqS t c o p x := by
  have zero : ∀ (t : Tr) (c o x : Int), some c = some x → HqS t c o 0 x := by
    intro t c o x e
    exact Or.inl ⟨(Option.some.inj e).symm, fun i u h1 h2 => by omega⟩
  have two : ∀ (y : Int) (t a b : Tr), okw t → okw a → okw b → jt y = true → sy t = y → cC t = y :: (cC a ++ cC b) → sbC t = t :: (sbC a ++ sbC b) → (∀ c o, hq c o t = c :: (hq c (o + 1) a ++ hq c (o + 1 + (cC a).length) b)) → (∀ (c o : Int) (p : Nat) (x : Int), (hq c o a)[p]? = some x → HqS a c o p x) → (∀ (c o : Int) (p : Nat) (x : Int), (hq c o b)[p]? = some x → HqS b c o p x) → ∀ (c o : Int) (p : Nat) (x : Int), (hq c o t)[p]? = some x → HqS t c o p x := by
    intro y t a b ht ha hb hy hsy hc hs hh iha ihb c o p x hp
    rw [hh] at hp
    have hnj : hl (sy t) = false := by
      rw [hsy]; simp only [jt, decide_eq_true_eq] at hy; exact decide_eq_false (by omega)
    have la := hq_len ha c (o + 1)
    have ls := sbC_len ha
    cases p with
    | zero => exact zero t c o x (by simpa using hp)
    | succ p =>
      rw [List.getElem?_cons_succ] at hp
      by_cases hpa : p < (cC a).length
      · rw [List.getElem?_append_left (by omega)] at hp
        have low : ∀ (lo : Int), clr a lo p → clr t (lo + 1) (p + 1) := by
          intro lo hcl i u q1 q2 q3 q4
          cases i with
          | zero => rw [hs] at q3; simp at q3; subst q3; rw [hnj] at q4; cases q4
          | succ i =>
            rw [hs, List.getElem?_cons_succ, List.getElem?_append_left (by omega)] at q3
            have := hcl i u (by omega) (by omega) q3 q4
            omega
        have low0 : clr a (-1) p → clr t (-1) (p + 1) := by
          intro hcl i u q1 q2 q3 q4
          cases i with
          | zero => rw [hs] at q3; simp at q3; subst q3; rw [hnj] at q4; cases q4
          | succ i => exact low (-1) hcl (i + 1) u (by omega) q2 q3 q4
        rcases iha c (o + 1) p x hp with ⟨r1, r2⟩ | ⟨j, u, r1, r2, r3, r4, r5, r6⟩
        · exact Or.inl ⟨r1, low0 r2⟩
        · refine Or.inr ⟨j + 1, u, by omega, by omega, ?_, r4, by omega, ?_⟩
          · rw [hs, List.getElem?_cons_succ, List.getElem?_append_left (by omega)]; exact r3
          · have := low j r6
            rw [show ((j + 1 : Nat) : Int) = (j : Int) + 1 by omega]; exact this
      · rw [List.getElem?_append_right (by omega), la] at hp
        have low : ∀ (lo : Int), -1 ≤ lo → clr b lo (p - (cC a).length) → ∀ (i : Nat) (u : Tr), (cC a).length + 1 + lo < i → i < p + 1 → (sbC t)[i]? = some u → hl (sy u) = true → i + (cC u).length ≤ p + 1 := by
          intro lo hlo hcl i u q1 q2 q3 q4
          obtain ⟨i', rfl⟩ : ∃ i', i = i' + ((cC a).length + 1) := ⟨i - ((cC a).length + 1), by omega⟩
          rw [hs, show i' + ((cC a).length + 1) = (i' + (cC a).length) + 1 by omega, List.getElem?_cons_succ, List.getElem?_append_right (by omega), show i' + (cC a).length - (sbC a).length = i' by omega] at q3
          have := hcl i' u (by omega) (by omega) q3 q4
          omega
        have lowa : ∀ (i : Nat) (u : Tr), i ≤ (cC a).length → (sbC t)[i]? = some u → hl (sy u) = true → i + (cC u).length ≤ p + 1 := by
          intro i u q2 q3 q4
          cases i with
          | zero => rw [hs] at q3; simp at q3; subst q3; rw [hnj] at q4; cases q4
          | succ i =>
            rw [hs, List.getElem?_cons_succ, List.getElem?_append_left (by omega)] at q3
            obtain ⟨-, A, B, e1, e2⟩ := sbC_at ha q3
            have := congrArg List.length e1
            simp at this
            omega
        rcases ihb c (o + 1 + (cC a).length) (p - (cC a).length) x hp with ⟨r1, r2⟩ | ⟨j, u, r1, r2, r3, r4, r5, r6⟩
        · refine Or.inl ⟨r1, fun i u q1 q2 q3 q4 => ?_⟩
          by_cases c2 : i ≤ (cC a).length
          · exact lowa i u c2 q3 q4
          · exact low (-1) (by omega) r2 i u (by omega) q2 q3 q4
        · refine Or.inr ⟨j + (cC a).length + 1, u, by omega, by omega, ?_, r4, by omega, fun i w q1 q2 q3 q4 => low j (by omega) r6 i w (by omega) q2 q3 q4⟩
          rw [hs, List.getElem?_cons_succ, List.getElem?_append_right (by omega), show j + (cC a).length - (sbC a).length = j by omega]
          exact r3
  induction t with
  | var l =>
    intro c o p x hp
    cases p with
    | zero => exact zero _ c o x (by simpa [hq] using hp)
    | succ p => simp [hq] at hp
  | pow t l ih =>
    intro c o p x hp
    cases p with
    | zero => exact zero _ c o x (by simpa [hq] using hp)
    | succ p =>
      simp only [hq, List.getElem?_cons_succ] at hp
      have hpl : p < (cC t).length := by rw [← hq_len h.1 o (o + 1)]; exact (List.getElem?_eq_some_iff.mp hp).1
      have hh : hl (sy (.pow t l)) = true := decide_eq_true (by have := h.2; simp only [sy]; omega)
      have low : ∀ (lo : Int), -1 ≤ lo → clr t lo p → ∀ (i : Nat) (u : Tr), lo + 1 < i → i < p + 1 → (sbC (.pow t l))[i]? = some u → hl (sy u) = true → i + (cC u).length ≤ p + 1 := by
        intro lo hlo hcl i u q1 q2 q3 q4
        cases i with
        | zero => omega
        | succ i =>
          simp only [sbC, List.getElem?_cons_succ] at q3
          have := hcl i u (by omega) (by omega) q3 q4
          omega
      rcases ih h.1 o (o + 1) p x hp with ⟨r1, r2⟩ | ⟨j, u, r1, r2, r3, r4, r5, r6⟩
      · exact Or.inr ⟨0, .pow t l, by omega, by omega, rfl, hh, by simp [cC]; omega, fun i w q1 q2 q3 q4 => low (-1) (by omega) r2 i w (by omega) q2 q3 q4⟩
      · exact Or.inr ⟨j + 1, u, by omega, by omega, r3, r4, by omega, fun i w q1 q2 q3 q4 => low j (by omega) r6 i w (by omega) q2 q3 q4⟩
  | mul a b iha ihb => exact two 64 _ a b h h.1 h.2 rfl rfl rfl rfl (fun _ _ => rfl) (iha h.1) (ihb h.2)
  | add a b iha ihb => exact two 65 _ a b h h.1 h.2 rfl rfl rfl rfl (fun _ _ => rfl) (iha h.1) (ihb h.2)
  | _ => exact absurd h (by simp [okw])
section CTree
variable {E : EV} {d : Nat} {σ : St} {a : Int} {t : Tr}
theorem c_Sq_endAt {i : Nat} {u : Tr} (h : Cd σ a (cC t)) (ht : okw t) (hn : (cC t).length ≤ 1000) (hi : (sbC t)[i]? = some u) : WMi E m_Sq_endOf (d + 2) [aP a, aI i] σ (fun r τ => r = i + (cC u).length ∧ τ = σ) := by
  obtain ⟨q, A, B, e1, e2⟩ := sbC_at ht hi
  rw [e1] at h hn
  exact c_Sq_endOf h q hn (by omega)
theorem c_Sq_holderOf {p : Nat} (h : Cd σ a (cC t)) (ht : okw t) (hn : (cC t).length ≤ 1000) (hp : p < (cC t).length) : WMi E m_Sq_holderOf (d + 3) [aP a, aI p] σ (fun r τ => (hq (-1) 0 t)[p]? = some r ∧ τ = σ) := by
  have hx : ∃ x, (hq (-1) 0 t)[p]? = some x := ⟨_, List.getElem?_eq_getElem (by rw [hq_len ht]; exact hp)⟩
  obtain ⟨x, hx⟩ := hx
  have hsp := hq_spec ht _ _ _ _ hx
  have hc := h
  obtain ⟨q1, q2, q3⟩ := h
  refine e_Sq_holderOf _ _ ⟨q1, ⟨_, q2⟩, by omega, by rw [ln_of q2]; omega, ?_⟩
  rw [ln_of q2, show min (p : Int) ((cC t).length : Int) - 1 = (p : Int) - 1 by omega]
  refine lpd 0 (fun k τ => WP E m_Sq_holderOf (d + 3) 12 [(0, aP a), (1, aI p), (2, aI k)] [] τ _) (fun k τ => ((-1 ≤ k ∧ k < p) ∧ clr t k p) ∧ τ = σ) (fun k τ hI ih => ?_) _ σ ⟨⟨by omega, fun i u q1 q2 => by omega⟩, rfl⟩
  obtain ⟨⟨i1, i2⟩, rfl⟩ := hI
  refine b_Sq_holderOf_12 _ _ _ ⟨by omega, fun c => ⟨_, rfl, List.prefix_refl _, ?_, rfl⟩, fun c => ?_⟩
  · rw [hx]
    rcases hsp with ⟨r1, -⟩ | ⟨j, u, r1, r2, r3, r4, r5, r6⟩
    · rw [r1]
    · have := i2 j u (by omega) r2 r3 r4
      omega
  · have hu : ∃ u, (sbC t)[k.toNat]? = some u := ⟨_, List.getElem?_eq_getElem (by rw [sbC_len ht]; omega)⟩
    obtain ⟨u, hu⟩ := hu
    have e1 := sbC_sy ht hu
    have hok := (sbC_at ht hu).1
    have hr := sy_r hok
    have e2 : τ.1 (τ.1 a 0) k = sy u := by
      rw [q3.r (by omega) (by omega), List.getD_eq_getElem?_getD, e1]; rfl
    have nxt : ¬ (hl (sy u) = true ∧ (p : Int) < k + (cC u).length) → WP E m_Sq_holderOf (d + 3) 12 [(0, aP a), (1, aI p), (2, aI (k + -1))] [] τ (fun r σ' => ∃ v, r = some (aI v) ∧ τ.2 <+: σ'.2 ∧ (hq (-1) 0 t)[p]? = some v ∧ σ' = τ) := by
      intro hno
      refine ih (by omega) τ ⟨⟨by omega, fun i w w1 w2 w3 w4 => ?_⟩, rfl⟩
      by_cases c3 : k < i
      · exact i2 i w c3 w2 w3 w4
      · have : i = k.toNat := by omega
        subst this
        rw [hu] at w3
        cases w3
        have : ¬ (p : Int) < k + (cC u).length := fun q => hno ⟨w4, q⟩
        omega
    refine ⟨q1, ⟨_, q2, by omega, by omega, by omega⟩, ?_⟩
    rw [e2]
    refine wmi_p (c_S_holds (by omega)) ⟨b2i_r _, fun c2 => ?_, fun c2 => ⟨q1, ?_⟩⟩
    · rw [b2i_0] at c2
      exact b_Sq_holderOf_39 _ _ _ (nxt (fun q => c2 q.1))
    · rw [b2i_n0] at c2
      have h9 := c_Sq_endAt (E := E) (d := d) hc ht hn hu
      rw [show ((k.toNat : Nat) : Int) = k by omega] at h9
      have hlu : (cC u).length ≤ (cC t).length := by
        obtain ⟨-, A, B, e1, -⟩ := sbC_at ht hu
        have := congrArg List.length e1
        simp at this; omega
      refine wmi_p h9 ⟨by omega, by omega, fun c3 => ?_, fun c3 => ⟨_, rfl, List.prefix_refl _, ?_, rfl⟩⟩
      · exact b_Sq_holderOf_39 _ _ _ (nxt (fun q => by omega))
      · rw [hx]
        rcases hsp with ⟨r1, r2⟩ | ⟨j, w, r1, r2, r3, r4, r5, r6⟩
        · have := r2 k.toNat u (by omega) (by omega) hu c2
          omega
        · rcases Int.lt_trichotomy k j with g | g | g
          · have := i2 j w g r2 r3 r4
            omega
          · congr 1; omega
          · have := r6 k.toNat u (by omega) (by omega) hu c2
            omega
/-- outer signs of a forest -/
def soF (ts : List Tr) : Nat := (ts.map so).sum
theorem so_len {t : Tr} (h : okw t) : so t ≤ (cC t).length := by
  induction t with
  | var l => simp [so, cC]
  | pow t l ih => simp [so, cC]
  | mul a b iha ihb => have := iha h.1; have := ihb h.2; simp [so, cC]; omega
  | add a b iha ihb => have := iha h.1; have := ihb h.2; simp [so, cC]; omega
  | _ => exact absurd h (by simp [okw])
theorem c_Sq_outerSigns (h : Cd σ a (cC t)) (ht : okw t) (hn : (cC t).length ≤ 1000) : WMi E m_Sq_outerSigns (d + 3) [aP a] σ (fun r τ => r = so t ∧ τ = σ) := by
  have hc := h
  obtain ⟨q1, q2, q3⟩ := h
  refine e_Sq_outerSigns _ ?_
  have key : ∀ (s : List Int × List Tr), ((∀ u ∈ s.2, okw u) ∧ s.1 ++ cF s.2 = cC t) → ∀ n : Nat, n + soF s.2 = so t → WP E m_Sq_outerSigns (d + 3) 4 [(0, aP a), (1, aI n), (2, aI s.1.length)] [] σ (fun r τ => ∃ v, r = some (aI v) ∧ σ.2 <+: τ.2 ∧ v = so t ∧ τ = σ) := by
    refine lpx (S := List Int × List Tr) (fun s => (cF s.2).length) (fun s => ∀ n : Nat, n + soF s.2 = so t → WP E m_Sq_outerSigns (d + 3) 4 [(0, aP a), (1, aI n), (2, aI s.1.length)] [] σ (fun r τ => ∃ v, r = some (aI v) ∧ σ.2 <+: τ.2 ∧ v = so t ∧ τ = σ)) _ (fun s hI ih n hnn => ?_)
    obtain ⟨A, ts⟩ := s
    obtain ⟨i2, i5⟩ := hI
    simp only at i2 i5 ih hnn ⊢
    have hlen := congrArg List.length i5
    rw [List.length_append] at hlen
    refine b_Sq_outerSigns_4 _ _ _ ⟨q1, ⟨_, q2⟩, by omega, by rw [ln_of q2]; omega, fun c => ?_, fun c => ?_⟩
    · rw [ln_of q2] at c
      have h0 : ts = [] := by
        have := cF_len i2
        exact List.eq_nil_of_length_eq_zero (by omega)
      subst h0
      exact ri_p (by simp [soF] at hnn; omega)
    · rw [ln_of q2] at c
      cases ts with
      | nil => rw [cF_nil] at hlen; simp at hlen; omega
      | cons u us =>
        have hu := i2 u List.mem_cons_self
        have hus : ∀ w ∈ us, okw w := fun w hw => i2 w (List.mem_cons_of_mem _ hw)
        have e1 : cF (u :: us) = sy u :: cF (chC u ++ us) := by rw [cF_cons, cC_sy hu, cF_app]; rfl
        have hr := sy_r hu
        have e2 : σ.1 (σ.1 a 0) (A.length : Int) = sy u := by
          rw [q3.r (by omega) (by omega), ← i5, e1]
          simp [List.getD_eq_getElem?_getD]
        have hso : soF (u :: us) = so u + soF us := by simp [soF]
        refine ⟨q1, ⟨_, q2, by omega, by omega, by omega⟩, ?_⟩
        rw [e2]
        refine wmi_p (c_S_isJoint (by omega)) ⟨b2i_r _, fun c2 => ?_, fun c2 => ?_⟩
        · have c3 := c2
          rw [b2i_0] at c2
          have h9 := ih (A ++ cC u, us) (by show (cF us).length < (cF (u :: us)).length; have := cC_pos hu; rw [cF_cons, List.length_append]; omega) ⟨hus, by show A ++ cC u ++ cF us = _; rw [List.append_assoc, ← cF_cons]; exact i5⟩ (n + 1) (by
            show n + 1 + soF us = so t
            have : so u = 1 := by
              cases u with
              | var l => rfl
              | pow t l => rfl
              | mul a b => simp [sy, jt] at c2
              | add a b => simp [sy, jt] at c2
              | _ => exact absurd hu (by simp [okw])
            omega)
          simp only [List.length_append] at h9
          have hcd : Cd σ a (A ++ (cC u ++ cF us)) := by rw [← cF_cons, i5]; exact hc
          refine b_Sq_outerSigns_33 _ _ _ _ _ ⟨b2i_r _, fun c4 => ⟨q1, wmi_p (c_Sq_endOf hcd hu (by rw [← cF_cons, i5]; exact hn) rfl) ⟨by omega, ?_, ?_⟩⟩, fun c4 => absurd c3 c4⟩
          · rw [cF_cons, List.length_append] at hlen; omega
          · refine b_Sq_outerSigns_56 _ _ _ ?_
            have := cC_pos hu
            rw [show max ((A.length : Int) + 1) ((A.length : Int) + (cC u).length) = ((A.length + (cC u).length : Nat) : Int) by omega]
            exact h9
        · have c3 := c2
          rw [b2i_n0] at c2
          have h9 := ih (A ++ [sy u], chC u ++ us) (by show (cF (chC u ++ us)).length < (cF (u :: us)).length; rw [e1]; simp) ⟨fun w hw => (List.mem_append.mp hw).elim (chC_ok hu w) (hus w), by show A ++ [sy u] ++ cF (chC u ++ us) = _; rw [← i5, e1]; simp⟩ n (by
            show n + soF (chC u ++ us) = so t
            have : soF (chC u ++ us) = so u + soF us := by
              cases u with
              | var l => have : vN l < 26 := hu; have e : jt (sy (.var l)) = false := decide_eq_false (by simp only [sy]; omega); rw [e] at c2; cases c2
              | pow t l => have := hu.2; have e : jt (sy (.pow t l)) = false := decide_eq_false (by simp only [sy]; omega); rw [e] at c2; cases c2
              | mul a b => simp [soF, chC, so]; omega
              | add a b => simp [soF, chC, so]; omega
              | _ => exact absurd hu (by simp [okw])
            omega)
          simp only [List.length_append, List.length_cons, List.length_nil] at h9
          refine b_Sq_outerSigns_33 _ _ _ _ _ ⟨b2i_r _, fun c4 => absurd c4 c3, fun c4 => ?_⟩
          refine b_Sq_outerSigns_56 _ _ _ ?_
          rw [show (n : Int) + 0 = n by omega, show (A.length : Int) + 1 = ((A.length + (0 + 1) : Nat) : Int) by omega]
          exact h9
  exact key ([], [t]) ⟨by simpa using ht, by simp [cF]⟩ 0 (by simp [soF])
end CTree
