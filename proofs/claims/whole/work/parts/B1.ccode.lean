/-! THE CLASS'S CODE: symbols, ends of parts -/
theorem WP.cong {E : EV} {M : MI} {d pc : Nat} {ls ls' : List (Nat × AV)} {st : List AV} {σ : St} {Q : Option AV → St → Prop} (h : WP E M d pc ls' st σ Q) (e : eL E ls = eL E ls') : WP E M d pc ls st σ Q := by
  unfold WP Run at *
  rw [e]
  exact h
def jt (x : Int) : Bool := decide (x = 64 ∨ x = 65)
def hl (x : Int) : Bool := decide (32 ≤ x ∧ x < 58)
def ltr (x : Int) : Int := if 32 ≤ x ∧ x < 58 then x - 32 else x
def nSg (L : List Int) : Nat := L.countP (fun x => !jt x)
/-- as ok, but perhaps not normal -/
def okw : Tr → Prop
  | .var l => vN l < 26
  | .pow t l => okw t ∧ l < 26
  | .mul a b => okw a ∧ okw b
  | .add a b => okw a ∧ okw b
  | _ => False
theorem ok.w {t : Tr} (h : ok t) : okw t := by
  induction t with
  | var l => exact h
  | pow t l ih => exact ⟨ih h.1, h.2⟩
  | mul a b iha ihb => exact ⟨iha h.1, ihb h.2.1⟩
  | add a b iha ihb => exact ⟨iha h.1, ihb h.2.1⟩
  | _ => exact absurd h (by simp [ok])
def cF (ts : List Tr) : List Int := (ts.map cC).flatten
theorem cF_nil : cF [] = [] := rfl
theorem cF_cons (t : Tr) (ts : List Tr) : cF (t :: ts) = cC t ++ cF ts := by simp [cF]
theorem cF_app (ts us : List Tr) : cF (ts ++ us) = cF ts ++ cF us := by simp [cF]
theorem cF_one (t : Tr) : cF [t] = cC t := by simp [cF]
def chC : Tr → List Tr
  | .pow t _ => [t]
  | .mul a b => [a, b]
  | .add a b => [a, b]
  | _ => []
def sy : Tr → Int
  | .var l => (vN l : Int)
  | .pow _ l => (l : Int) + 32
  | .mul _ _ => 64
  | .add _ _ => 65
  | _ => 0
theorem cC_sy {t : Tr} (h : okw t) : cC t = sy t :: cF (chC t) := by
  cases t with
  | var l => simp [cC, sy, chC, cF]
  | pow t l => simp [cC, sy, chC, cF]
  | mul a b => simp [cC, sy, chC, cF]
  | add a b => simp [cC, sy, chC, cF]
  | _ => exact absurd h (by simp [okw])
theorem chC_ok {t : Tr} (h : okw t) : ∀ u ∈ chC t, okw u := by
  cases t with
  | var l => intro u hu; simp [chC] at hu
  | pow t l => intro u hu; simp [chC] at hu; subst hu; exact h.1
  | mul a b => intro u hu; simp [chC] at hu; rcases hu with rfl | rfl; exact h.1; exact h.2
  | add a b => intro u hu; simp [chC] at hu; rcases hu with rfl | rfl; exact h.1; exact h.2
  | _ => exact absurd h (by simp [okw])
theorem sy_r {t : Tr} (h : okw t) : 0 ≤ sy t ∧ sy t ≤ 65 := by
  cases t with
  | var l => have : vN l < 26 := h; simp only [sy]; omega
  | pow t l => have := h.2; simp only [sy]; omega
  | mul a b => simp [sy]
  | add a b => simp [sy]
  | _ => exact absurd h (by simp [okw])
/-- what a symbol tells of what stands behind it -/
theorem sy_due {t : Tr} (h : okw t) : (jt (sy t) = true ∧ (chC t).length = 2) ∨ (jt (sy t) = false ∧ hl (sy t) = true ∧ (chC t).length = 1) ∨ (jt (sy t) = false ∧ hl (sy t) = false ∧ (chC t).length = 0) := by
  cases t with
  | var l => have : vN l < 26 := h; exact Or.inr (Or.inr ⟨decide_eq_false (by simp only [sy]; omega), decide_eq_false (by simp only [sy]; omega), rfl⟩)
  | pow t l => have := h.2; exact Or.inr (Or.inl ⟨decide_eq_false (by simp only [sy]; omega), decide_eq_true (by simp only [sy]; omega), rfl⟩)
  | mul a b => exact Or.inl ⟨by simp [sy, jt], rfl⟩
  | add a b => exact Or.inl ⟨by simp [sy, jt], rfl⟩
  | _ => exact absurd h (by simp [okw])
theorem cC_pos {t : Tr} (h : okw t) : 1 ≤ (cC t).length := by rw [cC_sy h]; simp
theorem cF_len {ts : List Tr} (h : ∀ u ∈ ts, okw u) : ts.length ≤ (cF ts).length := by
  induction ts with
  | nil => simp
  | cons t ts ih =>
    have h1 := ih (fun u hu => h u (List.mem_cons_of_mem _ hu))
    have h2 := cC_pos (h t List.mem_cons_self)
    rw [cF_cons, List.length_append, List.length_cons]
    omega
theorem cC_sym {t : Tr} (h : okw t) : ∀ x ∈ cC t, 0 ≤ x ∧ x ≤ 65 := by
  induction t with
  | var l => intro x hx; simp [cC] at hx; have : vN l < 26 := h; omega
  | pow t l ih => intro x hx; simp [cC] at hx; have := h.2; rcases hx with rfl | hx; omega; exact ih h.1 x hx
  | mul a b iha ihb => intro x hx; simp [cC] at hx; rcases hx with rfl | hx | hx; omega; exact iha h.1 x hx; exact ihb h.2 x hx
  | add a b iha ihb => intro x hx; simp [cC] at hx; rcases hx with rfl | hx | hx; omega; exact iha h.1 x hx; exact ihb h.2 x hx
  | _ => exact absurd h (by simp [okw])
theorem nSg_app (A B : List Int) : nSg (A ++ B) = nSg A + nSg B := List.countP_append
theorem nSg_cons (x : Int) (B : List Int) : nSg (x :: B) = (if jt x then 0 else 1) + nSg B := by
  unfold nSg
  rw [List.countP_cons]
  cases jt x <;> simp <;> omega
theorem nSg_cC {t : Tr} (h : okw t) : nSg (cC t) = sg t := by
  induction t with
  | var l => have : vN l < 26 := h; simp only [cC, sg]; rw [nSg_cons, if_neg (by simp [jt]; omega)]; rfl
  | pow t l ih => have := h.2; simp only [cC, sg]; rw [nSg_cons, if_neg (by simp [jt]; omega), ih h.1]; omega
  | mul a b iha ihb => simp only [cC, sg]; rw [nSg_cons, nSg_app, iha h.1, ihb h.2, if_pos (by simp [jt])]; omega
  | add a b iha ihb => simp only [cC, sg]; rw [nSg_cons, nSg_app, iha h.1, ihb h.2, if_pos (by simp [jt])]; omega
  | _ => exact absurd h (by simp [okw])
theorem nSg_take {L : List Int} {k : Nat} (hk : k < L.length) : nSg (L.take (k + 1)) = nSg (L.take k) + (if jt (L.getD k 0) then 0 else 1) := by
  rw [List.take_succ, List.getElem?_eq_getElem hk, nSg_app, List.getD_eq_getElem?_getD, List.getElem?_eq_getElem hk]
  simp only [Option.toList_some, Option.getD_some, nSg_cons]
  rfl
theorem nSg_mono (L : List Int) {j k : Nat} (h : j ≤ k) : nSg (L.take j) ≤ nSg (L.take k) := by
  rw [show L.take j = (L.take k).take j by rw [List.take_take, Nat.min_eq_left h]]
  exact (List.take_sublist _ _).countP_le
section CCode
variable {E : EV} {d : Nat} {σ : St} {a : Int} {L : List Int}
theorem c_S_isJoint {x : Int} (h : rI x) : WMi E m_S_isJoint d [aI x] σ (fun r τ => r = b2i (jt x = true) ∧ τ = σ) :=
  e_S_isJoint _ ⟨h, fun c => ri_p (b2i_t (by simp [jt, c])).symm, fun c => ⟨h, fun c2 => ri_p (b2i_f (by simp [jt]; omega)).symm, fun c2 => ri_p (b2i_t (by simp [jt, c2])).symm⟩⟩
theorem c_S_holds {x : Int} (h : rI x) : WMi E m_S_holds d [aI x] σ (fun r τ => r = b2i (hl x = true) ∧ τ = σ) :=
  e_S_holds _ ⟨h, fun c => ri_p (b2i_f (by simp [hl]; omega)).symm, fun c => ⟨h, fun c2 => ri_p (b2i_f (by simp [hl]; omega)).symm, fun c2 => ri_p (b2i_t (by simp [hl]; omega)).symm⟩⟩
theorem c_S_letterOf {x : Int} (h : rI x) : WMi E m_S_letterOf (d + 1) [aI x] σ (fun r τ => r = ltr x ∧ τ = σ) := by
  refine e_S_letterOf _ (wmi_p (c_S_holds h) ⟨b2i_r _, fun c => ri_p ?_, fun c => ri_p ?_⟩)
  · rw [b2i_0] at c; simp only [hl, decide_eq_true_eq] at c; unfold ltr; rw [if_neg c]
  · rw [b2i_n0] at c; simp only [hl, decide_eq_true_eq] at c; unfold ltr; rw [if_pos c]
theorem c_S_endOfPart {o len : Int} {n : Nat} {t : Tr} (ht : okw t) (hA : At (σ.1 a) o (cC t)) (ho : 0 ≤ o) (hs : sh σ a = some (21, n)) (h1 : o + (cC t).length ≤ len) (h2 : len ≤ n) (h3 : n ≤ 100000) :
    WMi E m_S_endOfPart (d + 1) [aP a, aI len, aI o] σ (fun r τ => r = o + (cC t).length ∧ τ = σ) := by
  refine e_S_endOfPart _ _ _ ⟨by omega, ?_⟩
  have key : ∀ (s : Int × List Tr), (At (σ.1 a) s.1 (cF s.2) ∧ (∀ u ∈ s.2, okw u) ∧ o ≤ s.1 ∧ s.1 + (cF s.2).length = o + (cC t).length) → WP E m_S_endOfPart (d + 1) 9 [(0, aP a), (1, aI len), (3, aI s.2.length), (4, aI s.1)] [] σ (fun r τ => ∃ v, r = some (aI v) ∧ σ.2 <+: τ.2 ∧ v = o + (cC t).length ∧ τ = σ) := by
    refine lpx (fun s => (cF s.2).length) _ _ (fun s hI ih => ?_)
    obtain ⟨k, ts⟩ := s
    obtain ⟨i1, i2, i4, i5⟩ := hI
    simp only at i1 i2 i4 i5 ih ⊢
    have i3 := cF_len i2
    refine b_S_endOfPart_9 _ _ _ _ ⟨by omega, fun c => ?_, fun c => ?_⟩
    · have h0 : ts = [] := List.eq_nil_of_length_eq_zero (by omega)
      subst h0
      rw [cF_nil] at i5
      exact ri_p (by simpa using i5)
    · cases ts with
      | nil => simp at c
      | cons u us =>
        have hu := i2 u List.mem_cons_self
        have e1 : cF (u :: us) = sy u :: cF (chC u ++ us) := by rw [cF_cons, cC_sy hu, cF_app]; rfl
        rw [e1] at i1 i5
        obtain ⟨i6, i7⟩ := At.cons.mp i1
        have hr := sy_r hu
        simp only [List.length_cons] at i3 i5 c ⊢
        have h9 := ih (k + 1, chC u ++ us) (by show (cF (chC u ++ us)).length < (cF (u :: us)).length; rw [e1]; simp) ⟨i7, fun w hw => (List.mem_append.mp hw).elim (chC_ok hu w) (fun q => i2 w (List.mem_cons_of_mem _ q)), by show o ≤ k + 1; omega, by show k + 1 + ((cF (chC u ++ us)).length : Int) = _; omega⟩
        simp only [List.length_append] at h9
        refine ⟨by omega, by omega, fun c2 => by omega, fun c2 => ⟨⟨n, hs⟩, by omega, by rw [ln_of hs]; omega, fun c3 => by rw [ln_of hs] at c3; omega, fun c3 => ⟨⟨n, hs, by omega, by omega, by omega⟩, ?_⟩⟩⟩
        rw [i6]
        refine wmi_p (c_S_isJoint (by omega)) ⟨b2i_r _, fun c4 => ?_, fun c4 => ?_⟩
        · rw [b2i_0] at c4
          refine wmi_p (c_S_holds (by omega)) ⟨b2i_r _, fun c5 => ?_, fun c5 => ?_⟩
          · rw [b2i_n0] at c5
            refine b_S_endOfPart_57 _ _ _ _ ?_
            rcases sy_due hu with q | q | q
            · exact absurd q.1 c4
            · rw [q.2.2] at h9
              rw [show ((us.length + 1 : Nat) : Int) = ((1 + us.length : Nat) : Int) by omega]
              exact h9
            · rw [q.2.1] at c5; cases c5
          · rw [b2i_0] at c5
            refine b_S_endOfPart_57 _ _ _ _ ?_
            rcases sy_due hu with q | q | q
            · exact absurd q.1 c4
            · exact absurd q.2.1 c5
            · rw [q.2.2] at h9
              rw [show ((us.length + 1 : Nat) : Int) + -1 = ((0 + us.length : Nat) : Int) by omega]
              exact h9
        · rw [b2i_n0] at c4
          refine b_S_endOfPart_57 _ _ _ _ ?_
          rcases sy_due hu with q | q | q
          · rw [q.2] at h9
            rw [show ((us.length + 1 : Nat) : Int) + 1 = ((2 + us.length : Nat) : Int) by omega]
            exact h9
          · rw [q.1] at c4; cases c4
          · rw [q.1] at c4; cases c4
  have := key (o, [t]) ⟨by rw [cF_one]; exact hA, by simpa using ht, Int.le_refl _, by rw [cF_one]⟩
  rw [show max 0 o = o by omega]
  simpa using this
/-- a code's cell: what its symbols can be -/
theorem At.r {f : Int → Int} {k : Int} (hA : At f 0 L) (h0 : 0 ≤ k) (h1 : k < L.length) : f k = L.getD k.toNat 0 := by
  have := hA k.toNat (by omega)
  rw [show (0 : Int) + ((k.toNat : Nat) : Int) = k by omega] at this
  exact this
theorem getD_mem {L : List Int} {k : Nat} (h : k < L.length) : L.getD k 0 ∈ L := by
  rw [List.getD_eq_getElem?_getD, List.getElem?_eq_getElem h]
  exact List.getElem_mem h
theorem c_Sq_symbol {i : Int} (h : Cd σ a L) (hn : L.length ≤ 1000) (h1 : rI i) : WMi E m_Sq_symbol d [aP a, aI i] σ (fun r τ => r = (if 0 ≤ i ∧ i < L.length then L.getD i.toNat 0 else -1) ∧ τ = σ) := by
  obtain ⟨q1, q2, q3⟩ := h
  refine e_Sq_symbol _ _ ⟨h1, fun c => ri_p (if_neg (by omega)).symm, fun c => ⟨q1, ⟨_, q2⟩, h1, by rw [ln_of q2]; omega, fun c2 => ri_p ?_, fun c2 => ⟨q1, ?_, ri_p ?_⟩⟩⟩
  · rw [ln_of q2] at c2; rw [if_neg (by omega)]
  · rw [ln_of q2] at c2; exact ⟨_, q2, by omega, by omega, by omega⟩
  · rw [ln_of q2] at c2; rw [if_pos (by omega)]; exact q3.r (by omega) (by omega)
theorem c_Sq_length (h : Cd σ a L) : WMi E m_Sq_length d [aP a] σ (fun r τ => r = L.length ∧ τ = σ) :=
  e_Sq_length _ ⟨h.1, ⟨_, h.2.1⟩, ri_p (ln_of h.2.1)⟩
theorem c_Sq_endOf {A B : List Int} {t : Tr} {o : Int} (h : Cd σ a (A ++ (cC t ++ B))) (ht : okw t) (hn : (A ++ (cC t ++ B)).length ≤ 1000) (ho : o = A.length) : WMi E m_Sq_endOf (d + 2) [aP a, aI o] σ (fun r τ => r = o + (cC t).length ∧ τ = σ) := by
  obtain ⟨q1, q2, q3⟩ := h
  refine e_Sq_endOf _ _ ⟨q1, q1, ⟨_, q2⟩, wmi_p (c_S_endOfPart (n := (A ++ (cC t ++ B)).length) ht ?_ (by omega) q2 ?_ ?_ (by omega)) (ri_p rfl)⟩
  · have := (At.app.mp (At.app.mp q3).2).1
    rw [ho, show (A.length : Int) = 0 + A.length by omega]
    exact this
  · rw [ln_of q2, ho]; simp; omega
  · rw [ln_of q2]; omega
theorem c_Sq_numberAt {p : Int} (h : Cd σ a L) (hn : L.length ≤ 1000) (hL : ∀ x ∈ L, 0 ≤ x ∧ x ≤ 65) (h1 : rI p) : WMi E m_Sq_numberAt (d + 1) [aP a, aI p] σ (fun r τ => r = nSg (L.take p.toNat) ∧ τ = σ) := by
  obtain ⟨q1, q2, q3⟩ := h
  refine e_Sq_numberAt _ _ ?_
  refine lpu L.length (fun k τ => ∀ n : Nat, n = nSg (L.take k.toNat) → WP E m_Sq_numberAt (d + 1) 4 [(0, aP a), (1, aI p), (2, aI n), (3, aI k)] [] τ _) (fun k τ => (0 ≤ k ∧ k ≤ L.length ∧ k.toNat ≤ p.toNat) ∧ τ = σ) (fun k τ hI ih n hn2 => ?_) 0 σ ⟨⟨by omega, by omega, by simp⟩, rfl⟩ 0 (by simp [nSg])
  obtain ⟨i1, rfl⟩ := hI
  refine b_Sq_numberAt_4 _ _ _ _ ⟨by omega, h1, fun c => ri_p ?_, fun c => ⟨q1, ⟨_, q2⟩, by omega, by rw [ln_of q2]; omega, fun c2 => ri_p ?_, fun c2 => ?_⟩⟩
  · rw [hn2, show k.toNat = p.toNat by omega]
  · rw [ln_of q2] at c2
    rw [hn2, List.take_of_length_le (by omega), List.take_of_length_le (by omega)]
  · rw [ln_of q2] at c2
    have hx := hL _ (getD_mem (L := L) (k := k.toNat) (by omega))
    have e := nSg_take (L := L) (k := k.toNat) (by omega)
    rw [← show (k + 1).toNat = k.toNat + 1 by omega] at e
    refine ⟨q1, ⟨_, q2, by omega, by omega, by omega⟩, ?_⟩
    rw [q3.r (by omega) (by omega)]
    refine wmi_p (c_S_isJoint (by omega)) ⟨b2i_r _, fun c4 => ?_, fun c4 => ?_⟩
    · rw [b2i_0] at c4
      rw [if_neg c4] at e
      refine b_Sq_numberAt_36 _ _ _ _ _ ?_
      have := ih (by omega) τ ⟨⟨by omega, by omega, by omega⟩, rfl⟩ (n + 1) (by omega)
      exact this
    · rw [b2i_n0] at c4
      rw [if_pos c4] at e
      refine b_Sq_numberAt_36 _ _ _ _ _ ?_
      have := ih (by omega) τ ⟨⟨by omega, by omega, by omega⟩, rfl⟩ n (by omega)
      rw [show (n : Int) + 0 = n by omega]
      exact this
theorem c_Sq_signs {t : Tr} (h : Cd σ a (cC t)) (ht : okw t) (hn : (cC t).length ≤ 1000) : WMi E m_Sq_signs (d + 2) [aP a] σ (fun r τ => r = sg t ∧ τ = σ) := by
  refine e_Sq_signs _ ⟨h.1, ⟨_, h.2.1⟩, h.1, wmi_p (c_Sq_numberAt h hn (cC_sym ht) (by rw [ln_of h.2.1]; omega)) (ri_p ?_)⟩
  rw [ln_of h.2.1, List.take_of_length_le (by omega), nSg_cC ht]
/-- the place of the n-th sign -/
def isPl (L : List Int) (n : Int) (p : Nat) : Prop := p < L.length ∧ jt (L.getD p 0) = false ∧ (nSg (L.take p) : Int) = n
theorem isPl_uniq {n : Int} {p q : Nat} (h : isPl L n p) (h2 : isPl L n q) : p = q := by
  rcases Nat.lt_trichotomy p q with c | c | c
  · have e := nSg_take h.1
    rw [h.2.1, if_neg (by simp)] at e
    have := nSg_mono L (show p + 1 ≤ q by omega)
    have := h.2.2; have := h2.2.2
    omega
  · exact c
  · have e := nSg_take h2.1
    rw [h2.2.1, if_neg (by simp)] at e
    have := nSg_mono L (show q + 1 ≤ p by omega)
    have := h.2.2; have := h2.2.2
    omega
theorem c_Sq_placeOf {i : Int} (h : Cd σ a L) (hn : L.length ≤ 1000) (hL : ∀ x ∈ L, 0 ≤ x ∧ x ≤ 65) (h1 : rI i) : WMi E m_Sq_placeOf (d + 1) [aP a, aI i] σ (fun r τ => ((∃ p : Nat, r = p ∧ isPl L i p) ∨ (r = -1 ∧ ¬ (0 ≤ i ∧ i < nSg L))) ∧ τ = σ) := by
  obtain ⟨q1, q2, q3⟩ := h
  refine e_Sq_placeOf _ _ ?_
  refine lpu L.length (fun k τ => ∀ x : Int, x = (if i - nSg (L.take k.toNat) < -2147483648 then i - nSg (L.take k.toNat) + 4294967296 else i - nSg (L.take k.toNat)) → WP E m_Sq_placeOf (d + 1) 4 [(0, aP a), (2, aI x), (3, aI k)] [] τ _) (fun k τ => ((0 ≤ k ∧ k ≤ L.length) ∧ (0 ≤ i → (nSg (L.take k.toNat) : Int) ≤ i)) ∧ τ = σ) (fun k τ hI ih x hx => ?_) 0 σ ⟨⟨by omega, by simp [nSg]⟩, rfl⟩ i (by simp [nSg]; omega)
  obtain ⟨⟨i1, i2⟩, rfl⟩ := hI
  have hle : nSg (L.take k.toNat) ≤ L.length := by
    have := List.countP_le_length (p := fun x => !jt x) (l := L.take k.toNat)
    rw [List.length_take] at this
    unfold nSg; omega
  refine b_Sq_placeOf_4 _ _ _ ⟨q1, ⟨_, q2⟩, by omega, by rw [ln_of q2]; omega, fun c2 => ⟨_, rfl, List.prefix_refl _, Or.inr ⟨rfl, ?_⟩, rfl⟩, fun c2 => ?_⟩
  · rw [ln_of q2] at c2
    rw [List.take_of_length_le (by omega)] at i2
    omega
  · rw [ln_of q2] at c2
    have hy := hL _ (getD_mem (L := L) (k := k.toNat) (by omega))
    have e := nSg_take (L := L) (k := k.toNat) (by omega)
    rw [← show (k + 1).toNat = k.toNat + 1 by omega] at e
    refine ⟨q1, ⟨_, q2, by omega, by omega, by omega⟩, ?_⟩
    rw [q3.r (by omega) (by omega)]
    refine wmi_p (c_S_isJoint (by omega)) ⟨b2i_r _, fun c4 => ?_, fun c4 => ?_⟩
    · rw [b2i_0] at c4
      rw [if_neg c4] at e
      refine ⟨by omega, fun c5 => ?_, fun c5 => ?_⟩
      · refine b_Sq_placeOf_37 _ _ _ ?_
        have h9 := ih (by omega) τ ⟨⟨by omega, fun q => by omega⟩, rfl⟩ (if x + -1 < -2147483648 then x + -1 + 4294967296 else x + -1) (by omega)
        refine h9.cong ?_
        simp only [eL, List.map_cons, List.map_nil, List.cons.injEq, Prod.mk.injEq, true_and, and_true]
        split
        · show Value.int (Int32.ofInt (x + -1)) = Value.int (Int32.ofInt (x + -1 + 4294967296))
          congr 1
          have : Int32.ofInt (x + -1 + 4294967296) = Int32.ofInt (x + -1) := by
            apply Int32.toInt.inj
            rw [Int32.toInt_ofInt, Int32.toInt_ofInt]
            simp [Int.bmod_def]
          exact this.symm
        · rfl
      · exact ⟨_, rfl, List.prefix_refl _, Or.inl ⟨k.toNat, by omega, by omega, by simpa using c4, by omega⟩, rfl⟩
    · rw [b2i_n0] at c4
      rw [if_pos c4] at e
      refine b_Sq_placeOf_37 _ _ _ ?_
      exact ih (by omega) τ ⟨⟨by omega, by omega⟩, rfl⟩ x (by rw [e]; exact hx)
theorem c_Sq_isLike {a2 : Int} {L2 : List Int} (h : Cd σ a L) (h2 : Cd σ a2 L2) (hn : L.length ≤ 1000) (hn2 : L2.length ≤ 1000) (hL : ∀ x ∈ L, 0 ≤ x ∧ x ≤ 65) (hL2 : ∀ x ∈ L2, 0 ≤ x ∧ x ≤ 65) : WMi E m_Sq_isLike d [aP a, aP a2] σ (fun r τ => r = b2i (L = L2) ∧ τ = σ) := by
  obtain ⟨q1, q2, q3⟩ := h
  obtain ⟨w1, w2, w3⟩ := h2
  have hp := (sh_len w1).1
  refine e_Sq_isLike _ _ ⟨fun c => by omega, fun c => ⟨w1, ⟨_, w2⟩, q1, ⟨_, q2⟩, by rw [ln_of w2]; omega, by rw [ln_of q2]; omega, fun c2 => ?_, fun c2 => ri_p (b2i_f (fun q => c2 (by rw [ln_of w2, ln_of q2, q]))).symm⟩⟩
  rw [ln_of w2, ln_of q2] at c2
  refine lpu L.length (fun k τ => WP E m_Sq_isLike d 21 [(0, aP a), (1, aP a2), (2, aI k)] [] τ _) (fun k τ => ((0 ≤ k ∧ k ≤ L.length) ∧ L.take k.toNat = L2.take k.toNat) ∧ τ = σ) (fun k τ hI ih => ?_) 0 σ ⟨⟨by omega, by simp⟩, rfl⟩
  obtain ⟨⟨i1, i2⟩, rfl⟩ := hI
  refine b_Sq_isLike_21 _ _ _ ⟨q1, ⟨_, q2⟩, by omega, by rw [ln_of q2]; omega, fun c3 => ri_p (b2i_t ?_).symm, fun c3 => ⟨w1, ⟨_, w2⟩, by omega, by rw [ln_of w2]; omega, fun c4 => ?_, fun c4 => ?_⟩⟩
  · rw [ln_of q2] at c3
    rwa [List.take_of_length_le (by omega), List.take_of_length_le (by omega)] at i2
  · rw [ln_of q2] at c3; rw [ln_of w2] at c4; omega
  · rw [ln_of q2] at c3
    have hy := hL _ (getD_mem (L := L) (k := k.toNat) (by omega))
    have hy2 := hL2 _ (getD_mem (L := L2) (k := k.toNat) (by omega))
    rw [q3.r (by omega) (by omega), w3.r (by omega) (by omega)]
    refine ⟨q1, ⟨_, q2, by omega, by omega, by omega⟩, w1, ⟨_, w2, by omega, by omega, by omega⟩, by omega, by omega, fun c5 => ?_, fun c5 => ri_p (b2i_f (fun q => c5 (by rw [q]))).symm⟩
    refine ih (by omega) τ ⟨⟨by omega, ?_⟩, rfl⟩
    rw [show (k + 1).toNat = k.toNat + 1 by omega, List.take_succ, List.take_succ, i2, List.getElem?_eq_getElem (show k.toNat < L.length by omega), List.getElem?_eq_getElem (show k.toNat < L2.length by omega)]
    rw [List.getD_eq_getElem?_getD, List.getD_eq_getElem?_getD, List.getElem?_eq_getElem (show k.toNat < L.length by omega), List.getElem?_eq_getElem (show k.toNat < L2.length by omega)] at c5
    simp only [Option.getD_some] at c5
    rw [c5]
theorem c_Sq_timesOf {c : Int} (h : Cd σ a L) (hn : L.length ≤ 1000) (hL : ∀ x ∈ L, 0 ≤ x ∧ x ≤ 65) (h1 : rI c) : WMi E m_Sq_timesOf (d + 2) [aP a, aI c] σ (fun r τ => r = (L.countP (fun x => decide (ltr x = c)) : Nat) ∧ τ = σ) := by
  obtain ⟨q1, q2, q3⟩ := h
  refine e_Sq_timesOf _ _ ⟨q1, ⟨_, q2⟩, ?_⟩
  rw [ln_of q2]
  refine lpu L.length (fun k τ => ∀ n : Nat, n = (L.take k.toNat).countP (fun x => decide (ltr x = c)) → WP E m_Sq_timesOf (d + 2) 14 [(1, aI c), (2, aI n), (3, aP (σ.1 a 0)), (4, aI L.length), (5, aI k)] [] τ _) (fun k τ => (0 ≤ k ∧ k ≤ L.length) ∧ τ = σ) (fun k τ hI ih n hn2 => ?_) 0 σ ⟨by omega, rfl⟩ 0 (by simp)
  obtain ⟨i1, rfl⟩ := hI
  refine b_Sq_timesOf_14 _ _ _ _ _ ⟨by omega, by omega, fun c2 => ri_p ?_, fun c2 => ?_⟩
  · rw [hn2, List.take_of_length_le (by omega)]
  · have hy := hL _ (getD_mem (L := L) (k := k.toNat) (by omega))
    have e : (L.take (k + 1).toNat).countP (fun x => decide (ltr x = c)) = (L.take k.toNat).countP (fun x => decide (ltr x = c)) + (if ltr (L.getD k.toNat 0) = c then 1 else 0) := by
      rw [show (k + 1).toNat = k.toNat + 1 by omega, List.take_succ, List.getElem?_eq_getElem (by omega), List.countP_append, List.getD_eq_getElem?_getD, List.getElem?_eq_getElem (by omega)]
      simp [List.countP_cons]
    refine ⟨⟨_, q2, by omega, by omega, by omega⟩, ?_⟩
    rw [q3.r (by omega) (by omega)]
    have hr : rI (ltr (L.getD k.toNat 0)) := by unfold ltr; split <;> omega
    refine wmi_p (c_S_letterOf (by omega)) ⟨hr, h1, fun c4 => ?_, fun c4 => ?_⟩
    · rw [if_neg c4] at e
      refine b_Sq_timesOf_42 _ _ _ _ _ _ ?_
      have := ih (by omega) τ ⟨by omega, rfl⟩ n (by omega)
      rw [show (n : Int) + 0 = n by omega]
      exact this
    · rw [if_pos c4] at e
      refine b_Sq_timesOf_42 _ _ _ _ _ _ ?_
      exact ih (by omega) τ ⟨by omega, rfl⟩ (n + 1) (by omega)
end CCode
