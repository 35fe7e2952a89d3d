/-! MAKING NORMAL -/
def nrm : Tr → Tr
  | .pow t l => .pow (nrm t) l
  | .mul a b => jn (nrm a) (nrm b)
  | .add a b => ja (nrm a) (nrm b)
  | t => t
theorem jn_assoc (a b c : Tr) : jn (jn a b) c = jn a (jn b c) := by
  induction a with
  | mul x y _ ih => simp only [jn]; rw [ih]
  | _ => rfl
theorem ja_assoc (a b c : Tr) : ja (ja a b) c = ja a (ja b c) := by
  induction a with
  | add x y _ ih => simp only [ja]; rw [ih]
  | _ => rfl
theorem jn_non {a b : Tr} (h : isM a = false) : jn a b = .mul a b := by cases a <;> first | rfl | simp [isM] at h
theorem ja_non {a b : Tr} (h : isA a = false) : ja a b = .add a b := by cases a <;> first | rfl | simp [isA] at h
theorem jn_kind (a b : Tr) : isM (jn a b) = true ∧ isA (jn a b) = false := by cases a <;> simp [jn, isM, isA]
theorem ja_kind (a b : Tr) : isM (ja a b) = false ∧ isA (ja a b) = true := by cases a <;> simp [ja, isM, isA]
theorem nrm_kind (t : Tr) : isM (nrm t) = isM t ∧ isA (nrm t) = isA t := by
  cases t with
  | mul a b => simp only [nrm]; rw [(jn_kind _ _).1, (jn_kind _ _).2]; exact ⟨rfl, rfl⟩
  | add a b => simp only [nrm]; rw [(ja_kind _ _).1, (ja_kind _ _).2]; exact ⟨rfl, rfl⟩
  | _ => exact ⟨rfl, rfl⟩
theorem nrm_ok {t : Tr} (h : ok t) : nrm t = t := by
  induction t with
  | var l => rfl
  | pow t l ih => simp only [nrm]; rw [ih h.1]
  | mul a b iha ihb => simp only [nrm]; rw [iha h.1, ihb h.2.1, jn_non h.2.2]
  | add a b iha ihb => simp only [nrm]; rw [iha h.1, ihb h.2.1, ja_non h.2.2]
  | _ => exact absurd h (by simp [ok])
theorem ja_okT {t u : Tr} (h : ok t) (hu : ok u) : ok (ja t u) := by
  induction t with
  | add a b iha ihb => exact ⟨h.1, ihb h.2.1, h.2.2⟩
  | var l => exact ⟨h, hu, rfl⟩
  | pow t l ih => exact ⟨h, hu, rfl⟩
  | mul a b iha ihb => exact ⟨h, hu, rfl⟩
  | _ => exact absurd h (by simp [ok])
theorem nrm_is {t : Tr} (h : okw t) : ok (nrm t) := by
  induction t with
  | var l => exact h
  | pow t l ih => exact ⟨ih h.1, h.2⟩
  | mul a b iha ihb => exact jn_ok (iha h.1) (ihb h.2)
  | add a b iha ihb => exact ja_okT (iha h.1) (ihb h.2)
  | _ => exact absurd h (by simp [okw])
theorem jn_clen (a b : Tr) : (cC (jn a b)).length = (cC a).length + (cC b).length + 1 := by
  induction a with
  | mul x y _ ih => simp only [jn, cC, List.length_cons, List.length_append, ih]; omega
  | _ => simp [jn, cC]; try omega
theorem ja_clen (a b : Tr) : (cC (ja a b)).length = (cC a).length + (cC b).length + 1 := by
  induction a with
  | add x y _ ih => simp only [ja, cC, List.length_cons, List.length_append, ih]; omega
  | _ => simp [ja, cC]; try omega
theorem nrm_len (t : Tr) : (cC (nrm t)).length = (cC t).length := by
  induction t with
  | pow t l ih => simp [nrm, cC, ih]
  | mul a b iha ihb => simp only [nrm, jn_clen, iha, ihb]; simp [cC]
  | add a b iha ihb => simp only [nrm, ja_clen, iha, ihb]; simp [cC]
  | _ => rfl
/-- how many of a joint's likes stand right behind it -/
def spM : Tr → Nat
  | .mul a _ => spM a + 1
  | _ => 0
def spA : Tr → Nat
  | .add a _ => spA a + 1
  | _ => 0
def spJ : Tr → Nat
  | .mul a _ => spM a
  | .add a _ => spA a
  | _ => 0
theorem spM_lt {t : Tr} (h : okw t) : spM t + 1 ≤ (cC t).length := by
  induction t with
  | mul a b iha ihb => have := iha h.1; have := cC_pos h.2; simp only [spM, cC, List.length_cons, List.length_append]; omega
  | _ => have := cC_pos h; simp only [spM]; omega
theorem spA_lt {t : Tr} (h : okw t) : spA t + 1 ≤ (cC t).length := by
  induction t with
  | add a b iha ihb => have := iha h.1; have := cC_pos h.2; simp only [spA, cC, List.length_cons, List.length_append]; omega
  | _ => have := cC_pos h; simp only [spA]; omega
theorem spJ_lt {t : Tr} (h : okw t) : spJ t + 1 ≤ (cC t).length := by
  cases t with
  | mul a b => have := spM_lt h.1; simp only [spJ, cC, List.length_cons, List.length_append]; omega
  | add a b => have := spA_lt h.1; simp only [spJ, cC, List.length_cons, List.length_append]; omega
  | _ => have := cC_pos h; simp only [spJ]; omega
/-- a joint with its like right behind it, and what comes of it; or one that is as it should be -/
theorem rot {u : Tr} (h : okw u) : (jt (sy u) = true ∧ ∃ p q r u' : Tr, cC u = sy u :: sy u :: (cC p ++ (cC q ++ cC r)) ∧ cC u' = sy u :: (cC p ++ sy u :: (cC q ++ cC r)) ∧ okw p ∧ okw u' ∧ nrm u' = nrm u ∧ spJ u = spJ u' + 1) ∨ (cC (nrm u) = sy u :: cF ((chC u).map nrm) ∧ (jt (sy u) = true → ∃ x R, chC u = x :: R ∧ sy x ≠ sy u)) := by
  cases u with
  | var l => right; exact ⟨by simp [nrm, cC, sy, chC, cF], fun q => by have h2 : vN l < 26 := h; have e : jt (sy (.var l)) = false := decide_eq_false (by simp only [sy]; omega); rw [e] at q; cases q⟩
  | pow t l => right; exact ⟨by simp [nrm, cC, sy, chC, cF], fun q => by have h2 := h.2; have e : jt (sy (.pow t l)) = false := decide_eq_false (by simp only [sy]; omega); rw [e] at q; cases q⟩
  | mul x c =>
    by_cases hx : isM x = true
    · cases x with
      | mul a b => exact Or.inl ⟨rfl, a, b, c, .mul a (.mul b c), by simp [cC, sy], by simp [cC, sy], h.1.1, ⟨h.1.1, h.1.2, h.2⟩, by simp only [nrm]; rw [jn_assoc], by simp only [spJ, spM]⟩
      | _ => simp [isM] at hx
    · have hx' : isM x = false := by simpa using hx
      refine Or.inr ⟨?_, fun _ => ⟨x, [c], rfl, ?_⟩⟩
      · simp only [nrm]; rw [jn_non (by rw [(nrm_kind x).1]; exact hx')]; simp [cC, sy, chC, cF]
      · have hw := h.1
        cases x with
        | var l => have h2 : vN l < 26 := hw; simp only [sy]; omega
        | pow t l => have h2 := hw.2; simp only [sy]; omega
        | add a b => simp [sy]
        | mul a b => simp [isM] at hx'
        | _ => exact absurd hw (by simp [okw])
  | add x c =>
    by_cases hx : isA x = true
    · cases x with
      | add a b => exact Or.inl ⟨rfl, a, b, c, .add a (.add b c), by simp [cC, sy], by simp [cC, sy], h.1.1, ⟨h.1.1, h.1.2, h.2⟩, by simp only [nrm]; rw [ja_assoc], by simp only [spJ, spA]⟩
      | _ => simp [isA] at hx
    · have hx' : isA x = false := by simpa using hx
      refine Or.inr ⟨?_, fun _ => ⟨x, [c], rfl, ?_⟩⟩
      · simp only [nrm]; rw [ja_non (by rw [(nrm_kind x).2]; exact hx')]; simp [cC, sy, chC, cF]
      · have hw := h.1
        cases x with
        | var l => have h2 : vN l < 26 := hw; simp only [sy]; omega
        | pow t l => have h2 := hw.2; simp only [sy]; omega
        | mul a b => simp [sy]
        | add a b => simp [isA] at hx'
        | _ => exact absurd hw (by simp [okw])
  | _ => exact absurd h (by simp [okw])
section CNorm
variable {E : EV} {d : Nat} {σ : St} {a c : Int}
theorem c_Draft_openBrackets {A R : List Int} {y : Int} {p : Tr} (h : DrIs σ a c (A ++ (y :: y :: (cC p ++ R)))) (hp : okw p) : WMv E m_Draft_openBrackets (d + 2) [aP a, aI A.length] σ (fun τ => Fr (dX a c) σ τ ∧ DrIs τ a c (A ++ (y :: (cC p ++ y :: R)))) := by
  obtain ⟨hs, h1, h2, h3, h4⟩ := h
  have hl : (A ++ (y :: y :: (cC p ++ R))).length = A.length + 2 + (cC p).length + R.length := by simp; omega
  have hA := At.app.mp h2
  obtain ⟨hy1, hA2⟩ := At.cons.mp hA.2
  obtain ⟨hy2, hA3⟩ := At.cons.mp hA2
  have hA4 := At.app.mp hA3
  have hyr : 0 ≤ y ∧ y ≤ 65 := h4 y (by simp)
  have hpp := cC_pos hp
  have e0 : (0 : Int) + A.length + 1 + 1 = A.length + 2 := by omega
  rw [e0] at hA4
  have hya : σ.1 c A.length = y := by
    have z := hy1
    rw [show (0 : Int) + A.length = A.length by omega] at z
    exact z
  refine e_Draft_openBrackets _ _ ⟨hs.2.1, by rw [hs.2.2.1]; exact ⟨_, hs.2.2.2, by omega, by omega, by omega⟩, hs.2.1, hs.2.1, ?_⟩
  rw [hs.2.2.1, h1, hya]
  refine wmi_p (c_S_endOfPart hp hA4.1 (by omega) hs.2.2.2 (by omega) (by omega) (by omega)) ?_
  refine lpu ((A.length : Int) + 2 + (cC p).length) (fun k τ => WP E m_Draft_openBrackets (d + 2) 27 [(0, aP a), (2, aI y), (3, aI ((A.length : Int) + 2 + (cC p).length)), (4, aI k)] [] τ _) (fun k τ => ((A.length : Int) + 2 ≤ k ∧ k ≤ (A.length : Int) + 2 + (cC p).length) ∧ Fr [(c, -1)] σ τ ∧ (∀ j : Int, (A.length : Int) + 1 ≤ j → j < k - 1 → τ.1 c j = σ.1 c (j + 1)) ∧ ∀ j : Int, ¬ ((A.length : Int) + 1 ≤ j ∧ j < k - 1) → τ.1 c j = σ.1 c j) (fun k τ hI ih => ?_) _ σ ⟨by omega, Fr.refl _ _, fun j q1 q2 => by omega, fun _ _ => rfl⟩
  obtain ⟨i1, i2, i3, i4⟩ := hI
  have i2' : Fr (dX a c) σ τ := i2.mono (by simp [frL, dX])
  have hsT := hs.fr i2'
  have e1 : τ.1 a 1 = (A ++ (y :: y :: (cC p ++ R))).length := by rw [i2.2 a 1 (by simp [frO]; exact hs.1.2.2)]; exact h1
  refine b_Draft_openBrackets_27 _ _ _ _ ⟨by omega, by omega, fun q => ?_, fun q => ⟨hsT.2.1, by omega, by omega, fun q2 => by omega, fun q2 => ?_⟩⟩
  · obtain rfl : k = (A.length : Int) + 2 + (cC p).length := by omega
    refine b_Draft_openBrackets_64 _ _ _ ⟨by omega, fun q2 => by omega, fun q2 => ⟨hsT.2.1, by omega, by omega, fun q3 => by omega, fun q3 => ?_⟩⟩
    rw [hsT.2.2.1]
    have hf : Fr (dX a c) σ (wr τ c ((A.length : Int) + 2 + (cC p).length - 1) y) := i2'.tr fr_wc
    refine ⟨hsT.2.1, ⟨_, hsT.2.2.2, by omega, by omega, by omega⟩, by omega, rfl, pre_eq i2.1, hf, hs.fr hf, ?_, ?_, by simp at h3 ⊢; omega, ?_⟩
    · rw [wr_na _ hs.1.2.2, e1]; simp; omega
    · have e2 : ∀ j, (wr τ c ((A.length : Int) + 2 + (cC p).length - 1) y).1 c j = if j = (A.length : Int) + 2 + (cC p).length - 1 then y else τ.1 c j := by
        intro j
        rw [wr_at]
        by_cases z : j = (A.length : Int) + 2 + (cC p).length - 1 <;> simp [z]
      rw [At.app, At.cons, At.app, At.cons]
      refine ⟨hA.1.congr (fun i hi => ?_), ?_, hA4.1.move (fun i hi => ?_), ?_, hA4.2.move (fun i hi => ?_)⟩
      · rw [e2, if_neg (by omega), i4 _ (by omega)]
      · rw [e2, if_neg (by omega), i4 _ (by omega), ← hy1]
      · rw [e2, if_neg (by omega), i3 _ (by omega) (by omega)]
        rw [show (0 : Int) + A.length + 1 + i + 1 = A.length + 2 + i by omega]
      · rw [e2, if_pos (by omega)]
      · rw [e2, if_neg (by omega), i4 _ (by omega)]
        rw [show (0 : Int) + A.length + 1 + (cC p).length + 1 + i = A.length + 2 + (cC p).length + i by omega]
    · intro x hx
      refine h4 x ?_
      simp only [List.mem_append, List.mem_cons] at hx ⊢
      rcases hx with hx | hx | hx | hx | hx
      · exact Or.inl hx
      · exact Or.inr (Or.inl hx)
      · exact Or.inr (Or.inr (Or.inr (Or.inl hx)))
      · exact Or.inr (Or.inl hx)
      · exact Or.inr (Or.inr (Or.inr (Or.inr hx)))
  · have hv : σ.1 c k = (A ++ (y :: y :: (cC p ++ R))).getD k.toNat 0 := h2.r (by omega) (by omega)
    have hr := h4 _ (getD_mem (L := A ++ (y :: y :: (cC p ++ R))) (k := k.toNat) (by omega))
    rw [hsT.2.2.1]
    refine ⟨hsT.2.1, hsT.2.1, ⟨_, hsT.2.2.2, by omega, by omega, by omega⟩, ⟨_, hsT.2.2.2, by omega, by omega, by omega⟩, by rw [i4 _ (by omega)]; omega, ih (by omega) _ ⟨by omega, i2.tr (Fr.wr (frO_a (by simp) _)), fun j q3 q4 => ?_, fun j q3 => ?_⟩⟩
    · rw [wr_at]
      by_cases q5 : j = k - 1
      · rw [if_pos ⟨rfl, q5⟩, i4 _ (by omega), q5, show k - 1 + 1 = k by omega]
      · rw [if_neg (fun z => q5 z.2)]; exact i3 j q3 (by omega)
    · rw [wr_nk _ (by omega)]; exact i4 j (by omega)
theorem c_Draft_makeNormal {t : Tr} (h : DrIs σ a c (cC t)) (ht : okw t) : WMv E m_Draft_makeNormal (d + 3) [aP a] σ (fun τ => Fr (dX a c) σ τ ∧ DrIs τ a c (cC (nrm t))) := by
  refine e_Draft_makeNormal _ ?_
  have key : ∀ (s : List Int × List Tr × St), ((∀ u ∈ s.2.1, okw u) ∧ Fr (dX a c) σ s.2.2 ∧ DrIs s.2.2 a c (s.1 ++ cF s.2.1) ∧ s.1 ++ cF (s.2.1.map nrm) = cC (nrm t)) → WP E m_Draft_makeNormal (d + 3) 2 [(0, aP a), (1, aI s.1.length)] [] s.2.2 (fun r τ => r = none ∧ σ.2 <+: τ.2 ∧ Fr (dX a c) σ τ ∧ DrIs τ a c (cC (nrm t))) := by
    refine lpx (fun s => (cF s.2.1).length) _ _ (fun s hI ih => ?_)
    obtain ⟨A, ts, τ⟩ := s
    obtain ⟨i1, i2, i3, i4⟩ := hI
    simp only at i1 i2 i3 i4 ih ⊢
    have hl : (A ++ cF ts).length = A.length + (cF ts).length := by simp
    have h1 := i3.2.1
    have h24 := i3.2.2.2.1
    refine b_Draft_makeNormal_2 _ _ ⟨i3.1.2.1, by omega, by omega, fun q => ⟨rfl, pre_eq i2.1, i2, ?_⟩, fun q => ?_⟩
    · have e : cF (ts.map nrm) = cF ts := by
        cases ts with
        | nil => rfl
        | cons u us =>
          have hu := i1 u List.mem_cons_self
          have hus := cF_len (fun w hw => i1 w (List.mem_cons_of_mem _ hw) : ∀ w ∈ us, okw w)
          have hp := cC_pos hu
          have hcl : (cF (u :: us)).length = (cC u).length + (cF us).length := by rw [cF_cons, List.length_append]
          have hun : us = [] := List.eq_nil_of_length_eq_zero (by omega)
          subst hun
          have h0 : (cF ([] : List Tr)).length = 0 := rfl
          have h1u : (cC u).length = 1 := by omega
          cases u with
          | var l => rfl
          | pow w l => have := cC_pos hu.1; simp [cC] at h1u; rw [h1u] at this; simp at this
          | mul x z => have := cC_pos hu.1; simp [cC] at h1u; rw [h1u.1] at this; simp at this
          | add x z => have := cC_pos hu.1; simp [cC] at h1u; rw [h1u.1] at this; simp at this
          | _ => exact absurd hu (by simp [okw])
      rw [e] at i4
      rw [← i4]
      exact i3
    · cases ts with
      | nil => have h0 : (cF ([] : List Tr)).length = 0 := rfl; omega
      | cons u0 us =>
        have hus : ∀ w ∈ us, okw w := fun w hw => i1 w (List.mem_cons_of_mem _ hw)
        have hu0 := i1 u0 List.mem_cons_self
        have inner : ∀ (v : Nat × Tr × St), (okw v.2.1 ∧ nrm v.2.1 = nrm u0 ∧ (cC v.2.1).length = (cC u0).length ∧ v.1 + spJ v.2.1 + 1 ≤ (cC u0).length ∧ Fr (dX a c) σ v.2.2 ∧ DrIs v.2.2 a c (A ++ cF (v.2.1 :: us))) → WP E m_Draft_makeNormal (d + 3) 14 [(0, aP a), (1, aI A.length), (2, aI v.1)] [] v.2.2 (fun r τ => r = none ∧ σ.2 <+: τ.2 ∧ Fr (dX a c) σ τ ∧ DrIs τ a c (cC (nrm t))) := by
          refine lpx (fun v => spJ v.2.1) _ _ (fun v hJ ih2 => ?_)
          obtain ⟨n, u, υ⟩ := v
          obtain ⟨j1, j2, j3, j4, j5, j6⟩ := hJ
          simp only at j1 j2 j3 j4 j5 j6 ih2 ⊢
          have hlu : (A ++ cF (u :: us)).length = A.length + (cC u).length + (cF us).length := by rw [cF_cons]; simp; omega
          have hlu0 : (cF (u0 :: us)).length = (cC u0).length + (cF us).length := by rw [cF_cons]; simp
          have g1 := j6.2.1
          have g2 := j6.2.2.1
          have e1 : cF (u :: us) = sy u :: cF (chC u ++ us) := by rw [cF_cons, cC_sy j1, cF_app]; rfl
          have hr := sy_r j1
          have r0 : υ.1 c A.length = sy u := by
            have z := (At.cons.mp (by have z := (At.app.mp g2).2; rw [e1] at z; exact z)).1
            rw [show (0 : Int) + A.length = A.length by omega] at z
            exact z
          have hsv := j6.1
          -- where this place is as it should be
          have done : cC (nrm u) = sy u :: cF ((chC u).map nrm) → WP E m_Draft_makeNormal (d + 3) 62 [(0, aP a), (1, aI A.length)] [] υ (fun r τ => r = none ∧ σ.2 <+: τ.2 ∧ Fr (dX a c) σ τ ∧ DrIs τ a c (cC (nrm t))) := by
            intro hd
            refine b_Draft_makeNormal_62 _ _ ?_
            have h9 := ih (A ++ [sy u], chC u ++ us, υ) (by
              show (cF (chC u ++ us)).length < (cF (u0 :: us)).length
              have z := congrArg List.length e1
              rw [cF_cons, List.length_append, List.length_cons] at z
              omega) ⟨fun w hw => (List.mem_append.mp hw).elim (chC_ok j1 w) (hus w), j5, by show DrIs υ a c (A ++ [sy u] ++ cF (chC u ++ us)); rw [List.append_assoc, List.singleton_append, ← e1]; exact j6, by
              show A ++ [sy u] ++ cF ((chC u ++ us).map nrm) = cC (nrm t)
              rw [← i4, List.map_append, cF_app, List.map_cons, cF_cons, ← j2, hd]
              simp⟩
            simp only [List.length_append, List.length_cons, List.length_nil] at h9
            rw [show (A.length : Int) + 1 = ((A.length + (0 + 1) : Nat) : Int) by omega]
            exact h9
          have g24 := j6.2.2.2.1
          refine b_Draft_makeNormal_14 _ _ _ ⟨hsv.2.1, by omega, by omega, fun q2 => by omega, fun q2 => ⟨hsv.2.1, by rw [hsv.2.2.1]; exact ⟨_, hsv.2.2.2, by omega, by omega, by omega⟩, ?_⟩⟩
          rw [hsv.2.2.1, r0]
          refine wmi_p (c_S_isJoint (by omega)) ⟨b2i_r _, fun c3 => ?_, fun c3 => ?_⟩
          · rw [b2i_0] at c3
            rcases rot j1 with ⟨z, -⟩ | ⟨z, -⟩
            · exact absurd z c3
            · exact done z
          · rw [b2i_n0] at c3
            rw [hsv.2.2.1]
            have hnx : ∀ y R, A ++ cF (u :: us) = A ++ (sy u :: y :: R) → υ.1 c (A.length + 1) = y := by
              intro y R hy
              rw [hy] at g2
              have z := (At.cons.mp (At.cons.mp (At.app.mp g2).2).2).1
              rw [show (0 : Int) + A.length + 1 = A.length + 1 by omega] at z
              exact z
            rcases rot j1 with ⟨-, p, q', r', u', e2, e3, w1, w2, w3, w4⟩ | ⟨z1, z2⟩
            · have e4 : A ++ cF (u :: us) = A ++ (sy u :: sy u :: (cC p ++ (cC q' ++ cC r' ++ cF us))) := by rw [cF_cons, e2]; simp
              have v1 := hnx _ _ e4
              have hlen2 := congrArg List.length e2
              simp only [List.length_cons, List.length_append] at hlen2
              have hlen3 := congrArg List.length e3
              simp only [List.length_cons, List.length_append] at hlen3
              rw [r0, v1]
              refine ⟨hsv.2.1, ⟨_, hsv.2.2.2, by omega, by omega, by omega⟩, hsv.2.1, ⟨_, hsv.2.2.2, by omega, by omega, by omega⟩, by omega, by omega, fun q4 => absurd rfl q4, fun q4 => ⟨hsv.2.1, ?_⟩⟩
              rw [e4] at j6
              refine WMv.mono (c_Draft_openBrackets j6 w1) (fun υ2 hp2 hq2 => ?_)
              have e5 : A ++ (sy u :: (cC p ++ sy u :: (cC q' ++ cC r' ++ cF us))) = A ++ cF (u' :: us) := by rw [cF_cons, e3]; simp
              rw [e5] at hq2
              have h9 := ih2 (n + 1, u', υ2) (by show spJ u' < spJ u; omega) ⟨w2, by rw [w3]; exact j2, by show (cC u').length = _; omega, by show n + 1 + spJ u' + 1 ≤ _; omega, j5.tr hq2.1, hq2.2⟩
              rw [show (n : Int) + 1 = ((n + 1 : Nat) : Int) by omega]
              exact h9
            · obtain ⟨x, R, z3, z4⟩ := z2 c3
              have hx : okw x := chC_ok j1 x (by rw [z3]; simp)
              have hxr := sy_r hx
              have e4 : A ++ cF (u :: us) = A ++ (sy u :: sy x :: (cF (chC x) ++ cF R ++ cF us)) := by rw [e1, z3, List.cons_append, cF_cons, cC_sy hx, cF_app]; simp
              have v1 := hnx _ _ e4
              have hl4 := congrArg List.length e4
              simp only [List.length_append, List.length_cons] at hl4 hlu
              rw [r0, v1]
              exact ⟨hsv.2.1, ⟨_, hsv.2.2.2, by omega, by omega, by omega⟩, hsv.2.1, ⟨_, hsv.2.2.2, by omega, by omega, by omega⟩, by omega, by omega, fun q4 => done z1, fun q4 => absurd q4 z4⟩
        have hsp := spJ_lt hu0
        exact inner (0, u0, τ) ⟨hu0, rfl, rfl, by show 0 + spJ u0 + 1 ≤ _; omega, i2, i3⟩
  exact key ([], [t], σ) ⟨by simpa using ht, Fr.refl _ _, by simpa [cF] using h, by simp [cF]⟩
end CNorm
