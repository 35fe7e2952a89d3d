/-! WHAT THE ACTS COME TO: none where nothing happens, else the moment after it -/
def sp_exchange (T : Tb) (M : Mo) (l s i c : Int) : Option Mo := match lnAt M l with
  | none => none
  | some L => match sqIn L s with
    | none => none
    | some t => if (0 ≤ i ∧ i < sg t) ∧ (0 ≤ c ∧ c ≤ 25) ∧ 0 < (T c.toNat).1 ∧ (lett (sgi t i.toNat) : Int) ≠ c ∧ (holdsT (sgi t i.toNat) = true → 0 < (T c.toNat).2.2.1) then some (setSq M l s L (rep t i.toNat (relab c.toNat (sgi t i.toNat)))) else none
/-- turned -/
def tn : Tr → Tr
  | .mul a b => .add (tn a) (tn b)
  | .add a b => .mul (tn a) (tn b)
  | t => t
def sp_turn (M : Mo) (l s : Int) : Option Mo := match lnAt M l with
  | none => none
  | some L => match sqIn L s with
    | none => none
    | some t => if isJ t then some (setSq M l s L (tn t)) else none
/-- what an act of the reference answers and leaves -/
def ActRes (σ : St) (T : Tb) (M : Mo) (P : List Mo) (tp : List Int) (o : Option Mo) (r : Int) (τ : St) : Prop := match o with
  | none => r = 0 ∧ Fr scr σ τ
  | some M' => r = 1 ∧ ActR σ T M P tp M' τ
theorem tn_isM (t : Tr) : isM (tn t) = isA t ∧ isA (tn t) = isM t := by cases t <;> simp [tn, isM, isA]
theorem tn_ok {t : Tr} (h : ok t) : ok (tn t) := by
  induction t with
  | mul a b iha ihb => exact ⟨iha h.1, ihb h.2.1, by rw [(tn_isM a).2]; exact h.2.2⟩
  | add a b iha ihb => exact ⟨iha h.1, ihb h.2.1, by rw [(tn_isM a).1]; exact h.2.2⟩
  | var l => exact h
  | pow t l ih => exact h
  | _ => exact absurd h (by simp [ok])
theorem tn_sg (t : Tr) : sg (tn t) = sg t := by
  induction t <;> simp_all [tn, sg]
theorem tn_p (t : Tr) : pA (tn t) = (pM t).map tn ∧ pM (tn t) = (pA t).map tn ∧ nA (tn t) = nM t ∧ nM (tn t) = nA t := by
  induction t <;> simp_all [tn, pA, pM, nA, nM]
theorem tn_ch {t : Tr} (hj : isJ t = true) : ch (tn t) = (ch t).map tn := by
  cases t with
  | mul a b => exact (tn_p (.mul a b)).1
  | add a b => exact (tn_p (.add a b)).2.1
  | _ => simp [isJ, isM, isA] at hj
theorem nd_j {t : Tr} (h : ok t) (h50 : sg t ≤ 50) : (200 ≤ nd t ↔ isJ t = true) ∧ (300 ≤ nd t ↔ isA t = true) := by
  cases t with
  | var l => have h2 : vN l < 26 := h
             have e : nd (.var l) = (vN l : Int) + 1 := rfl
             rw [e]; simp [isJ, isM, isA]; omega
  | pow t l => have h2 : l < 26 := h.2
               have e : nd (.pow t l) = (l : Int) + 101 := rfl
               rw [e]; simp [isJ, isM, isA]; omega
  | mul a b =>
    have e : nd (.mul a b) = (nM (.mul a b) : Int) + 200 := rfl
    have h1 := nM_le h
    rw [e]; simp [isJ, isM, isA]; omega
  | add a b =>
    have e : nd (.add a b) = (nA (.add a b) : Int) + 300 := rfl
    rw [e]; simp [isJ, isM, isA]; omega
  | _ => exact absurd h (by simp [ok])
theorem nd_tn {t : Tr} : (isM t = true → nd (tn t) = nd t + 100) ∧ (isA t = true → nd (tn t) = nd t - 100) := by
  cases t with
  | mul a b =>
    have e : nd (.mul a b) = (nM (.mul a b) : Int) + 200 := rfl
    have e2 : nd (tn (.mul a b)) = (nA (tn (.mul a b)) : Int) + 300 := rfl
    rw [e, e2, (tn_p (.mul a b)).2.2.1]
    simp [isA]; omega
  | add a b =>
    have e : nd (.add a b) = (nA (.add a b) : Int) + 300 := rfl
    have e2 : nd (tn (.add a b)) = (nM (tn (.add a b)) : Int) + 200 := rfl
    rw [e, e2, (tn_p (.add a b)).2.2.2]
    simp [isM]; omega
  | _ => simp [isM, isA]
theorem isS_tn {t : Tr} (h : ok t) (hj : isJ t = false) : isS t = true ∧ tn t = t := by
  cases t with
  | var l => exact ⟨rfl, rfl⟩
  | pow t l => exact ⟨rfl, rfl⟩
  | mul a b => simp [isJ, isM] at hj
  | add a b => simp [isJ, isA] at hj
  | _ => exact absurd h (by simp [ok])
section MTurn
variable {E : EV} {d : Nat} {σ : St} {T : Tb} {M : Mo} {P : List Mo} {tp : List Int}
theorem c_M_exchange' {l s i c : Int} (h : RS σ T M P tp) (hk : okD T M P tp) (h1 : rI l) (h2 : rI s) (h3 : rI i) (h4 : rI c) : WMi E m_M_exchange (d + 4) [aP 42, aI l, aI s, aI i, aI c] σ (fun r τ => ActRes σ T M P tp (sp_exchange T M l s i c) r τ) := by
  refine WMi.mono (c_M_exchange h hk h1 h2 h3 h4) (fun r τ _ hq => ?_)
  unfold sp_exchange
  cases hl : lnAt M l with
  | none => simp only [hl] at hq; exact hq
  | some L =>
    simp only [hl] at hq
    cases hs : sqIn L s with
    | none => simp only [hs] at hq ⊢; exact hq
    | some t =>
      simp only [hs] at hq ⊢
      split
      · rename_i hc
        rw [if_pos hc] at hq
        exact hq
      · rename_i hc
        rw [if_neg hc] at hq
        exact hq
theorem c_M_turn {l s : Int} (h : RS σ T M P tp) (hk : okD T M P tp) (h1 : rI l) (h2 : rI s) : WMi E m_M_turn (d + 3) [aP 42, aI l, aI s] σ (fun r τ => ActRes σ T M P tp (sp_turn M l s) r τ) := by
  have hF := h.1.1
  have hkM := hk.2.1
  refine e_M_turn _ _ hF (wmi_p (c_M_isSquare' h hkM h1 h2) ⟨hF, b2i_r _, fun c => ?_, fun c => ?_⟩)
  · rw [b2i_n0] at c
    obtain ⟨t, ht⟩ := Option.isSome_iff_exists.mp c
    obtain ⟨L, hl, hs⟩ := sqAt_some ht
    obtain ⟨a1, a2, a3, a4, a5, a6, a7⟩ := h.1.2.2.sq hkM ht
    have hsg := sg_pos a5.1
    have h10 := a5.2.1
    have esp : sp_turn M l s = if isJ t then some (setSq M l s L (tn t)) else none := by simp [sp_turn, hl, hs]
    rw [esp]
    refine WMv.mono (c_M_takes' h hkM ht) (fun τ hp hq => ?_)
    have hT := hq.1.fix hF (by decide)
    have hfs : Fr scr σ τ := hq.1.mono (by decide)
    have hrow := hq.2.2
    rw [rc0_nd a5.1] at hrow
    have hx := hrow.hd
    have hnd := nd_pts a5.1 (by omega)
    have hnj := nd_j a5.1 (by omega)
    refine ⟨hT, wmi_p (c_M_isSign (by rw [hx]; omega)) ⟨hT, b2i_r _, fun c2 => ?_, fun c2 => ?_⟩⟩
    · rw [b2i_0, hx] at c2
      have hj : isJ t = true := hnj.1.mp (by omega)
      rw [if_pos hj]
      refine WMv.mono (c_M_keeps (h.scr hfs) hk) (fun υ hp2 hq2 => ⟨hq2.2.1.1, WMv.mono (c_M_opens hq2.2.1.1) (fun ω hp3 hq3 => ?_)⟩)
      have hF2 := hq2.2.1.1
      -- the loop over the forest that is left
      have hR0 : RowIs υ (rc 0 t) := ⟨(hq2.1.2 _ _ rfl).trans hq.2.1, hq.2.2.congr (fun i hi => hq2.1.2 _ _ rfl)⟩
      have key : ∀ z : Int × List Tr × List Int × St, (At (υ.1 50) z.1 (fr z.2.1) ∧ (∀ u ∈ z.2.1, ok u ∧ sg u ≤ 10) ∧ 0 ≤ z.1 ∧ z.1 + (fr z.2.1).length = (rc 0 t).length ∧ z.2.2.1.length = z.1 ∧ z.2.2.1 ++ fr (z.2.1.map tn) = rc 0 (tn t) ∧ Fr [(51, -1), (42, 12)] υ z.2.2.2 ∧ OwnIs z.2.2.2 z.2.2.1) →
          WP E m_M_turn (d + 3) 41 [(0, aP 42), (1, aI l), (2, aI s), (3, aI z.1)] [] z.2.2.2 (fun r υ => ∃ v, r = some (aI v) ∧ σ.2 <+: υ.2 ∧ ActRes σ T M P tp (some (setSq M l s L (tn t))) v υ) := by
        refine lpx (fun z => (fr z.2.1).length) _ _ (fun z hI ih => ?_)
        obtain ⟨k, ts, D, ω⟩ := z
        obtain ⟨i1, i2, i3, i4, i5, i6, i7, i8⟩ := hI
        simp only at i1 i2 i3 i4 i5 i6 i7 i8 ih ⊢
        have hTo := i7.fix hF2 (by decide)
        have hsz : ω.1 42 10 = (rc 0 t).length := (i7.2 _ _ rfl).trans hR0.1
        refine b_M_turn_41 _ _ _ hTo ⟨by omega, by omega, fun c => ?_, fun c => ?_⟩
        · have h0 : ts = [] := by
            have := fr_len (fun u hu => (i2 u hu).1)
            exact List.eq_nil_of_length_eq_zero (by omega)
          subst h0
          simp [fr_nil] at i6
          subst i6
          refine WMv.mono (c_M_lays hTo a1 a2 i8 (by omega)) (fun χ hp4 hq4 => ⟨_, rfl, ?_, rfl, ?_, ?_⟩)
          · exact (hp.trans hp2).trans ((pre_eq i7.1).trans hp4)
          · exact ((hfs.mono (by decide)).tr (hq2.1.mono (by decide))).tr ((i7.mono (by decide)).tr (hq4.1.mono (by decide)))
          · refine hq2.2.nowN ((i7.mono (by decide)).tr (hq4.1.mono (by decide))) (MoAt_setSq hq2.2.1.2.2 hkM hl hs (fun k hk2 => (hq4.2.2.2 k hk2).trans (i7.2 _ _ rfl)) ⟨hq4.2.1, hq4.2.2.1⟩)
        · cases ts with
          | nil => rw [fr_nil] at i4; simp at i4; omega
          | cons u us =>
            have hu := i2 u List.mem_cons_self
            have hun := nd_pts hu.1 (by omega)
            have huj := nd_j hu.1 (by omega)
            have e1 : fr (u :: us) = nd u :: fr (ch u ++ us) := by rw [fr_cons, rc0_nd hu.1, fr_app]; rfl
            have i1' := i1
            rw [e1] at i1 i4
            obtain ⟨i9, i10⟩ := At.cons.mp i1
            have erow : ω.1 50 k = nd u := (i7.2 _ _ rfl).trans i9
            simp only [List.length_cons] at i4
            refine ⟨by omega, wmi_p (c_M_isSign (by rw [erow]; omega)) ⟨hTo, b2i_r _, fun c3 => ?_, fun c3 => ?_⟩⟩
            · rw [b2i_0, erow] at c3
              have hju : isJ u = true := huj.1.mp (by omega)
              have step : ∀ x, x = nd (tn u) → WP E m_M_turn (d + 3) 122 [(0, aP 42), (1, aI l), (2, aI s), (3, aI k)] [aI x, aP 42] ω (fun r υ => ∃ v, r = some (aI v) ∧ σ.2 <+: υ.2 ∧ ActRes σ T M P tp (some (setSq M l s L (tn t))) v υ) := by
                intro x hx2
                subst hx2
                refine b_M_turn_122 _ _ _ _ _ ⟨sf_42 hTo, WMv.mono (c_M_adds hTo i8 (by omega)) (fun χ hp4 hq4 => ih (k + 1, ch u ++ us, D ++ [nd (tn u)], χ) (by show (fr (ch u ++ us)).length < (fr (u :: us)).length; rw [e1]; simp) ⟨i10, fun w hw => ?_, by show 0 ≤ k + 1; omega, by show k + 1 + ((fr (ch u ++ us)).length : Int) = _; omega, by show ((D ++ [nd (tn u)]).length : Int) = k + 1; simp; omega, ?_, i7.tr hq4.1, hq4.2⟩)⟩
                · rcases List.mem_append.mp hw with hw | hw
                  · have := ch_ok hu.1 w hw
                    exact ⟨this.1, by omega⟩
                  · exact i2 w (List.mem_cons_of_mem _ hw)
                · show (D ++ [nd (tn u)]) ++ fr ((ch u ++ us).map tn) = rc 0 (tn t)
                  rw [← i6, List.map_cons, fr_cons, rc0_nd (tn_ok hu.1), tn_ch hju, List.map_append, fr_app]
                  simp
              refine ⟨by omega, by rw [erow]; omega, fun c4 => ⟨by omega, step _ ?_⟩, fun c4 => ⟨by omega, step _ ?_⟩⟩
              · rw [erow] at c4 ⊢
                exact (nd_tn.2 (huj.2.mp c4)).symm
              · rw [erow] at c4 ⊢
                refine (nd_tn.1 ?_).symm
                have : isA u ≠ true := fun q => c4 (huj.2.mpr q)
                simp [isJ] at hju
                simp_all
            · rw [b2i_n0, erow] at c3
              have hju : isJ u = false := by
                cases hh : isJ u with
                | false => rfl
                | true => exact absurd (huj.1.mpr hh) (by omega)
              have hus := isS_tn hu.1 hju
              rw [fr_cons] at i1'
              have hA := (At.app.mp i1').1
              have hB := (At.app.mp i1').2
              have hlen : (fr (u :: us)).length = (rc 0 u).length + (fr us).length := by rw [fr_cons]; simp
              rw [e1] at hlen
              simp only [List.length_cons] at hlen
              have hrl := (rc_len2 hu.1 0).2
              have hup := sg_pos hu.1
              have hA' : At (ω.1 50) k (rc 0 u) := hA.congr (fun i hi => i7.2 _ _ rfl)
              refine wmi_p (c_M_endOf hu.1 (by omega) hA' (by omega) ⟨24, sf_50 hTo, by omega⟩) ⟨hTo, WMv.mono (c_M_addsAll (L := rc 0 u) hTo i8 (by omega) hA' rfl (by omega) (by decide) ⟨24, sf_50 hTo, by omega⟩) (fun χ hp4 hq4 => ih (k + (rc 0 u).length, us, D ++ rc 0 u, χ) (by show (fr us).length < (fr (u :: us)).length; rw [e1]; simp; omega) ⟨hB, fun w hw => i2 w (List.mem_cons_of_mem _ hw), by show 0 ≤ k + ((rc 0 u).length : Int); omega, by show k + ((rc 0 u).length : Int) + ((fr us).length : Int) = _; omega, by show ((D ++ rc 0 u).length : Int) = k + (rc 0 u).length; simp; omega, ?_, i7.tr hq4.1, hq4.2⟩)⟩
              show (D ++ rc 0 u) ++ fr (us.map tn) = rc 0 (tn t)
              rw [← i6, List.map_cons, fr_cons, hus.2]
              simp
      exact key (0, [t], [], ω) ⟨by rw [fr_one]; exact hR0.2, by simpa using ⟨a5.1, h10⟩, Int.le_refl _, by rw [fr_one]; simp, rfl, by simp [fr_one], hq3.1.mono (by decide), hq3.2⟩
    · rw [b2i_n0, hx] at c2
      rw [if_neg (fun q => by have := hnj.1.mpr q; omega)]
      exact ⟨_, rfl, hp, rfl, hfs⟩
  · rw [b2i_0] at c
    refine ⟨_, rfl, List.prefix_refl _, ?_⟩
    have : sp_turn M l s = none := by
      unfold sp_turn
      cases hl : lnAt M l with
      | none => rfl
      | some L =>
        cases hs : sqIn L s with
        | none => simp [hs]
        | some t => exact absurd (by simp [sqAt, hl, hs]) c
    rw [this]
    exact ⟨rfl, Fr.refl _ _⟩
end MTurn
