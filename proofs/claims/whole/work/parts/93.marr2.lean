def sp_arrange (T : Tb) (M : Mo) (l s : Int) : Option Mo := match lnAt M l with
  | none => none
  | some L => match sqIn L s with
    | none => none
    | some t => if so t ≤ 6 then match bstO T M t with
        | none => none
        | some b => if rc 0 t = rc 0 b then none else some (setSq M l s L b)
      else none
def sp_ways (M : Mo) (l s : Int) : Int := match sqAt M l s with
  | none => -1
  | some t => if so t ≤ 6 then (if so t = 1 then 1 else 2 * ((fF (so t)).length : Int)) else -2
def sp_best (T : Tb) (M : Mo) (l s w : Int) : Int := match sqAt M l s with
  | none => -1
  | some t => if 0 ≤ w ∧ w ≤ 1 then (if so t ≤ 6 then tm (Rat.divInt M.1 (gr T M ((bstO T M t).getD t))) w else -2) else -1
def sp_bestText (T : Tb) (M : Mo) (l s i : Int) : Int := match sqAt M l s with
  | none => -1
  | some t => if -1 ≤ i then (if so t ≤ 6 then tdT (tx 0 ((bstO T M t).getD t)) i else -2) else -1
def sp_joined (T : Tb) (M : Mo) (l s w : Int) : Int := match sqAt M l s, sqAt M l (s + 1) with
  | some t, some u => if 0 ≤ w ∧ w ≤ 1 then (if sg t + sg u ≤ 10 then tm (Rat.divInt M.1 (gr T M (jn t u))) w else -2) else -1
  | _, _ => -1
def arX : List (Int × Int) := (69, -1) :: (70, -1) :: (71, -1) :: actX
section MArr2
variable {E : EV} {d : Nat} {σ : St} {T : Tb} {M : Mo} {P : List Mo} {tp : List Int}
theorem c_M_best {l s w : Int} (h : RS σ T M P tp) (hk : okD T M P tp) (hfm : FmOK σ) (h1 : rI l) (h2 : rI s) (h3 : rI w) : WMi E m_M_best (d + 5) [aP 42, aI l, aI s, aI w] σ (fun r τ => r = sp_best T M l s w ∧ Fr lbX σ τ ∧ FmOK τ) := by
  have hF := h.1.1
  have hkM := hk.2.1
  unfold sp_best
  refine e_M_best _ _ _ hF (wmi_p (c_M_isSquare' h hkM h1 h2) ⟨hF, b2i_r _, fun c => ?_, fun c => wmi_p (c_M_in h3 (by decide) (by decide)) ⟨hF, b2i_r _, fun c2 => ?_, fun c2 => ?_⟩⟩)
  · rw [b2i_0] at c
    refine ⟨_, rfl, List.prefix_refl _, ?_, Fr.refl _ _, hfm⟩
    cases hs : sqAt M l s with
    | none => rfl
    | some t => exact absurd (by simp [hs]) c
  · rw [b2i_n0] at c c2
    obtain ⟨t, ht⟩ := Option.isSome_iff_exists.mp c
    rw [ht]
    dsimp only
    rw [if_pos c2]
    refine WMi.mono (c_M_laysBest h hk hfm ht) (fun r τ hp hq => ?_)
    obtain ⟨f1, fo, hr⟩ := hq
    have hT := h.lb f1
    have h0 : τ.1 47 0 = M.1 := hT.1.2.2.1
    have hM1 := hkM.1
    by_cases h6 : so t ≤ 6
    · rw [if_pos h6] at hr ⊢
      obtain ⟨rfl, b, hb, hbk, hB⟩ := hr
      have hg := gr_b hk.1 hkM hbk
      have hbg : τ.1 42 42 = gr T M b := hB.2.1
      rw [h0, hbg, hb]
      refine ⟨hT.1.1, by decide, fun _ => ⟨by omega, by omega, WMv.mono (c_M_tells hT.1.1 (by omega) (by omega)) (fun ω hp3 hq3 => ?_)⟩, fun q => absurd q (by decide)⟩
      have hW := hq3.1.fix hT.1.1 (by decide)
      refine ⟨hW, wml_p (c_M_term hW h3) ⟨_, rfl, hp.trans hp3, ?_, f1.tr (hq3.1.mono (by decide)), Or.inl (fo.keep hq3.1 (fun _ => rfl) (fun _ => rfl) (fun _ => rfl))⟩⟩
      rw [hq3.2.1, hq3.2.2]
      rfl
    · rw [if_neg h6] at hr ⊢
      subst hr
      exact ⟨hT.1.1, by decide, fun q => absurd rfl q, fun _ => ⟨_, rfl, hp, rfl, f1, Or.inl fo⟩⟩
  · rw [b2i_0] at c2
    refine ⟨_, rfl, List.prefix_refl _, ?_, Fr.refl _ _, hfm⟩
    cases hs : sqAt M l s with
    | none => rfl
    | some t => dsimp only; rw [if_neg c2]
theorem c_M_bestText {l s i : Int} (h : RS σ T M P tp) (hk : okD T M P tp) (hfm : FmOK σ) (h1 : rI l) (h2 : rI s) (h3 : rI i) : WMi E m_M_bestText (d + 5) [aP 42, aI l, aI s, aI i] σ (fun r τ => r = sp_bestText T M l s i ∧ Fr lbX σ τ ∧ FmOK τ) := by
  have hF := h.1.1
  have hkM := hk.2.1
  unfold sp_bestText
  refine e_M_bestText _ _ _ hF (wmi_p (c_M_isSquare' h hkM h1 h2) ⟨hF, b2i_r _, fun c => ?_, fun c => ⟨h3, fun c2 => ?_, fun c2 => ?_⟩⟩)
  · rw [b2i_0] at c
    refine ⟨_, rfl, List.prefix_refl _, ?_, Fr.refl _ _, hfm⟩
    cases hs : sqAt M l s with
    | none => rfl
    | some t => exact absurd (by simp [hs]) c
  · rw [b2i_n0] at c
    obtain ⟨t, ht⟩ := Option.isSome_iff_exists.mp c
    rw [ht]
    dsimp only
    rw [if_pos c2]
    refine WMi.mono (c_M_laysBest h hk hfm ht) (fun r τ hp hq => ?_)
    obtain ⟨f1, fo, hr⟩ := hq
    have hT := h.lb f1
    by_cases h6 : so t ≤ 6
    · rw [if_pos h6] at hr ⊢
      obtain ⟨rfl, b, hb, hbk, hB⟩ := hr
      obtain ⟨-, -, -, b5, b6⟩ := hB
      have htl := tx_len hbk.1 0
      have h10 := hbk.2.1
      rw [b5, hb]
      have ed : (some b).getD t = b := rfl
      rw [ed]
      unfold tdT
      refine ⟨hT.1.1, by decide, fun _ => ⟨h3, fun c3 => ⟨h3, by omega, fun c4 => ⟨_, rfl, hp, ?_, f1, Or.inl fo⟩, fun c4 => ⟨by omega, ⟨_, rfl, hp, ?_, f1, Or.inl fo⟩⟩⟩, fun c3 => ⟨_, rfl, hp, ?_, f1, Or.inl fo⟩⟩, fun q => absurd q (by decide)⟩
      · rw [if_neg c3, if_neg (by omega)]
      · rw [if_neg c3, if_pos (by omega), b6.get (k := i) (by omega) (by omega)]
        rw [show (i - 0).toNat = i.toNat by omega]
      · rw [if_pos c3]
    · rw [if_neg h6] at hr ⊢
      subst hr
      exact ⟨hT.1.1, by decide, fun q => absurd rfl q, fun _ => ⟨_, rfl, hp, rfl, f1, Or.inl fo⟩⟩
  · refine ⟨_, rfl, List.prefix_refl _, ?_, Fr.refl _ _, hfm⟩
    cases hs : sqAt M l s with
    | none => rfl
    | some t => dsimp only; rw [if_neg c2]
theorem c_M_ways {l s : Int} (h : RS σ T M P tp) (hk : okD T M P tp) (hfm : FmOK σ) (h1 : rI l) (h2 : rI s) : WMi E m_M_ways (d + 4) [aP 42, aI l, aI s] σ (fun r τ => r = sp_ways M l s ∧ Fr lbX σ τ ∧ FmOK τ) := by
  have hF := h.1.1
  have hkM := hk.2.1
  unfold sp_ways
  refine e_M_ways _ _ hF (wmi_p (c_M_isSquare' h hkM h1 h2) ⟨hF, b2i_r _, fun c => ?_, fun c => ?_⟩)
  · rw [b2i_n0] at c
    obtain ⟨t, ht⟩ := Option.isSome_iff_exists.mp c
    obtain ⟨a1, a2, a3, a4, a5, a6, a7⟩ := h.1.2.2.sq hkM ht
    have h10 := a5.2.1
    have hso1 := so_pos a5.1
    have hsol := so_le t
    rw [ht]
    dsimp only
    refine WMv.mono (c_M_laysAllForms hF hfm) (fun τ1 p1 q1 => ?_)
    have g1 := h.lb (q1.1.mono (by decide))
    refine ⟨g1.1.1, WMv.mono (c_M_takes' g1 hkM ht) (fun τ2 p2 q2 => ?_)⟩
    have g2 := g1.scr (q2.1.mono (by decide))
    refine ⟨g2.1.1, WMv.mono (c_M_laysItems g2.1.1 q2.2 a5.1 h10) (fun τ3 p3 q3 => ?_)⟩
    obtain ⟨f3, n3, it3⟩ := q3
    have g3 := g2.scr (f3.mono (by decide))
    have fo3 : FormsOK τ3 := (q1.2.keep q2.1 (fun _ => rfl) (fun _ => rfl) (fun _ => rfl)).keep f3 (fun _ => rfl) (fun _ => rfl) (fun _ => rfl)
    have fr3 : Fr lbX σ τ3 := ((q1.1.mono (by decide)).tr (q2.1.mono (by decide))).tr (f3.mono (by decide))
    rw [n3]
    refine ⟨g3.1.1, by omega, fun c2 => ⟨by omega, fun c3 => ⟨by omega, ⟨_, rfl, pre_eq fr3.1, ?_, fr3, Or.inl fo3⟩⟩, fun c3 => ⟨_, rfl, pre_eq fr3.1, ?_, fr3, Or.inl fo3⟩⟩, fun c2 => ⟨_, rfl, pre_eq fr3.1, ?_, fr3, Or.inl fo3⟩⟩
    · rw [if_pos (by omega), if_neg (by omega), (fo3 (so t) (by omega) (by omega)).1]
    · rw [if_pos (by omega), if_pos (by omega)]
    · rw [if_neg (by omega)]
  · rw [b2i_0] at c
    refine ⟨_, rfl, List.prefix_refl _, ?_, Fr.refl _ _, hfm⟩
    cases hs : sqAt M l s with
    | none => rfl
    | some t => exact absurd (by simp [hs]) c
theorem c_M_joined {l s w : Int} (h : RS σ T M P tp) (hk : okD T M P tp) (h1 : rI l) (h2 : rI s) (h3 : rI w) : WMi E m_M_joined (d + 5) [aP 42, aI l, aI s, aI w] σ (fun r τ => r = sp_joined T M l s w ∧ Fr scr σ τ) := by
  have hF := h.1.1
  have hkM := hk.2.1
  unfold sp_joined
  refine e_M_joined _ _ _ hF (wmi_p (c_M_isSquare' h hkM h1 h2) ⟨hF, b2i_r _, fun c => ?_, fun c => ?_⟩)
  · rw [b2i_0] at c
    refine ⟨_, rfl, List.prefix_refl _, ?_, Fr.refl _ _⟩
    cases hs : sqAt M l s with
    | none => rfl
    | some t => exact absurd (by simp [hs]) c
  · rw [b2i_n0] at c
    obtain ⟨t, ht⟩ := Option.isSome_iff_exists.mp c
    obtain ⟨a1, a2, a3, a4, a5, a6, a7⟩ := h.1.2.2.sq hkM ht
    refine wmi_p (c_M_isSquare' h hkM h1 (s := s + 1) (by omega)) ⟨hF, b2i_r _, fun c2 => ?_, fun c2 => ?_⟩
    · rw [b2i_0] at c2
      refine ⟨_, rfl, List.prefix_refl _, ?_, Fr.refl _ _⟩
      rw [ht]
      cases hs : sqAt M l (s + 1) with
      | none => rfl
      | some t => exact absurd (by simp [hs]) c2
    · rw [b2i_n0] at c2
      obtain ⟨u, hu⟩ := Option.isSome_iff_exists.mp c2
      obtain ⟨b1, b2, b3, b4, b5, b6, b7⟩ := h.1.2.2.sq hkM hu
      rw [ht, hu]
      dsimp only
      refine wmi_p (c_M_in h3 (by decide) (by decide)) ⟨hF, b2i_r _, fun c3 => ?_, fun c3 => ?_⟩
      · rw [b2i_n0] at c3
        rw [if_pos c3]
        refine WMi.mono (c_M_joins h hkM ht hu) (fun r τ hp hq => ?_)
        obtain ⟨f1, hr⟩ := hq
        have hT := h.scr f1
        by_cases h10 : sg t + sg u ≤ 10
        · rw [if_pos h10] at hr ⊢
          obtain ⟨rfl, hO⟩ := hr
          have hjk : okS T (jn t u) := ⟨jn_ok a5.1 b5.1, by rw [jn_sg]; exact h10, by rw [jn_dcp]; have := a5.2.2.1; have := b5.2.2.1; omega, jn_tok a5.2.2.2 b5.2.2.2⟩
          have hjl := rc_len2 hjk.1 0
          have hj10 := hjk.2.1
          have hg := gr_b hk.1 hkM hjk
          have hM1 := hkM.1
          refine ⟨hT.1.1, by decide, fun _ => ?_, fun q => absurd q (by decide)⟩
          rw [hO.1]
          have fw : Fr scr τ (wr τ 42 10 (rc 0 (jn t u)).length) := Fr.wr (frO_k (by decide))
          have hOw : At ((wr τ 42 10 (rc 0 (jn t u)).length).1 51) 0 (rc 0 (jn t u)) := hO.2.congr (fun i hi => wr_na _ (by decide))
          have hsw : (wr τ 42 10 (rc 0 (jn t u)).length).1 42 10 = (rc 0 (jn t u)).length := wr_same _ _ _ _
          have f2 := f1.tr fw
          generalize wr τ 42 10 (rc 0 (jn t u)).length = υ at *
          have key : ∀ z : Nat × St, (z.1 ≤ (rc 0 (jn t u)).length ∧ Fr [(50, -1)] υ z.2 ∧ At (z.2.1 50) 0 ((rc 0 (jn t u)).take z.1)) → WP E m_M_joined (d + 5) 54 [(0, aP 42), (3, aI w), (4, aI z.1)] [] z.2 (fun r τ => ∃ v, r = some (aI v) ∧ σ.2 <+: τ.2 ∧ v = tm (Rat.divInt M.1 (gr T M (jn t u))) w ∧ Fr scr σ τ) := by
            refine lpx (fun z => (rc 0 (jn t u)).length - z.1) _ _ (fun z hI ih => ?_)
            obtain ⟨k, ψ⟩ := z
            obtain ⟨i1, i2, i3⟩ := hI
            simp only at i1 i2 i3 ih ⊢
            have f3 : Fr scr σ ψ := f2.tr (i2.mono (by decide))
            have hP := h.scr f3
            have hs3 : ψ.1 42 10 = (rc 0 (jn t u)).length := (i2.2 _ _ rfl).trans hsw
            have h0 : ψ.1 47 0 = M.1 := hP.1.2.2.1
            refine b_M_joined_54 _ _ hP.1.1 ⟨by omega, by rw [hs3]; omega, fun c4 => ?_, fun c4 => ⟨by rw [hs3] at c4; omega, by rw [hs3] at c4; omega, ?_⟩⟩
            · rw [hs3] at c4
              rw [List.take_of_length_le (by omega)] at i3
              rw [h0]
              refine ⟨by omega, WMi.mono (c_M_greatest' hP hk.1 hkM ⟨hs3, i3⟩ hjk) (fun r χ hp2 hq2 => ?_)⟩
              obtain ⟨f4, m4, rfl⟩ := hq2
              have hX := hP.scr (f4.mono (by decide))
              refine ⟨hX.1.1, by omega, WMv.mono (c_M_tells hX.1.1 (by omega) (by omega)) (fun ω hp3 hq3 => ?_)⟩
              have hW := hq3.1.fix hX.1.1 (by decide)
              have f5 : Fr scr σ ω := (f3.tr (f4.mono (by decide))).tr (hq3.1.mono (by decide))
              refine ⟨hW, wml_p (c_M_term hW h3) ⟨_, rfl, pre_eq f5.1, ?_, f5⟩⟩
              rw [hq3.2.1, hq3.2.2]
              rfl
            · rw [hs3] at c4
              have hkl : k < (rc 0 (jn t u)).length := by omega
              have h9 := ih (k + 1, wr ψ 50 k (ψ.1 51 k)) (by show (rc 0 (jn t u)).length - (k + 1) < (rc 0 (jn t u)).length - k; omega) ⟨by show k + 1 ≤ _; omega, i2.tr (Fr.wr (frO_a (by decide) _)), ?_⟩
              · simp only at h9
                rw [show ((k + 1 : Nat) : Int) = (k : Int) + 1 by omega] at h9
                exact h9
              · show At ((wr ψ 50 k (ψ.1 51 k)).1 50) 0 ((rc 0 (jn t u)).take (k + 1))
                have hlt : ((rc 0 (jn t u)).take k).length = k := by rw [List.length_take]; omega
                have hg2 := hOw.get (k := k) (by omega) (by omega)
                rw [show ((k : Int) - 0).toNat = k by omega] at hg2
                rw [take_succ_getD hkl]
                refine i3.push ?_ (fun i hi => ?_)
                · rw [hlt, wr_same, i2.2 _ _ rfl]; exact hg2
                · rw [hlt] at hi
                  exact wr_nk _ hi
          exact key (0, υ) ⟨Nat.zero_le _, Fr.refl _ _, At.nil _ _⟩
        · rw [if_neg h10] at hr ⊢
          subst hr
          exact ⟨hT.1.1, by decide, fun q => absurd rfl q, fun _ => ⟨_, rfl, hp, rfl, f1⟩⟩
      · rw [b2i_0] at c3
        exact ⟨_, rfl, List.prefix_refl _, by rw [if_neg c3], Fr.refl _ _⟩
theorem c_M_arrange {l s : Int} (h : RS σ T M P tp) (hk : okD T M P tp) (hfm : FmOK σ) (h1 : rI l) (h2 : rI s) : WMi E m_M_arrange (d + 5) [aP 42, aI l, aI s] σ (fun r τ => (match sp_arrange T M l s with | none => r = 0 ∧ Fr lbX σ τ | some M' => r = 1 ∧ Fr arX σ τ ∧ RS τ T M' (push P M) tp) ∧ FmOK τ) := by
  have hF := h.1.1
  have hkM := hk.2.1
  refine e_M_arrange _ _ hF (wmi_p (c_M_isSquare' h hkM h1 h2) ⟨hF, b2i_r _, fun c => ?_, fun c => ?_⟩)
  · rw [b2i_0] at c
    have : sp_arrange T M l s = none := by
      unfold sp_arrange
      cases hl : lnAt M l with
      | none => rfl
      | some L =>
        cases hs : sqIn L s with
        | none => simp [hs]
        | some t => exact absurd (by simp [sqAt, hl, hs]) c
    rw [this]
    exact ⟨_, rfl, List.prefix_refl _, ⟨rfl, Fr.refl _ _⟩, hfm⟩
  · rw [b2i_n0] at c
    obtain ⟨t, ht⟩ := Option.isSome_iff_exists.mp c
    obtain ⟨L, hl, hs⟩ := sqAt_some ht
    obtain ⟨a1, a2, a3, a4, a5, a6, a7⟩ := h.1.2.2.sq hkM ht
    refine WMi.mono (c_M_laysBest h hk hfm ht) (fun r τ hp hq => ?_)
    obtain ⟨f1, fo, hr⟩ := hq
    have hT := h.lb f1
    by_cases h6 : so t ≤ 6
    · rw [if_pos h6] at hr
      obtain ⟨rfl, b, hb, hbk, hB⟩ := hr
      have esp : sp_arrange T M l s = if rc 0 t = rc 0 b then none else some (setSq M l s L b) := by
        unfold sp_arrange
        rw [hl]
        dsimp only
        rw [hs]
        dsimp only
        rw [if_pos h6, hb]
      rw [esp]
      have hbl := rc_len2 hbk.1 0
      have hb10 := hbk.2.1
      have hbn := rc_nod hbk.1 (by omega) 0
      refine ⟨hT.1.1, by decide, fun _ => WMv.mono (c_M_takes' hT hkM ht) (fun υ hp2 hq2 => ?_), fun q => absurd q (by decide)⟩
      have hU := hT.scr (hq2.1.mono (by decide))
      have f2 : Fr lbX σ υ := f1.tr (hq2.1.mono (by decide))
      have foU : FormsOK υ := fo.keep hq2.1 (fun _ => rfl) (fun _ => rfl) (fun _ => rfl)
      have hBU : BstIs υ T M (some b) := hB.keep hq2.1 (fun j => ⟨rfl, rfl⟩) ⟨rfl, rfl, rfl, rfl⟩
      obtain ⟨⟨s1, s2⟩, -⟩ := hBU
      have R2 := hq2.2
      -- whether they are alike
      have fin : ∀ v : Int, (v = 1 ∧ rc 0 t = rc 0 b) ∨ (v = 0 ∧ rc 0 t ≠ rc 0 b) → WP E m_M_arrange (d + 5) 88 [(0, aP 42), (1, aI l), (2, aI s), (3, aI v)] [] υ (fun r τ => ∃ v, r = some (aI v) ∧ σ.2 <+: τ.2 ∧ (match (if rc 0 t = rc 0 b then none else some (setSq M l s L b)) with | none => v = 0 ∧ Fr lbX σ τ | some M' => v = 1 ∧ Fr arX σ τ ∧ RS τ T M' (push P M) tp) ∧ FmOK τ) := by
        intro v hv
        refine b_M_arrange_88 _ _ _ hU.1.1 ⟨by omega, fun c2 => ?_, fun c2 => ?_⟩
        · have hne : rc 0 t ≠ rc 0 b := by rcases hv with q | q; omega; exact q.2
          rw [if_neg hne]
          dsimp only
          refine WMv.mono (c_M_keeps hU hk) (fun ψ hp3 hq3 => ?_)
          have hP := hq3.2
          refine ⟨hP.1.1, WMv.mono (c_M_opens hP.1.1) (fun χ hp4 hq4 => ?_)⟩
          have hX := hq4.1.fix hP.1.1 (by decide)
          have hbs : χ.1 42 41 = (rc 0 b).length := (hq4.1.2 _ _ rfl).trans ((hq3.1.2 _ _ rfl).trans s1)
          have hbr : At (χ.1 74) 0 (rc 0 b) := s2.congr (fun i hi => (hq4.1.2 _ _ rfl).trans (hq3.1.2 _ _ rfl))
          rw [hbs]
          refine ⟨hX, WMv.mono (c_M_addsAll (K := []) (L := rc 0 b) hX hq4.2 (by simp; omega) hbr (by omega) (by omega) (by decide) ⟨24, sf_74 hX, by omega⟩) (fun ω hp5 hq5 => ?_)⟩
          have hW := hq5.1.fix hX (by decide)
          rw [List.nil_append] at hq5
          refine ⟨hW, WMv.mono (c_M_lays hW a1 a2 hq5.2 (by omega)) (fun ζ hp6 hq6 => ?_)⟩
          have fz : Fr arX σ ζ := ((((f2.mono (by decide)).tr (hq3.1.mono (by decide))).tr (hq4.1.mono (by decide))).tr (hq5.1.mono (by decide))).tr (hq6.1.mono (by decide))
          refine ⟨_, rfl, pre_eq fz.1, ⟨rfl, fz, ?_⟩, ?_⟩
          · refine hP.nowN (((hq4.1.mono (by decide)).tr (hq5.1.mono (by decide))).tr (hq6.1.mono (by decide))) (MoAt_setSq hP.1.2.2 hkM hl hs (fun k hk2 => (hq6.2.2.2 k hk2).trans ((hq5.1.2 _ _ rfl).trans (hq4.1.2 _ _ rfl))) ⟨hq6.2.1, hq6.2.2.1⟩)
          · exact Or.inl ((((foU.keep hq3.1 (fun _ => rfl) (fun _ => rfl) (fun _ => rfl)).keep hq4.1 (fun _ => rfl) (fun _ => rfl) (fun _ => rfl)).keep hq5.1 (fun _ => rfl) (fun _ => rfl) (fun _ => rfl)).keep hq6.1 (fun _ => rfl) (fun _ => rfl) (fun _ => rfl))
        · have he : rc 0 t = rc 0 b := by rcases hv with q | q; exact q.2; omega
          rw [if_pos he]
          exact ⟨_, rfl, pre_eq f2.1, ⟨rfl, f2⟩, Or.inl foU⟩
      have key : ∀ z : Nat × Int, (z.1 ≤ (rc 0 t).length ∧ ((z.2 = 1 ∧ (rc 0 t).length = (rc 0 b).length ∧ (rc 0 t).take z.1 = (rc 0 b).take z.1) ∨ (z.2 = 0 ∧ rc 0 t ≠ rc 0 b))) → WP E m_M_arrange (d + 5) 46 [(0, aP 42), (1, aI l), (2, aI s), (3, aI z.2), (4, aI z.1)] [] υ (fun r τ => ∃ v, r = some (aI v) ∧ σ.2 <+: τ.2 ∧ (match (if rc 0 t = rc 0 b then none else some (setSq M l s L b)) with | none => v = 0 ∧ Fr lbX σ τ | some M' => v = 1 ∧ Fr arX σ τ ∧ RS τ T M' (push P M) tp) ∧ FmOK τ) := by
        refine lpx (fun z => (rc 0 t).length - z.1) _ _ (fun z hI ih => ?_)
        obtain ⟨k, v⟩ := z
        obtain ⟨i1, i2⟩ := hI
        simp only at i1 i2 ih ⊢
        refine b_M_arrange_46 _ _ _ _ hU.1.1 ⟨by omega, by rw [R2.1]; omega, fun c2 => fin v ?_, fun c2 => ⟨by omega, fun c3 => fin v ?_, fun c3 => ?_⟩⟩
        · rw [R2.1] at c2
          rcases i2 with ⟨q1, q2, q3⟩ | q
          · left
            rw [List.take_of_length_le (by omega), List.take_of_length_le (by omega)] at q3
            exact ⟨q1, q3⟩
          · exact Or.inr q
        · rcases i2 with ⟨q1, -⟩ | q
          · omega
          · exact Or.inr q
        · rw [R2.1] at c2
          rcases i2 with ⟨q1, q2, q3⟩ | q
          · have hk1 : k < (rc 0 t).length := by omega
            have hk2 : k < (rc 0 b).length := by omega
            have e1 := R2.2.get (k := k) (by omega) (by omega)
            have e2 := s2.get (k := k) (by omega) (by omega)
            rw [show ((k : Int) - 0).toNat = k by omega] at e1 e2
            have b1 := a7.at R2.2 (i := k) (by omega) (by omega)
            have b2 := hbn.at s2 (i := k) (by omega) (by omega)
            refine ⟨by omega, by omega, by omega, by omega, fun c4 => b_M_arrange_81 _ _ _ _ ?_, fun c4 => b_M_arrange_81 _ _ _ _ ?_⟩
            · have h9 := ih (k + 1, 0) (by show (rc 0 t).length - (k + 1) < (rc 0 t).length - k; omega) ⟨by show k + 1 ≤ _; omega, Or.inr ⟨rfl, fun q => c4 (by rw [e1, e2, q])⟩⟩
              simp only at h9
              rw [show ((k + 1 : Nat) : Int) = (k : Int) + 1 by omega] at h9
              exact h9
            · have h9 := ih (k + 1, 1) (by show (rc 0 t).length - (k + 1) < (rc 0 t).length - k; omega) ⟨by show k + 1 ≤ _; omega, Or.inl ⟨rfl, q2, by
                show (rc 0 t).take (k + 1) = (rc 0 b).take (k + 1)
                rw [take_succ_getD hk1, take_succ_getD hk2, q3, ← e1, ← e2, c4]⟩⟩
              simp only at h9
              rw [show ((k + 1 : Nat) : Int) = (k : Int) + 1 by omega] at h9
              exact h9
          · omega
      refine ⟨hU.1.1, by rw [R2.1]; omega, by rw [s1]; omega, fun c2 => b_M_arrange_42 _ _ _ ?_, fun c2 => b_M_arrange_42 _ _ _ ?_⟩
      · rw [R2.1, s1] at c2
        exact key (0, 0) ⟨Nat.zero_le _, Or.inr ⟨rfl, fun q => c2 (by rw [q])⟩⟩
      · rw [R2.1, s1] at c2
        exact key (0, 1) ⟨Nat.zero_le _, Or.inl ⟨rfl, by omega, rfl⟩⟩
    · rw [if_neg h6] at hr
      subst hr
      have esp : sp_arrange T M l s = none := by
        unfold sp_arrange
        rw [hl]
        dsimp only
        rw [hs]
        dsimp only
        rw [if_neg h6]
      rw [esp]
      exact ⟨hT.1.1, by decide, fun q => absurd rfl q, fun _ => ⟨_, rfl, hp, ⟨rfl, f1⟩, Or.inl fo⟩⟩
end MArr2
