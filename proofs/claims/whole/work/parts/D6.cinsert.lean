/-! INSERT -/
theorem dcp_rep {t v : Tr} (h : okw t) : ∀ n, n < sg t → dpS t n + dcp v ≤ dcp (rep t n v) ∧ dcp (rep t n v) ≤ max (dcp t) (dpS t n + dcp v) := by
  induction t with
  | var l => intro n hn; simp only [rep, dpS, dcp]; omega
  | pow t l ih =>
    intro n hn
    simp only [rep, dpS]
    by_cases c : n = 0
    · rw [if_pos c, if_pos c]; omega
    · rw [if_neg c, if_neg c]
      have := ih h.1 (n - 1) (by simp only [sg] at hn; omega)
      simp only [dcp]
      omega
  | mul a b iha ihb =>
    intro n hn
    simp only [rep, dpS]
    by_cases c : n < sg a
    · rw [if_pos c, if_pos c]
      have := iha h.1 n c
      simp only [dcp]
      omega
    · rw [if_neg c, if_neg c]
      have := ihb h.2 (n - sg a) (by simp only [sg] at hn; omega)
      simp only [dcp]
      omega
  | add a b iha ihb =>
    intro n hn
    simp only [rep, dpS]
    by_cases c : n < sg a
    · rw [if_pos c, if_pos c]
      have := iha h.1 n c
      simp only [dcp]
      omega
    · rw [if_neg c, if_neg c]
      have := ihb h.2 (n - sg a) (by simp only [sg] at hn; omega)
      simp only [dcp]
      omega
  | _ => exact absurd h (by simp [okw])
theorem rep_okw {t v : Tr} (h : okw t) (hv : okw v) : ∀ n, okw (rep t n v) := by
  induction t with
  | var l => intro n; exact hv
  | pow t l ih => intro n; simp only [rep]; split; exact hv; exact ⟨ih h.1 _, h.2⟩
  | mul a b iha ihb => intro n; simp only [rep]; split; exact ⟨iha h.1 _, h.2⟩; exact ⟨h.1, ihb h.2 _⟩
  | add a b iha ihb => intro n; simp only [rep]; split; exact ⟨iha h.1 _, h.2⟩; exact ⟨h.1, ihb h.2 _⟩
  | _ => exact absurd h (by simp [okw])
theorem cC_bare {u : Tr} (hs : isS u = true) (hh : ¬ holdsT u = true) : cC u = [(lett u : Int)] ∧ sy u = (lett u : Int) := by
  cases u with
  | var l => exact ⟨rfl, rfl⟩
  | pow t l => exact absurd rfl hh
  | _ => simp [isS] at hs
section CInsert
variable {E : EV} {d : Nat} {σ : St} {b : Int} {T : Tb} {M M' : Mo} {P P' : List Mo} {tp : List Int}
theorem c_S_insert {l s i : Int} (h : CS σ b T M P tp) (hT : okTab T) (hk : okMo T M) (hP : P.length ≤ 12) (h1 : rI l) (h2 : rI s) (h3 : rI i) : WMi E m_S_insert (d + 110) [aP 1, aI l, aI s, aI i] σ (CRes 12 200 σ b T M P tp (sp_insert T M l s i)) := by
  have hF := h.1.1
  have hb := h.1.2
  refine e_S_insert _ _ _ hF (WMr.mono (c_S_lineAt h hk h1) (fun r0 τ hp0 hq0 => ?_))
  obtain ⟨hq00, rfl⟩ := hq0
  refine ⟨hF, WMr.mono (c_S_squareAt h hk h1 h2) (fun r τ2 hp hq' => ?_)⟩
  obtain ⟨hq1, rfl⟩ := hq'
  refine ⟨hF, WMr.mono (c_S_squareBehind h hk h1 h2) (fun r2 τ3 hp2 hq' => ?_)⟩
  obtain ⟨hq2, rfl⟩ := hq'
  rcases sq_cases M l s with ⟨L, t, hl, hs, hst⟩ | ⟨hn, hor⟩
  · rw [hst] at hq1
    rw [hl] at hq00
    have hbh : sqBh M l s = sqIn L (s + 1) := by rw [sqBh_eq, hst]; simp [sqAt, hl]
    rw [hbh] at hq2
    have hkL := (hk.ln hl).1
    have hok := (hkL.sq hs).1
    have hcc := hok.cc
    have hsq := hq1.2
    cases hs2 : sqIn L (s + 1) with
    | none =>
      rw [hs2] at hq2
      exact ⟨hF, fun q => absurd q hq00.1, fun _ => ⟨fun q => absurd q hq1.1, fun _ => ⟨fun _ => ⟨_, rfl, List.prefix_refl _, CRes.no (by unfold sp_insert; simp only [hl, hs, hs2])⟩, fun q => absurd hq2 q⟩⟩⟩
    | some u =>
      rw [hs2] at hq2
      have hok2 := (hkL.sq hs2).1
      have hcc2 := hok2.cc
      have hsq2 := hq2.2
      have hsp : sp_insert T M l s i = if (0 ≤ i ∧ i < sg t) ∧ holdsT (sgi t i.toNat) = false ∧ 0 < (T (lett (sgi t i.toNat))).2.2.1 ∧ sg t + sg u ≤ 10 ∧ dpS t i.toNat + 1 + dcp u ≤ 3 then some (oneSq M l s L (rep t i.toNat (.pow u (lett (sgi t i.toNat))))) else none := by unfold sp_insert; simp only [hl, hs, hs2]
      have no : ¬ ((0 ≤ i ∧ i < sg t) ∧ holdsT (sgi t i.toNat) = false ∧ 0 < (T (lett (sgi t i.toNat))).2.2.1 ∧ sg t + sg u ≤ 10 ∧ dpS t i.toNat + 1 + dcp u ≤ 3) → ∃ v, some (aI 0) = some (aI v) ∧ τ3.2 <+: τ3.2 ∧ CRes 12 200 τ3 b T M P tp (sp_insert T M l s i) v τ3 := fun q => ⟨_, rfl, List.prefix_refl _, CRes.no (by rw [hsp, if_neg q])⟩
      have s1 := hok.2.1
      have l1 := cC_len2 hok.1
      have l2 := cC_len2 hok2.1
      have s2 := hok2.2.1
      refine ⟨hF, fun q => absurd q hq00.1, fun _ => ⟨fun q => absurd q hq1.1, fun _ => ⟨fun q => absurd q hq2.1, fun _ => ⟨hsq.2.1, wmi_p (c_Sq_signs hsq.2 hcc.1 (by omega)) ⟨hF, hsq2.2.1, wmi_p (c_Sq_signs hsq2.2 hcc2.1 (by omega)) ⟨hF, by omega, fun c2 => ⟨hsq.2.1, wmi_p (c_Sq_place hsq.2 hcc.1 (by omega) h3) ⟨hF, hsq.2.1, ?_⟩⟩, fun c2 => no (fun q => by have := q.2.2.2.1; omega)⟩⟩⟩⟩⟩⟩
      by_cases hi : 0 ≤ i ∧ i < sg t
      · rw [if_pos hi]
        have hpl := poC_isPl hcc.1 (n := i.toNat) (by omega)
        obtain ⟨hsb, A, B, ⟨g1, g2, g3⟩, g4⟩ := poC_spec hcc.1 i.toNat (by omega)
        have hu := sgi_okw hcc.1 i.toNat (by omega)
        have hsy := sy_sign hu.1 hu.2
        have hlt := hpl.1.1
        have hr := sy_r hu.1
        refine wmi_p (c_Sq_symbol hsq.2 (by omega) (by omega)) ?_
        rw [if_pos (by omega), show ((poC t i.toNat : Nat) : Int).toNat = poC t i.toNat by omega, hpl.2]
        refine ⟨hF, by omega, fun c5 => by omega, fun _ => wmi_p (c_S_holds (by omega)) ⟨hF, b2i_r _, fun c6 => ?_, fun c6 => ?_⟩⟩
        · rw [b2i_n0, hsy.2.2.1] at c6
          exact no (fun q => by rw [q.2.1] at c6; cases c6)
        · rw [b2i_0, hsy.2.2.1] at c6
          have hlett := hsy.2.2.2
          obtain ⟨hb1, hb2⟩ := cC_bare hu.2 c6
          have hdr2 := dcp_rep (v := .pow u (lett (sgi t i.toNat))) hcc.1 i.toNat (by omega)
          have hd3 := hok.2.2.1
          have hdu : dcp (.pow u (lett (sgi t i.toNat))) = dcp u + 1 := rfl
          have hokr : okw (rep t i.toNat (.pow u (lett (sgi t i.toNat)))) := rep_okw hcc.1 (show okw (.pow u (lett (sgi t i.toNat))) from ⟨hcc2.1, hlett⟩) _
          have hKK := g4 (.pow u (lett (sgi t i.toNat)))
          rw [show cC (.pow u (lett (sgi t i.toNat))) = ((lett (sgi t i.toNat) : Int) + 32) :: cC u from rfl] at hKK
          generalize hR : rep t i.toNat (.pow u (lett (sgi t i.toNat))) = R at hdr2 hokr hKK hsp no
          rw [hdu] at hdr2
          generalize sgi t i.toNat = w at *
          refine wmi_p (c_S_letterOf (by omega)) ?_
          rw [hsy.2.1]
          refine ⟨hF, h.2.1.1.2.1, wmi_p (c_Table_hasCore h.2.1.1 hT (by omega)) ⟨hF, b2i_r _, fun c7 => ?_, fun c7 => ?_⟩⟩
          · rw [b2i_n0, tb_nat hlett] at c7
            rw [hb1] at g1
            have hlg := congrArg List.length g1
            simp only [List.length_append, List.length_cons, List.length_nil] at hlg
            have hcd0 : CdB 92 τ3 r (A ++ ([(lett w : Int)] ++ B)) := by
              have := hsq.lo hb.1
              unfold SqC at this
              rw [g1] at this
              exact this
            have hcu0 : CdB 92 τ3 r2 (cC u) := hsq2.lo hb.1
            have hSyAll : Sy (A ++ ([(lett w : Int)] ++ B)) := by rw [← g1]; exact cC_sym hcc.1
            refine WMv.mono (c_Draft_clear hF.dr) (fun τ4 hp4 hq4 => ?_)
            have F4 := hq4.1.fix hF (by decide)
            have cx : ∀ υ, Fr (dX 10 11) τ3 υ → CdB 92 υ r (A ++ ([(lett w : Int)] ++ B)) := fun υ hυ => hcd0.cf (hυ.cf 0 0) (dX_lt (by decide))
            have cu : ∀ υ, Fr (dX 10 11) τ3 υ → CdB 92 υ r2 (cC u) := fun υ hυ => hcu0.cf (hυ.cf 0 0) (dX_lt (by decide))
            have c4 : CdB 92 τ4 r ([] ++ (A ++ ([(lett w : Int)] ++ B))) := cx τ4 hq4.1
            have hl0 : ([] ++ (A ++ ([(lett w : Int)] ++ B))).length ≤ 1000 := by simp; omega
            refine ⟨F4, WMv.mono (c_Draft_putAll hq4.2 c4 (Sy.of hSyAll).1 hl0 rfl (by simp; omega) (by simp; omega)) (fun τ5 hp5 hq5 => ?_)⟩
            have F5 := hq5.1.fix F4 (by decide)
            rw [hb2]
            refine ⟨F5, WMv.mono (c_Draft_put hq5.2 (by simp; omega) (by omega)) (fun τ6 hp6 hq6 => ?_)⟩
            have F6 := hq6.1.fix F5 (by decide)
            have f6 := (hq4.1.tr hq5.1).tr hq6.1
            have c6' := cu τ6 f6
            have c6'' : CdB 92 τ6 r2 ([] ++ (cC u ++ [])) := by rw [List.nil_append, List.append_nil]; exact c6'
            refine ⟨F6, c6'.2.1, wmi_p (c_Sq_length c6'.2) ⟨F6, WMv.mono (c_Draft_putAll hq6.2 c6'' (cC_sym hcc2.1) (by simp; omega) rfl (by simp) (by simp; omega)) (fun τ7 hp7 hq7 => ?_)⟩⟩
            have F7 := hq7.1.fix F6 (by decide)
            have f7 := f6.tr hq7.1
            have c7' := cx τ7 f7
            have c7'' : CdB 92 τ7 r ((A ++ [(lett w : Int)]) ++ (B ++ [])) := by simpa using c7'
            refine ⟨F7, c7'.2.1, wmi_p (c_Sq_length c7'.2) ⟨F7, WMv.mono (c_Draft_putAll hq7.2 c7'' (Sy.of (Sy.of hSyAll).2).2 (by simp; omega) (by simp; omega) (by simp; omega) (by simp; omega)) (fun τ8 hp8 hq8 => ?_)⟩⟩
            have F8 := hq8.1.fix F7 (by decide)
            have f8 := f7.tr hq8.1
            have hK : [] ++ A ++ [(lett w : Int) + 32] ++ cC u ++ B = cC R := by rw [hKK]; simp
            have hdr := hq8.2
            rw [hK] at hdr
            have hKl := congrArg List.length hK
            simp only [List.length_append, List.length_cons, List.length_nil] at hKl
            refine ⟨F8, WMr.mono (c_Draft_made hdr (by omega)) (fun r9 τ9 hp9 hq9 => ?_)⟩
            have hc9 : Cf 2 25 cX τ3 τ9 := (((f8.cf 0 0).mono (Y := cX) (Nat.le_refl _) (Nat.le_refl _) (by decide)).tr (hq9.2.1.mono (Y := cX) (m' := 25) (Nat.le_refl _) (by omega) rfl)).mono (by omega) (by omega) (by decide)
            have hS9 := h.cf hc9
            have e : (τ8.2.length : Int) = τ3.2.length := by rw [f8.1]
            have hx9 : SqC b τ9 r9 R := SqC.lo (b := τ8.2.length) hq9.2.2 (by omega)
            refine ⟨hS9.1.1, WMr.mono (c_S_spelled hS9.1.1 (hx9.lo hb.1) hokr (by omega) (by decide)) (fun r10 τ10 hp10 hq10 => ?_)⟩
            obtain ⟨rfl, f10, w', s10⟩ := hq10
            have hc10 : Cf 2 25 cX τ3 τ10 := (hc9.tr ((f10.cf 0 0).mono (Y := cX) (Nat.le_refl _) (Nat.le_refl _) (by decide))).mono (by omega) (by omega) (by decide)
            have hS10 := h.cf hc10
            have hG := s10.2.2.2.2.2.2
            have hx10 : SqC b τ10 r9 R := hx9.cf (f10.cf 0 0) (fun p hp => by have := spX_lt p hp; omega)
            have hL10 := hq00.2.cf hc10 (imX_lt rfl hb.1)
            have hdle := dcp_le hokr
            refine ⟨hS10.1.1, sf_31 hS10.1.1, by omega, fun c8 => ⟨_, rfl, hc10.1, ?_⟩, fun c8 => ⟨hL10.2.1, l_one hS10 hk hP h1 hl hs hs2 hL10 hx10 (fun τ11 hc11 hS11 => ⟨by decide, fun q => by omega, fun q => ⟨_, rfl, hc10.1.trans hc11.1, ?_⟩⟩)⟩⟩
            · rw [hsp, if_neg (fun q => by have := q.2.2.2.2; omega)]
              exact ⟨rfl, hc10.mono (by omega) (by omega) (by decide)⟩
            · have hh : holdsT w = false := by cases hw : holdsT w with | false => rfl | true => exact absurd hw c6
              rw [hsp, if_pos ⟨hi, hh, c7, by omega, by omega⟩]
              exact ⟨rfl, ((hc10.mono (Y := caX) (Nat.le_refl _) (Nat.le_refl _) (by decide)).tr hc11).mono (by omega) (by omega) (by decide), hS11⟩
          · rw [b2i_0, tb_nat hlett] at c7
            exact no (fun q => c7 q.2.2.1)
      · rw [if_neg hi]
        refine wmi_p (c_Sq_symbol hsq.2 (by omega) (by decide)) ?_
        exact ⟨hF, by decide, fun _ => no (fun q => hi q.1), fun c5 => absurd rfl c5⟩
  · have hno : sp_insert T M l s i = none := by
      unfold sp_insert
      rcases hor with e | ⟨L, e1, e2⟩
      · simp only [e]
      · simp only [e1, e2]
    rw [hn] at hq1
    exact ⟨hF, fun q => ⟨_, rfl, List.prefix_refl _, CRes.no hno⟩, fun _ => ⟨fun q => ⟨_, rfl, List.prefix_refl _, CRes.no hno⟩, fun q => absurd hq1 q⟩⟩
end CInsert
