/-! PART, RELEASE -/
theorem two_get {Ls : List Tr} {s : Nat} {x y : Tr} (hs : s < Ls.length) (j : Nat) : (Ls.take s ++ x :: y :: Ls.drop (s + 1))[j]? = if j = s then some x else if j = s + 1 then some y else Ls[if j < s then j else j - 1]? := by
  have hl : (Ls.take s).length = s := by rw [List.length_take]; omega
  by_cases c : j < s
  · rw [List.getElem?_append_left (by omega), List.getElem?_take, if_pos c, if_neg (by omega), if_neg (by omega), if_pos c]
  · rw [List.getElem?_append_right (by omega), hl]
    by_cases c2 : j = s
    · subst c2; simp
    · by_cases c3 : j = s + 1
      · rw [if_neg c2, if_pos c3, c3, show s + 1 - s = 1 by omega]; rfl
      · obtain ⟨i, rfl⟩ : ∃ i, j = s + 2 + i := ⟨j - (s + 2), by omega⟩
        rw [if_neg c2, if_neg c3, if_neg (by omega), show s + 2 + i - s = i + 1 + 1 by omega, List.getElem?_cons_succ, List.getElem?_cons_succ, List.getElem?_drop]
        congr 1; omega
theorem two_len {Ls : List Tr} {s : Nat} {x y : Tr} (hs : s < Ls.length) : (Ls.take s ++ x :: y :: Ls.drop (s + 1)).length = Ls.length + 1 := by
  simp [List.length_take, List.length_drop]; omega
theorem one_get {Ls : List Tr} {s : Nat} {x : Tr} (hs : s + 1 < Ls.length) (j : Nat) : (Ls.take s ++ x :: Ls.drop (s + 2))[j]? = if j = s then some x else Ls[if j < s then j else j + 1]? := by
  have hl : (Ls.take s).length = s := by rw [List.length_take]; omega
  by_cases c : j < s
  · rw [List.getElem?_append_left (by omega), List.getElem?_take, if_pos c, if_neg (by omega), if_pos c]
  · rw [List.getElem?_append_right (by omega), hl]
    by_cases c2 : j = s
    · subst c2; simp
    · obtain ⟨i, rfl⟩ : ∃ i, j = s + 1 + i := ⟨j - (s + 1), by omega⟩
      rw [if_neg c2, if_neg (by omega), show s + 1 + i - s = i + 1 by omega, List.getElem?_cons_succ, List.getElem?_drop]
      congr 1; omega
theorem one_len {Ls : List Tr} {s : Nat} {x : Tr} (hs : s + 1 < Ls.length) : (Ls.take s ++ x :: Ls.drop (s + 2)).length = Ls.length - 1 := by
  simp [List.length_take, List.length_drop]; omega
section CPart
variable {E : EV} {d : Nat} {σ : St} {b : Int} {T : Tb} {M M' : Mo} {P P' : List Mo} {tp : List Int}
/-- two squares in the place of one -/
theorem l_two {l s r0 x y : Int} {L : Ln} {t t1 t2 : Tr} (h : CS σ b T M P tp) (hk : okMo T M) (hP : P.length ≤ 12) (h1 : rI l) (hl : lnAt M l = some L) (hs : sqIn L s = some t) (hL : LnC b σ r0 L) (hx : SqC b σ x t1) (hy : SqC b σ y t2) {Q : Int → St → Prop} (k : ∀ τ, Cf 4 23 caX σ τ → CS τ b T (twoSq M l s L t1 t2) (push P M) tp → Q 1 τ) : WMr E m_Line_withNext (d + 3) [aP r0, aI s, aP x, aP y] σ (fun v σ1 => Fix σ1 ∧ WMi E m_S_replaceLine (d + 3) [aP 1, aI l, aP v] σ1 (fun v4 σ4 => (v4 = 0 ∨ v4 = 1) ∧ Q v4 σ4)) := by
  have hb := h.1.2
  have hkL := (hk.ln hl).1
  have h8 := hkL.1.2
  have hsi := sqIn_some hs
  refine WMr.mono (c_Line_withNext hL hkL.qs.1 ⟨hsi.1, hsi.2.2⟩ hx.2.1 hy.2.1) (fun r2 τ2 hp2 hq2 => ?_)
  have hc : Cf 2 13 cX σ τ2 := hq2.1.1.mono (Nat.le_refl _) (by omega) rfl
  have hS := h.cf hc
  have hlen := two_len (Ls := L.2) (s := s.toNat) (x := t1) (y := t2) (by omega)
  have hln : LnC b τ2 r2 (L.1, L.2.take s.toNat ++ t1 :: t2 :: L.2.drop (s.toNat + 1)) := by
    have e : New2 24 3 2 σ (L.2.take s.toNat ++ t1 :: t2 :: L.2.drop (s.toNat + 1)).length (fun k => if k = s then x else if k = s + 1 then y else rf σ r0 L.2.length (if k < s then k else k - 1)) r2 τ2 := by
      rw [hlen]; exact hq2.1
    refine e.ln hq2.2 hb.2 (fun j u hu => ?_)
    have hj := (List.getElem?_eq_some_iff.mp hu).1
    rw [hlen] at hj
    rw [two_get (by omega)] at hu
    by_cases c : (j : Int) = s
    · rw [if_pos c]; rw [if_pos (by omega)] at hu; cases hu; exact hx
    · rw [if_neg (show ¬ j = s.toNat by omega)] at hu
      rw [if_neg c]
      by_cases c2 : (j : Int) = s + 1
      · rw [if_pos c2]; rw [if_pos (by omega)] at hu; cases hu; exact hy
      · rw [if_neg (show ¬ j = s.toNat + 1 by omega)] at hu
        rw [if_neg c2]
        have := hL.2.2.2.2 _ _ hu
        unfold rf
        by_cases c3 : (j : Int) < s
        · rw [if_pos c3, if_pos (by omega)]; rw [if_pos (show j < s.toNat by omega)] at this; exact this
        · rw [if_neg c3, if_pos (by omega)]; rw [if_neg (show ¬ j < s.toNat by omega), show ((j - 1 : Nat) : Int) = (j : Int) - 1 by omega] at this; exact this
  refine ⟨hS.1.1, WMi.mono (c_S_replaceLine hS hk hP h1 (by rw [hl]; rfl) hln) (fun r3 τ3 hp3 hq3 => ?_)⟩
  obtain ⟨rfl, hq4, hq5⟩ := hq3
  exact ⟨Or.inr rfl, k τ3 ((hc.mono (Y := caX) (Nat.le_refl _) (Nat.le_refl _) (by decide)).tr hq4) hq5⟩
/-- one square in the place of two -/
theorem l_one {l s r0 x : Int} {L : Ln} {t u t1 : Tr} (h : CS σ b T M P tp) (hk : okMo T M) (hP : P.length ≤ 12) (h1 : rI l) (hl : lnAt M l = some L) (hs : sqIn L s = some t) (hs2 : sqIn L (s + 1) = some u) (hL : LnC b σ r0 L) (hx : SqC b σ x t1) {Q : Int → St → Prop} (k : ∀ τ, Cf 4 21 caX σ τ → CS τ b T (oneSq M l s L t1) (push P M) tp → Q 1 τ) : WMr E m_Line_withoutNext (d + 3) [aP r0, aI s, aP x] σ (fun v σ1 => Fix σ1 ∧ WMi E m_S_replaceLine (d + 3) [aP 1, aI l, aP v] σ1 Q) := by
  have hb := h.1.2
  have hkL := (hk.ln hl).1
  have h8 := hkL.1.2
  have hsi := sqIn_some hs
  have hsi2 := sqIn_some hs2
  refine WMr.mono (c_Line_withoutNext hL hkL.qs.1 ⟨hsi.1, by omega⟩ hx.2.1) (fun r2 τ2 hp2 hq2 => ?_)
  have hc : Cf 2 11 cX σ τ2 := hq2.1.1.mono (Nat.le_refl _) (by omega) rfl
  have hS := h.cf hc
  have hlen := one_len (Ls := L.2) (s := s.toNat) (x := t1) (by omega)
  have hln : LnC b τ2 r2 (L.1, L.2.take s.toNat ++ t1 :: L.2.drop (s.toNat + 2)) := by
    have e : New2 24 3 2 σ (L.2.take s.toNat ++ t1 :: L.2.drop (s.toNat + 2)).length (fun k => if k = s then x else rf σ r0 L.2.length (if k < s then k else k + 1)) r2 τ2 := by
      rw [hlen]; exact hq2.1
    refine e.ln hq2.2 hb.2 (fun j u hu => ?_)
    have hj := (List.getElem?_eq_some_iff.mp hu).1
    rw [hlen] at hj
    rw [one_get (by omega)] at hu
    by_cases c : (j : Int) = s
    · rw [if_pos c]; rw [if_pos (by omega)] at hu; cases hu; exact hx
    · rw [if_neg (show ¬ j = s.toNat by omega)] at hu
      rw [if_neg c]
      have := hL.2.2.2.2 _ _ hu
      unfold rf
      by_cases c3 : (j : Int) < s
      · rw [if_pos c3, if_pos (by omega)]; rw [if_pos (show j < s.toNat by omega)] at this; exact this
      · rw [if_neg c3, if_pos (by omega)]; rw [if_neg (show ¬ j < s.toNat by omega), show ((j + 1 : Nat) : Int) = (j : Int) + 1 by omega] at this; exact this
  refine ⟨hS.1.1, WMi.mono (c_S_replaceLine hS hk hP h1 (by rw [hl]; rfl) hln) (fun r3 τ3 hp3 hq3 => ?_)⟩
  obtain ⟨rfl, hq4, hq5⟩ := hq3
  exact k τ3 ((hc.mono (Y := caX) (Nat.le_refl _) (Nat.le_refl _) (by decide)).tr hq4) hq5
theorem jt_isJ {t : Tr} (h : ok t) : (jt (sy t) = true) ↔ isJ t = true := by
  rw [jt_isS h.w]
  cases t <;> simp_all [isS, isJ, isM, isA, ok]
theorem cC_joint {t : Tr} (h : ok t) (hj : isJ t = true) : cC t = sy t :: (cC (fstT t) ++ cC (rstT t)) ∧ okw (fstT t) ∧ okw (rstT t) := by
  cases t with
  | mul a b => exact ⟨rfl, h.1.w, h.2.1.w⟩
  | add a b => exact ⟨rfl, h.1.w, h.2.1.w⟩
  | _ => simp [isJ, isM, isA] at hj
theorem c_S_part {l s : Int} (h : CS σ b T M P tp) (hk : okMo T M) (hP : P.length ≤ 12) (h1 : rI l) (h2 : rI s) : WMi E m_S_part (d + 5) [aP 1, aI l, aI s] σ (CRes 12 200 σ b T M P tp (sp_part M l s)) := by
  have hF := h.1.1
  have hb := h.1.2
  refine e_S_part _ _ hF (WMr.mono (c_S_lineAt h hk h1) (fun r0 τ hp0 hq0 => ?_))
  obtain ⟨hq00, rfl⟩ := hq0
  refine ⟨hF, WMr.mono (c_S_squareAt h hk h1 h2) (fun r τ2 hp hq' => ?_)⟩
  obtain ⟨hq1, rfl⟩ := hq'
  rcases sq_cases M l s with ⟨L, t, hl, hs, hst⟩ | ⟨hn, hor⟩
  · rw [hst] at hq1
    rw [hl] at hq00
    have hkL := (hk.ln hl).1
    have h8 := hkL.1.2
    have hok := (hkL.sq hs).1
    have hcc := hok.cc
    have hsq := hq1.2
    have hsp : sp_part M l s = if isJ t = true ∧ L.2.length ≠ 8 then some (twoSq M l s L (fstT t) (rstT t)) else none := by unfold sp_part; simp only [hl, hs]
    have no : ¬ (isJ t = true ∧ L.2.length ≠ 8) → ∃ v, some (aI 0) = some (aI v) ∧ τ2.2 <+: τ2.2 ∧ CRes 12 200 τ2 b T M P tp (sp_part M l s) v τ2 := fun q => ⟨_, rfl, List.prefix_refl _, CRes.no (by rw [hsp, if_neg q])⟩
    have h0 : (cC t).getD 0 0 = sy t := by rw [cC_sy hcc.1]; rfl
    have hsy := sy_r hcc.1
    refine ⟨hF, fun q => absurd q hq00.1, fun _ => ⟨fun q => absurd q hq1.1, fun _ => ⟨hsq.2.1, wmi_p (c_Sq_symbol hsq.2 (by omega) (by decide)) ⟨hF, ?_⟩⟩⟩⟩
    rw [if_pos (by omega), show (0 : Int).toNat = 0 from rfl, h0]
    refine wmi_p (c_S_isJoint (by omega)) ⟨hF, b2i_r _, fun c => ?_, fun c => ⟨hq00.2.2.1, wmi_p (c_Line_size hq00.2) ⟨hF, by omega, fun c2 => ⟨hsq.2.1, ?_⟩, fun c2 => no (fun q => q.2 (by omega))⟩⟩⟩
    · rw [b2i_0, jt_isJ hok.1] at c
      exact no (fun q => c q.1)
    · rw [b2i_n0, jt_isJ hok.1] at c
      rw [hsp, if_pos ⟨c, by omega⟩]
      obtain ⟨e1, w1, w2⟩ := cC_joint hok.1 c
      have hl1 := congrArg List.length e1
      simp only [List.length_cons, List.length_append] at hl1
      have p1 := cC_pos w1
      have p2 := cC_pos w2
      have hcdA : CdB 92 τ2 r ([sy t] ++ (cC (fstT t) ++ cC (rstT t))) := by
        have := hsq.lo hb.1
        unfold SqC at this
        rw [e1] at this
        exact this
      have hlA : ([sy t] ++ (cC (fstT t) ++ cC (rstT t))).length ≤ 1000 := by simp; omega
      refine wmi_p (c_Sq_endOf hcdA.2 w1 hlA rfl) ⟨hF, WMr.mono (c_S_slice hF w1 (by omega) hcdA hlA rfl (by simp)) (fun r3 τ3 hp3 hq3 => ?_)⟩
      have hS3 := h.cf hq3.1
      have hcd3 := hcdA.cf hq3.1 (imX_lt rfl (by omega))
      have hcdB : CdB 92 τ3 r ((sy t :: cC (fstT t)) ++ (cC (rstT t) ++ [])) := by simpa using hcd3
      have hlB : ((sy t :: cC (fstT t)) ++ (cC (rstT t) ++ [])).length ≤ 1000 := by simp; omega
      refine ⟨hS3.1.1, hcd3.2.1, wmi_p (c_Sq_length hcd3.2) ⟨hS3.1.1, WMr.mono (c_S_slice hS3.1.1 w2 (by omega) hcdB hlB (by simp; omega) (by simp; omega)) (fun r4 τ4 hp4 hq4 => ?_)⟩⟩
      have hS4 := hS3.cf hq4.1
      have hL4 := (hq00.2.cf hq3.1 (imX_lt rfl hb.1)).cf hq4.1 (imX_lt rfl hb.1)
      have hx4 : SqC b τ4 r3 (fstT t) := (hq3.2.lo hb.2).cf hq4.1 (imX_lt rfl hb.1)
      have hy4 : SqC b τ4 r4 (rstT t) := hq4.2.lo (by have := hq3.1.1.length_le; omega)
      refine ⟨hS4.1.1, hL4.2.1, l_two hS4 hk hP h1 hl hs hL4 hx4 hy4 (fun τ5 hc5 hS5 => ?_)⟩
      refine ⟨_, rfl, hq3.1.1.trans (hq4.1.1.trans hc5.1), rfl, ?_, hS5⟩
      exact (((hq3.1.tr hq4.1).mono (Y := caX) (Nat.le_refl _) (Nat.le_refl _) (by decide)).tr hc5).mono (by omega) (by omega) (by decide)
  · have hno : sp_part M l s = none := by
      unfold sp_part
      rcases hor with e | ⟨L, e1, e2⟩
      · simp only [e]
      · simp only [e1, e2]
    rw [hn] at hq1
    exact ⟨hF, fun q => ⟨_, rfl, List.prefix_refl _, CRes.no hno⟩, fun _ => ⟨fun q => ⟨_, rfl, List.prefix_refl _, CRes.no hno⟩, fun q => absurd hq1 q⟩⟩
theorem c_S_release {l s i : Int} (h : CS σ b T M P tp) (hk : okMo T M) (hP : P.length ≤ 12) (h1 : rI l) (h2 : rI s) (h3 : rI i) : WMi E m_S_release (d + 5) [aP 1, aI l, aI s, aI i] σ (CRes 12 200 σ b T M P tp (sp_release M l s i)) := by
  have hF := h.1.1
  have hb := h.1.2
  refine e_S_release _ _ _ hF (WMr.mono (c_S_lineAt h hk h1) (fun r0 τ hp0 hq0 => ?_))
  obtain ⟨hq00, rfl⟩ := hq0
  refine ⟨hF, WMr.mono (c_S_squareAt h hk h1 h2) (fun r τ2 hp hq' => ?_)⟩
  obtain ⟨hq1, rfl⟩ := hq'
  rcases sq_cases M l s with ⟨L, t, hl, hs, hst⟩ | ⟨hn, hor⟩
  · rw [hst] at hq1
    rw [hl] at hq00
    have hkL := (hk.ln hl).1
    have h8 := hkL.1.2
    have hok := (hkL.sq hs).1
    have hcc := hok.cc
    have hsq := hq1.2
    have hsp : sp_release M l s i = if (0 ≤ i ∧ i < sg t) ∧ holdsT (sgi t i.toNat) = true ∧ L.2.length ≠ 8 then some (twoSq M l s L (rep t i.toNat (.var (lett (sgi t i.toNat)))) (inn (sgi t i.toNat))) else none := by unfold sp_release; simp only [hl, hs]
    have no : ¬ ((0 ≤ i ∧ i < sg t) ∧ holdsT (sgi t i.toNat) = true ∧ L.2.length ≠ 8) → ∃ v, some (aI 0) = some (aI v) ∧ τ2.2 <+: τ2.2 ∧ CRes 12 200 τ2 b T M P tp (sp_release M l s i) v τ2 := fun q => ⟨_, rfl, List.prefix_refl _, CRes.no (by rw [hsp, if_neg q])⟩
    refine ⟨hF, fun q => absurd q hq00.1, fun _ => ⟨fun q => absurd q hq1.1, fun _ => ⟨hq00.2.2.1, wmi_p (c_Line_size hq00.2) ⟨hF, by omega, fun c2 => ⟨hsq.2.1, wmi_p (c_Sq_place hsq.2 hcc.1 (by omega) h3) ⟨hF, hsq.2.1, ?_⟩⟩, fun c2 => no (fun q => q.2.2 (by omega))⟩⟩⟩⟩
    by_cases hi : 0 ≤ i ∧ i < sg t
    · rw [if_pos hi]
      have hpl := poC_isPl hcc.1 (n := i.toNat) (by omega)
      obtain ⟨hsb, A, B, ⟨g1, g2, g3⟩, g4⟩ := poC_spec hcc.1 i.toNat (by omega)
      have hu := sgi_okw hcc.1 i.toNat (by omega)
      have hsy := sy_sign hu.1 hu.2
      have hlt := hpl.1.1
      have hr := sy_r hu.1
      refine wmi_p (c_Sq_symbol hsq.2 (by omega) (by omega)) ?_
      rw [if_pos (by omega), show ((poC t i.toNat : Nat) : Int).toNat = poC t i.toNat by omega, hpl.2]
      refine ⟨hF, by omega, fun c5 => by omega, fun _ => wmi_p (c_S_holds (by omega)) ⟨hF, b2i_r _, fun c6 => ⟨hsq.2.1, ?_⟩, fun c6 => ?_⟩⟩
      · rw [b2i_n0, hsy.2.2.1] at c6
        rw [hsp, if_pos ⟨hi, c6, by omega⟩]
        have hlett := hsy.2.2.2
        have e9 := c_Sq_endAt (E := E) (d := d + 2) hsq.2 hcc.1 (by omega) hsb
        refine wmi_p e9 ⟨hF, ?_⟩
        have hinn : cC (sgi t i.toNat) = sy (sgi t i.toNat) :: cC (inn (sgi t i.toNat)) ∧ okw (inn (sgi t i.toNat)) := by
          revert c6 hu
          generalize sgi t i.toNat = u
          intro hu c6
          cases u with
          | pow w z => exact ⟨rfl, hu.1.1⟩
          | _ => simp [holdsT] at c6
        have hlg := congrArg List.length g1
        rw [hinn.1] at hlg
        simp only [List.length_append, List.length_cons] at hlg
        have hlu : (cC (sgi t i.toNat)).length = (cC (inn (sgi t i.toNat))).length + 1 := by rw [hinn.1]; rfl
        have hcd0 : CdB 92 τ2 r (A ++ (cC (sgi t i.toNat) ++ B)) := by
          have := hsq.lo hb.1
          unfold SqC at this
          rw [g1] at this
          exact this
        have hcdA : CdB 92 τ2 r ((A ++ [sy (sgi t i.toNat)]) ++ (cC (inn (sgi t i.toNat)) ++ B)) := by
          rw [hinn.1] at hcd0
          simpa using hcd0
        have hlA : ((A ++ [sy (sgi t i.toNat)]) ++ (cC (inn (sgi t i.toNat)) ++ B)).length ≤ 1000 := by simp; omega
        refine WMr.mono (c_S_slice hF hinn.2 (by omega) hcdA hlA (by simp; omega) (by simp; omega)) (fun r3 τ3 hp3 hq3 => ?_)
        have hS3 := h.cf hq3.1
        have hF3 := hS3.1.1
        refine ⟨hF3, WMv.mono (c_Draft_clear hF3.dr) (fun τ4 hp4 hq4 => ?_)⟩
        have hF4 := hq4.1.fix hF3 (by decide)
        have f4 : Fr (dX 10 11) τ3 τ4 := hq4.1
        have hcdx : ∀ υ, Fr (dX 10 11) τ3 υ → CdB 92 υ r (A ++ (cC (sgi t i.toNat) ++ B)) := fun υ hυ => (hcd0.cf hq3.1 (imX_lt rfl (by omega))).cf (hυ.cf 0 0) (dX_lt (by decide))
        have c4 : CdB 92 τ4 r ([] ++ (A ++ (cC (sgi t i.toNat) ++ B))) := hcdx τ4 f4
        have hl0 : ([] ++ (A ++ (cC (sgi t i.toNat) ++ B))).length ≤ 1000 := by simp; omega
        have hSyAll : Sy (A ++ (cC (sgi t i.toNat) ++ B)) := by rw [← g1]; exact cC_sym hcc.1
        refine ⟨hF4, WMv.mono (c_Draft_putAll hq4.2 c4 (Sy.of hSyAll).1 hl0 rfl (by simp; omega) (by simp; omega)) (fun τ5 hp5 hq5 => ?_)⟩
        have hF5 := hq5.1.fix hF4 (by decide)
        refine ⟨hF5, wmi_p (c_S_letterOf (by omega)) ⟨hF5, ?_⟩⟩
        rw [hsy.2.1]
        refine WMv.mono (c_Draft_put hq5.2 (by simp; omega) (by omega)) (fun τ6 hp6 hq6 => ?_)
        have hF6 := hq6.1.fix hF5 (by decide)
        have f6 := (f4.tr hq5.1).tr hq6.1
        have c6' := hcdx τ6 f6
        have hsqL : CdB 92 τ6 r (cC t) := by rw [g1]; exact c6'
        refine ⟨hF6, hsqL.2.1, wmi_p (c_Sq_length hsqL.2) ⟨hF6, ?_⟩⟩
        have c7 : CdB 92 τ6 r ((A ++ cC (sgi t i.toNat)) ++ (B ++ [])) := by simpa using c6'
        refine WMv.mono (c_Draft_putAll hq6.2 c7 (Sy.of (Sy.of hSyAll).2).2 (by simp; omega) (by simp; omega) (by simp; omega) (by simp; omega)) (fun τ7 hp7 hq7 => ?_)
        have hF7 := hq7.1.fix hF6 (by decide)
        have f7 := f6.tr hq7.1
        have hK : [] ++ A ++ [(lett (sgi t i.toNat) : Int)] ++ B = cC (rep t i.toNat (.var (lett (sgi t i.toNat)))) := by
          rw [g4]; simp [cC, vN]
        have hdr := hq7.2
        rw [hK] at hdr
        have hKl := congrArg List.length hK
        simp only [List.length_append, List.length_cons, List.length_nil] at hKl
        refine ⟨hF7, WMr.mono (c_Draft_made hdr (by omega)) (fun r8 τ8 hp8 hq8 => ?_)⟩
        have hc : Cf 2 25 cX τ3 τ8 := (((f7.cf 0 0).mono (Y := cX) (Nat.le_refl _) (Nat.le_refl _) (by decide)).tr (hq8.2.1.mono (Y := cX) (m' := 25) (Nat.le_refl _) (by omega) rfl)).mono (by omega) (by omega) (by decide)
        have hS8 := hS3.cf hc
        have hL8 := (hq00.2.cf hq3.1 (imX_lt rfl hb.1)).cf hc (imX_lt rfl hb.1)
        have e : (τ7.2.length : Int) = τ3.2.length := by rw [f7.1]
        have hx8 : SqC b τ8 r8 (rep t i.toNat (.var (lett (sgi t i.toNat)))) := SqC.lo (b := τ7.2.length) hq8.2.2 (by have := hq3.1.1.length_le; omega)
        have hy8 : SqC b τ8 r3 (inn (sgi t i.toNat)) := (hq3.2.lo hb.2).cf hc (imX_lt rfl hb.1)
        refine ⟨hS8.1.1, hL8.2.1, l_two hS8 hk hP h1 hl hs hL8 hx8 hy8 (fun τ9 hc9 hS9 => ?_)⟩
        refine ⟨_, rfl, hq3.1.1.trans (hc.1.trans hc9.1), rfl, ?_, hS9⟩
        exact (((hq3.1.tr hc).mono (Y := caX) (Nat.le_refl _) (Nat.le_refl _) (by decide)).tr hc9).mono (by omega) (by omega) (by decide)
      · rw [b2i_0, hsy.2.2.1] at c6
        exact no (fun q => c6 q.2.1)
    · rw [if_neg hi]
      refine wmi_p (c_Sq_symbol hsq.2 (by omega) (by decide)) ?_
      exact ⟨hF, by decide, fun _ => no (fun q => hi q.1), fun c5 => absurd rfl c5⟩
  · have hno : sp_release M l s i = none := by
      unfold sp_release
      rcases hor with e | ⟨L, e1, e2⟩
      · simp only [e]
      · simp only [e1, e2]
    rw [hn] at hq1
    exact ⟨hF, fun q => ⟨_, rfl, List.prefix_refl _, CRes.no hno⟩, fun _ => ⟨fun q => ⟨_, rfl, List.prefix_refl _, CRes.no hno⟩, fun q => absurd hq1 q⟩⟩
end CPart
