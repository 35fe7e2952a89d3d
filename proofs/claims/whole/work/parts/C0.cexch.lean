/-! EXCHANGE, TURN -/
theorem tb_pos {f : Int × Int × Int × Int → Int} {T : Tb} {l : Int} : 0 < tb f T l ↔ (0 ≤ l ∧ l ≤ 25) ∧ 0 < f (T l.toNat) := by
  unfold tb
  split
  · constructor
    · intro h; exact ⟨by omega, h⟩
    · intro h; exact h.2
  · constructor
    · intro h; omega
    · intro h; omega
theorem set_mid (A R : List Int) (y x : Int) : (A ++ y :: R).set A.length x = A ++ x :: R := by
  rw [List.set_append_right _ _ (Nat.le_refl _)]
  simp
theorem cC_set {t : Tr} {n : Nat} (h : okw t) (hn : n < sg t) (c : Nat) : (cC t).set (poC t n) ((c : Int) + (if holdsT (sgi t n) then 32 else 0)) = cC (rep t n (relab c (sgi t n))) := by
  obtain ⟨-, A, B, ⟨q1, q2, -⟩, q4⟩ := poC_spec h n hn
  have hs := sgi_okw h n hn
  rw [q4, q1, ← q2]
  generalize sgi t n = u at *
  cases u with
  | var l => simp only [cC, relab, holdsT, vN]; rw [List.singleton_append, List.singleton_append, set_mid]; simp
  | pow t l => simp only [cC, relab, holdsT]; rw [List.cons_append, List.cons_append, set_mid]; simp
  | _ => simp [isS] at hs
section CExch
variable {E : EV} {d : Nat} {σ : St} {b : Int} {T : Tb} {M M' : Mo} {P P' : List Mo} {tp : List Int}
theorem okS.cc {t : Tr} (h : okS T t) : okw t ∧ (cC t).length ≤ 19 ∧ 1 ≤ (cC t).length := ⟨h.1.w, by have := cC_len2 h.1; have := h.2.1; omega, cC_pos h.1.w⟩
theorem c_S_exchange {l s i c : Int} (h : CS σ b T M P tp) (hT : okTab T) (hk : okMo T M) (hP : P.length ≤ 12) (h1 : rI l) (h2 : rI s) (h3 : rI i) (h4 : rI c) : WMi E m_S_exchange (d + 5) [aP 1, aI l, aI s, aI i, aI c] σ (CRes 12 200 σ b T M P tp (sp_exchange T M l s i c)) := by
  have hF := h.1.1
  have hb := h.1.2
  refine e_S_exchange _ _ _ _ hF (WMr.mono (c_S_squareAt h hk h1 h2) (fun r τ hp hq => ?_))
  obtain ⟨hq1, rfl⟩ := hq
  rcases sq_cases M l s with ⟨L, t, hl, hs, hst⟩ | ⟨hn, hor⟩
  · rw [hst] at hq1
    have hok := ((hk.ln hl).1.sq hs).1
    have hcc := hok.cc
    have hsq := hq1.2
    have hsp : sp_exchange T M l s i c = if (0 ≤ i ∧ i < sg t) ∧ (0 ≤ c ∧ c ≤ 25) ∧ 0 < (T c.toNat).1 ∧ (lett (sgi t i.toNat) : Int) ≠ c ∧ (holdsT (sgi t i.toNat) = true → 0 < (T c.toNat).2.2.1) then some (setSq M l s L (rep t i.toNat (relab c.toNat (sgi t i.toNat)))) else none := by unfold sp_exchange; simp only [hl, hs]
    have no : ¬ ((0 ≤ i ∧ i < sg t) ∧ (0 ≤ c ∧ c ≤ 25) ∧ 0 < (T c.toNat).1 ∧ (lett (sgi t i.toNat) : Int) ≠ c ∧ (holdsT (sgi t i.toNat) = true → 0 < (T c.toNat).2.2.1)) → ∃ v, some (aI 0) = some (aI v) ∧ τ.2 <+: τ.2 ∧ CRes 12 200 τ b T M P tp (sp_exchange T M l s i c) v τ := fun q => ⟨_, rfl, List.prefix_refl _, CRes.no (by rw [hsp, if_neg q])⟩
    refine ⟨hF, fun q => absurd q hq1.1, fun q => ⟨h.2.1.1.2.1, wmi_p (c_Table_has h.2.1.1 hT h4) ⟨hF, b2i_r _, fun c2 => ?_, fun c2 => ?_⟩⟩⟩
    · rw [b2i_n0, tb_pos] at c2
      refine ⟨hsq.2.1, wmi_p (c_Sq_place hsq.2 hcc.1 (by omega) h3) ⟨hF, hsq.2.1, ?_⟩⟩
      by_cases hi : 0 ≤ i ∧ i < sg t
      · rw [if_pos hi]
        have hpl := poC_isPl hcc.1 (n := i.toNat) (by omega)
        have hu := sgi_okw hcc.1 i.toNat (by omega)
        have hsy := sy_sign hu.1 hu.2
        have hlt := hpl.1.1
        refine wmi_p (c_Sq_symbol hsq.2 (by omega) (by omega)) ?_
        rw [if_pos (by omega), show ((poC t i.toNat : Nat) : Int).toNat = poC t i.toNat by omega, hpl.2]
        have hr := sy_r hu.1
        have go : (lett (sgi t i.toNat) : Int) ≠ c → (holdsT (sgi t i.toNat) = true → 0 < (T c.toNat).2.2.1) → WP E m_S_exchange (d + 5) 82 [(0, aP 1), (1, aI l), (2, aI s), (4, aI c), (5, aP r), (6, aI (poC t i.toNat)), (7, aI (sy (sgi t i.toNat)))] [] τ (fun r σ' => ∃ v, r = some (aI v) ∧ τ.2 <+: σ'.2 ∧ CRes 12 200 τ b T M P tp (sp_exchange T M l s i c) v σ') := by
          intro g1 g2
          rw [hsp, if_pos ⟨hi, c2.1, c2.2, g1, g2⟩]
          have hcd : CdB 92 τ r (cC t) := (hsq.lo hb.1)
          refine b_S_exchange_82 _ _ _ _ _ _ hF (WMv.mono (c_Draft_take hF.dr hcd (cC_sym hcc.1) (by omega)) (fun τ2 hp2 hq2 => ?_))
          have hF2 := hq2.1.fix hF (by decide)
          have tail : WP E m_S_exchange (d + 5) 115 [(0, aP 1), (1, aI l), (2, aI s)] [aI ((c.toNat : Int) + (if holdsT (sgi t i.toNat) then 32 else 0)), aI (poC t i.toNat), aP 10] τ2 (fun r σ' => ∃ v, r = some (aI v) ∧ τ.2 <+: σ'.2 ∧ CRes 12 200 τ b T M P tp (some (setSq M l s L (rep t i.toNat (relab c.toNat (sgi t i.toNat))))) v σ') := by
            refine b_S_exchange_115 _ _ _ _ _ hF2 ⟨sf_10 hF2, WMv.mono (c_Draft_change hq2.2 hlt (by split <;> omega)) (fun τ3 hp3 hq3 => ?_)⟩
            have hF3 := hq3.1.fix hF2 (by decide)
            have hdr := hq3.2
            rw [cC_set hcc.1 (by omega)] at hdr
            have hlen : (cC (rep t i.toNat (relab c.toNat (sgi t i.toNat)))).length = (cC t).length := by rw [← cC_set hcc.1 (by omega), List.length_set]
            refine ⟨hF3, WMr.mono (c_Draft_made hdr (by omega)) (fun r4 τ4 hp4 hq4 => ?_)⟩
            have hc : Cf 2 25 cX τ τ4 := ((((hq2.1.tr hq3.1).cf 0 0).mono (Y := cX) (Nat.le_refl _) (Nat.le_refl _) (by decide)).tr (hq4.2.1.mono (Y := cX) (m' := 25) (Nat.le_refl _) (by omega) rfl)).mono (by omega) (by omega) (by decide)
            have hS := h.cf hc
            have e : (τ3.2.length : Int) = τ.2.length := by rw [hq3.1.1, hq2.1.1]
            have hsq4 : SqC b τ4 r4 (rep t i.toNat (relab c.toNat (sgi t i.toNat))) := SqC.lo (b := τ3.2.length) hq4.2.2 (by omega)
            refine ⟨hS.1.1, WMi.mono (c_S_become hS hk hP h1 h2 hl hs hsq4) (fun r5 τ5 hp5 hq5 => ?_)⟩
            obtain ⟨rfl, hq6, hq7⟩ := hq5
            exact ⟨Or.inr rfl, _, rfl, hc.1.trans hp5, rfl, ((hc.mono (Y := caX) (Nat.le_refl _) (Nat.le_refl _) (by decide)).tr hq6).mono (by omega) (by omega) (by decide), hq7⟩
          refine ⟨hF2, wmi_p (c_S_holds (by omega)) ⟨b2i_r _, fun c5 => ?_, fun c5 => ?_⟩⟩
          · rw [b2i_0, hsy.2.2.1] at c5
            rw [if_neg c5, show (c.toNat : Int) + 0 = c by omega] at tail
            exact tail
          · rw [b2i_n0, hsy.2.2.1] at c5
            rw [if_pos c5, show (c.toNat : Int) + 32 = c + 32 by omega] at tail
            exact tail
        refine ⟨hF, by omega, fun c5 => by omega, fun _ => wmi_p (c_S_letterOf (by omega)) ?_⟩
        rw [hsy.2.1]
        have hlett := hsy.2.2.2
        refine ⟨hF, by omega, h4, fun c5 => no (fun q => q.2.2.2.1 c5), fun c5 => wmi_p (c_S_holds (by omega)) ⟨hF, b2i_r _, fun c6 => ?_, fun c6 => ⟨h.2.1.1.2.1, wmi_p (c_Table_hasCore h.2.1.1 hT h4) ⟨b2i_r _, fun c7 => ?_, fun c7 => ?_⟩⟩⟩⟩
        · rw [b2i_0, hsy.2.2.1] at c6
          exact go c5 (fun q => absurd q c6)
        · rw [b2i_n0, tb_pos] at c7
          exact go c5 (fun _ => c7.2)
        · rw [b2i_n0, hsy.2.2.1] at c6
          rw [b2i_0, tb_pos] at c7
          exact no (fun q => c7 ⟨q.2.1, q.2.2.2.2 c6⟩)
      · rw [if_neg hi]
        refine wmi_p (c_Sq_symbol hsq.2 (by omega) (by decide)) ?_
        exact ⟨hF, by decide, fun _ => no (fun q => hi q.1), fun c5 => absurd rfl c5⟩
    · rw [b2i_0, tb_pos] at c2
      exact no (fun q => c2 ⟨q.2.1, q.2.2.1⟩)
  · rw [hn] at hq1
    refine ⟨hF, fun q => ⟨_, rfl, List.prefix_refl _, CRes.no ?_⟩, fun q => absurd hq1 q⟩
    unfold sp_exchange
    rcases hor with e | ⟨L, e1, e2⟩
    · simp only [e]
    · simp only [e1, e2]
/-- a code whose outer joints are turned -/
def tnS (x h : Int) : Int := if jt x = true ∧ h = -1 then (if x = 64 then 65 else 64) else x
theorem tn_in {t : Tr} (h : okw t) : ∀ (c o : Int), c ≠ -1 → 0 ≤ o → List.zipWith tnS (cC t) (hq c o t) = cC t := by
  induction t with
  | var l => intro c o hc ho; simp only [cC, hq, List.zipWith, tnS]; rw [if_neg (fun q => hc q.2)]
  | pow t l ih => intro c o hc ho; simp only [cC, hq, List.zipWith_cons_cons, tnS]; rw [if_neg (fun q => hc q.2), ih h.1 o (o + 1) (by omega) (by omega)]
  | mul a b iha ihb => intro c o hc ho; simp only [cC, hq, List.zipWith_cons_cons, tnS]; rw [if_neg (fun q => hc q.2), List.zipWith_append (by rw [hq_len h.1]), iha h.1 c (o + 1) hc (by omega), ihb h.2 c _ hc (by omega)]
  | add a b iha ihb => intro c o hc ho; simp only [cC, hq, List.zipWith_cons_cons, tnS]; rw [if_neg (fun q => hc q.2), List.zipWith_append (by rw [hq_len h.1]), iha h.1 c (o + 1) hc (by omega), ihb h.2 c _ hc (by omega)]
  | _ => exact absurd h (by simp [okw])
theorem tn_out {t : Tr} (h : okw t) : ∀ (o : Int), 0 ≤ o → List.zipWith tnS (cC t) (hq (-1) o t) = cC (tn t) := by
  induction t with
  | var l => intro o ho; have : vN l < 26 := h; simp only [cC, hq, List.zipWith, tnS, tn]; rw [if_neg (fun q => by have := q.1; simp only [jt, decide_eq_true_eq] at this; omega)]
  | pow t l ih => intro o ho; have := h.2; simp only [cC, hq, List.zipWith_cons_cons, tnS, tn]; rw [if_neg (fun q => by have := q.1; simp only [jt, decide_eq_true_eq] at this; omega), tn_in h.1 o (o + 1) (by omega) (by omega)]
  | mul a b iha ihb => intro o ho; simp only [cC, hq, List.zipWith_cons_cons, tn]; rw [show tnS 64 (-1) = 65 from rfl, List.zipWith_append (by rw [hq_len h.1]), iha h.1 (o + 1) (by omega), ihb h.2 _ (by omega)]
  | add a b iha ihb => intro o ho; simp only [cC, hq, List.zipWith_cons_cons, tn]; rw [show tnS 65 (-1) = 64 from rfl, List.zipWith_append (by rw [hq_len h.1]), iha h.1 (o + 1) (by omega), ihb h.2 _ (by omega)]
  | _ => exact absurd h (by simp [okw])
theorem mixed_step {Z L : List Int} {k : Nat} (hl : Z.length = L.length) (hk : k < L.length) : Z.take (k + 1) ++ L.drop (k + 1) = (Z.take k ++ L.drop k).set k (Z.getD k 0) := by
  have e1 : L.drop k = L[k] :: L.drop (k + 1) := List.drop_eq_getElem_cons hk
  have e2 : (Z.take k).length = k := by rw [List.length_take]; omega
  rw [e1]
  have := set_mid (Z.take k) (L.drop (k + 1)) L[k] (Z.getD k 0)
  rw [e2] at this
  rw [this, List.take_succ, List.getElem?_eq_getElem (by omega), List.getD_eq_getElem?_getD, List.getElem?_eq_getElem (by omega)]
  simp only [Option.toList_some, Option.getD_some, List.append_assoc, List.singleton_append]
theorem mixed_same {Z L : List Int} {k : Nat} (hl : Z.length = L.length) (hk : k < L.length) (h : Z.getD k 0 = L.getD k 0) : Z.take (k + 1) ++ L.drop (k + 1) = Z.take k ++ L.drop k := by
  rw [mixed_step hl hk, h]
  have e1 : L.drop k = L[k] :: L.drop (k + 1) := List.drop_eq_getElem_cons hk
  have e2 : (Z.take k).length = k := by rw [List.length_take]; omega
  rw [e1]
  have := set_mid (Z.take k) (L.drop (k + 1)) L[k] (L.getD k 0)
  rw [e2] at this
  rw [this, List.getD_eq_getElem?_getD, List.getElem?_eq_getElem hk]
  rfl
theorem c_S_turn {l s : Int} (h : CS σ b T M P tp) (hk : okMo T M) (hP : P.length ≤ 12) (h1 : rI l) (h2 : rI s) : WMi E m_S_turn (d + 5) [aP 1, aI l, aI s] σ (CRes 12 200 σ b T M P tp (sp_turn M l s)) := by
  have hF := h.1.1
  have hb := h.1.2
  refine e_S_turn _ _ hF (WMr.mono (c_S_squareAt h hk h1 h2) (fun r τ hp hq' => ?_))
  obtain ⟨hq1, rfl⟩ := hq'
  rcases sq_cases M l s with ⟨L, t, hl, hs, hst⟩ | ⟨hn, hor⟩
  · rw [hst] at hq1
    have hok := ((hk.ln hl).1.sq hs).1
    have hcc := hok.cc
    have hsq := hq1.2
    have hsp : sp_turn M l s = if isJ t then some (setSq M l s L (tn t)) else none := by unfold sp_turn; simp only [hl, hs]
    have h0 : (cC t).getD 0 0 = sy t := by rw [cC_sy hcc.1]; rfl
    have hsy := sy_r hcc.1
    have hj : (jt (sy t) = true) ↔ isJ t = true := by
      rw [jt_isS hcc.1]
      have ho := hok.1
      cases t <;> simp_all [isS, isJ, isM, isA, ok]
    refine ⟨hF, fun q => absurd q hq1.1, fun q => ⟨hsq.2.1, wmi_p (c_Sq_symbol hsq.2 (by omega) (by decide)) ⟨hF, ?_⟩⟩⟩
    rw [if_pos (by omega), show (0 : Int).toNat = 0 from rfl, h0]
    refine wmi_p (c_S_isJoint (by omega)) ⟨hF, b2i_r _, fun c => ?_, fun c => ⟨_, rfl, List.prefix_refl _, CRes.no ?_⟩⟩
    · rw [b2i_n0, hj] at c
      rw [hsp, if_pos c]
      have hcd : CdB 92 τ r (cC t) := hsq.lo hb.1
      have hZ : List.zipWith tnS (cC t) (hq (-1) 0 t) = cC (tn t) := tn_out hcc.1 0 (by omega)
      have hZl : (cC (tn t)).length = (cC t).length := by rw [← hZ, List.length_zipWith, hq_len hcc.1]; omega
      refine WMv.mono (c_Draft_take hF.dr hcd (cC_sym hcc.1) (by omega)) (fun τ2 hp2 hq2 => ?_)
      refine lpu (cC t).length (fun k υ => WP E m_S_turn (d + 5) 35 [(0, aP 1), (1, aI l), (2, aI s), (3, aP r), (4, aI k)] [] υ _) (fun k υ => (0 ≤ k ∧ k ≤ (cC t).length) ∧ Fr (dX 10 11) τ υ ∧ DrIs υ 10 11 ((cC (tn t)).take k.toNat ++ (cC t).drop k.toNat)) (fun k υ hI ih => ?_) 0 τ2 ⟨by omega, hq2.1, by simpa using hq2.2⟩
      obtain ⟨i1, i2, i3⟩ := hI
      have hFu := i2.fix hF (by decide)
      have hcu := hcd.cf (i2.cf 0 0) (dX_lt (by decide))
      refine b_S_turn_35 _ _ _ _ hFu ⟨hcu.2.1, wmi_p (c_Sq_length hcu.2) ⟨hFu, by omega, by omega, fun c2 => ?_, fun c2 => ⟨hcu.2.1, wmi_p (c_Sq_symbol hcu.2 (by omega) (by omega)) ⟨hFu, ?_⟩⟩⟩⟩
      · rw [List.take_of_length_le (by omega), List.drop_of_length_le (by omega), List.append_nil] at i3
        refine WMr.mono (c_Draft_made i3 (by omega)) (fun r4 τ4 hp4 hq4 => ?_)
        have hc : Cf 2 25 cX τ τ4 := (((i2.cf 0 0).mono (Y := cX) (Nat.le_refl _) (Nat.le_refl _) (by decide)).tr (hq4.2.1.mono (Y := cX) (m' := 25) (Nat.le_refl _) (by omega) rfl)).mono (by omega) (by omega) (by decide)
        have hS := h.cf hc
        have e : (υ.2.length : Int) = τ.2.length := by rw [i2.1]
        have hsq4 : SqC b τ4 r4 (tn t) := SqC.lo (b := υ.2.length) hq4.2.2 (by omega)
        refine ⟨hS.1.1, WMi.mono (c_S_become hS hk hP h1 h2 hl hs hsq4) (fun r5 τ5 hp5 hq5 => ?_)⟩
        obtain ⟨rfl, hq6, hq7⟩ := hq5
        exact ⟨Or.inr rfl, _, rfl, hc.1.trans hp5, rfl, ((hc.mono (Y := caX) (Nat.le_refl _) (Nat.le_refl _) (by decide)).tr hq6).mono (by omega) (by omega) (by decide), hq7⟩
      · rw [if_pos (by omega)]
        have hm := cC_sym hcc.1 _ (getD_mem (L := cC t) (k := k.toNat) (by omega))
        obtain ⟨y, hy⟩ : ∃ y, (hq (-1) 0 t)[k.toNat]? = some y := ⟨_, List.getElem?_eq_getElem (by rw [hq_len hcc.1]; omega)⟩
        have hz : (cC (tn t)).getD k.toNat 0 = tnS ((cC t).getD k.toNat 0) y := by
          rw [← hZ, List.getD_eq_getElem?_getD, List.getElem?_zipWith, hy, List.getD_eq_getElem?_getD, List.getElem?_eq_getElem (show k.toNat < (cC t).length by omega)]
          rfl
        have same : (cC (tn t)).getD k.toNat 0 = (cC t).getD k.toNat 0 → WP E m_S_turn (d + 5) 93 [(0, aP 1), (1, aI l), (2, aI s), (3, aP r), (4, aI k)] [] υ (fun r σ' => ∃ v, r = some (aI v) ∧ τ.2 <+: σ'.2 ∧ CRes 12 200 τ b T M P tp (some (setSq M l s L (tn t))) v σ') := by
          intro he
          refine b_S_turn_93 _ _ _ _ (ih (by omega) υ ⟨by omega, i2, ?_⟩)
          rw [show (k + 1).toNat = k.toNat + 1 by omega, mixed_same hZl (by omega) he]
          exact i3
        have chg : ∀ z : Int, (cC (tn t)).getD k.toNat 0 = z → 0 ≤ z ∧ z ≤ 65 → WP E m_S_turn (d + 5) 90 [(0, aP 1), (1, aI l), (2, aI s), (3, aP r), (4, aI k)] [aI z, aI k, aP 10] υ (fun r σ' => ∃ v, r = some (aI v) ∧ τ.2 <+: σ'.2 ∧ CRes 12 200 τ b T M P tp (some (setSq M l s L (tn t))) v σ') := by
          intro z he hz2
          have h9 := c_Draft_change (E := E) (d := d + 4) (p := k.toNat) i3 (by simp; omega) hz2
          rw [show ((k.toNat : Nat) : Int) = k by omega] at h9
          refine b_S_turn_90 _ _ _ _ _ _ _ ⟨sf_10 hFu, WMv.mono h9 (fun υ2 hp3 hq3 => b_S_turn_93 _ _ _ _ (ih (by omega) υ2 ⟨by omega, i2.tr hq3.1, ?_⟩))⟩
          rw [show (k + 1).toNat = k.toNat + 1 by omega, mixed_step hZl (by omega), he]
          exact hq3.2
        refine wmi_p (c_S_isJoint (by omega)) ⟨hFu, b2i_r _, fun c3 => ?_, fun c3 => ⟨hcu.2.1, ?_⟩⟩
        · rw [b2i_0] at c3
          exact same (by rw [hz]; unfold tnS; rw [if_neg (fun q => c3 q.1)])
        · rw [b2i_n0] at c3
          have h9 := c_Sq_holderOf (E := E) (d := d + 1) (p := k.toNat) hcu.2 hcc.1 (by omega) (by omega)
          rw [show ((k.toNat : Nat) : Int) = k by omega] at h9
          refine WMi.mono h9 (fun v υ3 _ hv => ?_)
          obtain ⟨hv1, rfl⟩ := hv
          rw [hy] at hv1
          cases hv1
          have hyr : rI y := by
            rcases hq_spec hcc.1 _ _ _ _ hy with ⟨w, -⟩ | ⟨j, u, w1, w2, w3, -⟩
            · rw [w]; decide
            · omega
          refine ⟨hFu, hyr, fun c4 => same (by rw [hz]; unfold tnS; rw [if_neg (fun q => c4 q.2)]), fun c4 => ⟨by omega, fun c5 => chg 64 ?_ (by decide), fun c5 => chg 65 ?_ (by decide)⟩⟩
          · rw [hz]; unfold tnS; rw [if_pos ⟨c3, c4⟩, if_neg c5]
          · rw [hz]; unfold tnS; rw [if_pos ⟨c3, c4⟩, if_pos c5]
    · rw [b2i_0, hj] at c
      rw [hsp, if_neg c]
  · rw [hn] at hq1
    refine ⟨hF, fun q => ⟨_, rfl, List.prefix_refl _, CRes.no ?_⟩, fun q => absurd hq1 q⟩
    unfold sp_turn
    rcases hor with e | ⟨L, e1, e2⟩
    · simp only [e]
    · simp only [e1, e2]
end CExch
