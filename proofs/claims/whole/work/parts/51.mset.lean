def scrN : List (Int × Int) := (47, -1) :: scr
theorem LnAt_setSq {f g : Int → Int} {p s : Int} {L : Ln} {t' : Tr} (h : LnAt f p L) (hs : 0 ≤ s ∧ s < L.2.length) (hk : ∀ u ∈ L.2, (rc 0 u).length ≤ 20) (e : ∀ k, k < p + 2 + 21 * s ∨ p + 2 + 21 * s + 20 < k → g k = f k) (ht : SqAt g (p + 2 + 21 * s) t') : LnAt g p (L.1, L.2.set s.toNat t') := by
  obtain ⟨b1, b2, b3⟩ := h
  refine ⟨(e _ (by omega)).trans (by rw [b1]; exact congrArg Nat.cast (List.length_set).symm), (e _ (by omega)).trans b2, fun q t hq => ?_⟩
  by_cases hq2 : q = s.toNat
  · subst hq2
    have h5 : (L.2.set s.toNat t')[s.toNat]? = some t := hq
    rw [List.getElem?_set_self (by omega)] at h5
    cases h5
    rw [show p + 2 + 21 * ((s.toNat : Nat) : Int) = p + 2 + 21 * s by omega]
    exact ht
  · have h5 : (L.2.set s.toNat t')[q]? = some t := hq
    rw [List.getElem?_set_ne (by omega)] at h5
    obtain ⟨d1, d2⟩ := b3 q t h5
    have h7 := hk t (List.mem_of_getElem? h5)
    exact ⟨(e _ (by omega)).trans d1, d2.congr (fun i hi => e _ (by omega))⟩
theorem okMo.rows {T : Tb} {M : Mo} (hk : okMo T M) : ∀ t : Nat × Ln, M.2.2[t.1]? = some t.2 → t.2.2.length ≤ 8 ∧ ∀ u ∈ t.2.2, (rc 0 u).length ≤ 20 := by
  rintro ⟨q, K⟩ h
  have h1 := hk.2.2.2 K (List.mem_of_getElem? h)
  refine ⟨h1.1.2, fun u hu => ?_⟩
  have h2 := h1.2 u hu
  have h3 := (rc_len2 h2.1 0).1
  have h4 := h2.2.1
  omega
section MSet
variable {E : EV} {d : Nat} {σ τ : St} {T : Tb} {M : Mo} {P : List Mo} {tp : List Int}
theorem RS.nowN {M' : Mo} (h : RS σ T M P tp) (hf : Fr scrN σ τ) (hM : MoAt (τ.1 47) 0 M') : RS τ T M' P tp := by
  obtain ⟨⟨h1, h2, h3⟩, ⟨h4, h5⟩, ⟨h6, h7⟩, h8⟩ := h
  have f2 : τ.1 49 = σ.1 49 := funext (fun k => hf.2 _ _ rfl)
  have f3 : τ.1 76 = σ.1 76 := funext (fun k => hf.2 _ _ rfl)
  have f4 : τ.1 77 = σ.1 77 := funext (fun k => hf.2 _ _ rfl)
  refine ⟨⟨hf.fix h1 (by decide), fun l hl => ?_, hM⟩, ⟨(hf.2 _ _ rfl).trans h4, by rw [f2]; exact h5⟩, ⟨(hf.2 _ _ rfl).trans h6, by rw [f3]; exact h7⟩, by rw [f4]; exact h8⟩
  rw [hf.2 _ _ rfl, hf.2 _ _ rfl, hf.2 _ _ rfl, hf.2 _ _ rfl]
  exact h2 l hl
/-- a square of a moment's becomes another one -/
def setSq (M : Mo) (l s : Int) (L : Ln) (t : Tr) : Mo := setLn M l (L.1, L.2.set s.toNat t)
theorem MoAt_setSq {f g : Int → Int} {l s : Int} {L : Ln} {t t' : Tr} (h : MoAt f 0 M) (hk : okMo T M) (hl : lnAt M l = some L) (hs : sqIn L s = some t) (e : ∀ k, k < plc l s ∨ plc l s + 20 < k → g k = f k) (ht : SqAt g (plc l s) t') : MoAt g 0 (setSq M l s L t') := by
  have p1 : plc l s = 5 + 170 * l + 21 * s := rfl
  have b1 := hk.ln hl
  have b2 := b1.1.sq hs
  have b3 := sqIn_some hs
  refine MoAt_setLn h hl hk.rows (fun k hk2 => e k (by omega)) ?_
  have h4 := h.ln hl
  rw [show 0 + 3 + 170 * l = 3 + 170 * l by omega] at h4
  refine LnAt_setSq h4 ⟨b3.1, b3.2.2⟩ (hk.rows (l.toNat, L) (lnAt_some hl).2.1).2 (fun k hk2 => e k (by omega)) ?_
  rw [show 3 + 170 * l + 2 + 21 * s = plc l s by omega]
  exact ht
def actX : List (Int × Int) := (49, -1) :: (42, 8) :: scrN
/-- what an act of the reference comes to -/
abbrev ActR (σ : St) (T : Tb) (M : Mo) (P : List Mo) (tp : List Int) (M' : Mo) (τ : St) : Prop := Fr actX σ τ ∧ RS τ T M' (push P M) tp
def relab (c : Nat) : Tr → Tr
  | .var _ => .var c
  | .pow t _ => .pow t c
  | t => t
def lett : Tr → Nat
  | .var l => vN l
  | .pow _ l => l
  | _ => 0
def holdsT : Tr → Bool
  | .pow _ _ => true
  | _ => false
theorem rc_sign {u : Tr} (hs : isS u = true) : rc 0 u = ((lett u : Int) + 1 + (if holdsT u then 100 else 0)) :: (rc 0 u).tail := by
  cases u with
  | var l => simp [rc, lett, holdsT]
  | pow t l => simp [rc, lett, holdsT]; omega
  | _ => simp [isS] at hs
theorem rc_relab {u : Tr} (c : Nat) (hs : isS u = true) : rc 0 (relab c u) = ((c : Int) + 1 + (if holdsT u then 100 else 0)) :: (rc 0 u).tail := by
  cases u with
  | var l => simp [rc, relab, holdsT, vN]
  | pow t l => simp [rc, relab, holdsT]; omega
  | _ => simp [isS] at hs
theorem relab_isS {u : Tr} (c : Nat) (hs : isS u = true) : isS (relab c u) = true := by cases u <;> simp_all [isS, relab]
theorem lett_lt {u : Tr} (h : ok u) (hs : isS u = true) : lett u < 26 := by
  cases u with
  | var l => exact h
  | pow t l => exact h.2
  | _ => simp [isS] at hs
theorem At.at_app {f : Int → Int} {o x : Int} {A B : List Int} (h : At f o (A ++ (x :: B))) : f (o + A.length) = x := (At.app.mp h).2.hd
/-- one number of a row is written anew -/
theorem At.put {f g : Int → Int} {o x y : Int} {A B : List Int} (h : At f o (A ++ (x :: B))) (hy : g (o + A.length) = y) (e : ∀ k, k ≠ o + A.length → g k = f k) : At g o (A ++ (y :: B)) := by
  rw [At.app, At.cons] at h ⊢
  refine ⟨h.1.congr (fun i hi => e _ (by omega)), hy, h.2.2.congr (fun i hi => e _ (by omega))⟩
theorem c_M_exchange {l s i c : Int} (h : RS σ T M P tp) (hk : okD T M P tp) (h1 : rI l) (h2 : rI s) (h3 : rI i) (h4 : rI c) : WMi E m_M_exchange (d + 4) [aP 42, aI l, aI s, aI i, aI c] σ (fun r τ => match lnAt M l with
    | none => r = 0 ∧ Fr scr σ τ
    | some L => match sqIn L s with
      | none => r = 0 ∧ Fr scr σ τ
      | some t => if (0 ≤ i ∧ i < sg t) ∧ (0 ≤ c ∧ c ≤ 25) ∧ 0 < (T c.toNat).1 ∧ (lett (sgi t i.toNat) : Int) ≠ c ∧ (holdsT (sgi t i.toNat) = true → 0 < (T c.toNat).2.2.1) then r = 1 ∧ ActR σ T M P tp (setSq M l s L (rep t i.toNat (relab c.toNat (sgi t i.toNat)))) τ else r = 0 ∧ Fr scr σ τ) := by
  have hF := h.1.1
  have hkM := hk.2.1
  refine e_M_exchange _ _ _ _ hF (WMi.mono (c_M_takesSign h hkM h1 h2 h3) (fun r τ hp hq => ?_))
  obtain ⟨hf, hq⟩ := hq
  have hT := hf.fix hF (by decide)
  have hfs : Fr scr σ τ := hf.mono (by decide)
  have hRS := h.scr hfs
  cases hl : lnAt M l with
  | none =>
    rw [show sqAt M l s = none by simp [sqAt, hl]] at hq
    dsimp only at hq ⊢
    subst hq
    exact ⟨hT, by decide, fun _ => ⟨_, rfl, hp, rfl, hfs⟩, fun c => absurd (by trivial) c⟩
  | some L =>
    cases hs : sqIn L s with
    | none =>
      rw [show sqAt M l s = none by simp [sqAt, hl, hs]] at hq
      dsimp only at hq ⊢
      subst hq
      simp only [hs]
      exact ⟨hT, by decide, fun _ => ⟨_, rfl, hp, rfl, hfs⟩, fun c => absurd (by trivial) c⟩
    | some t =>
      have hsq : sqAt M l s = some t := by simp [sqAt, hl, hs]
      rw [hsq] at hq
      dsimp only at hq ⊢
      simp only [hs]
      obtain ⟨a1, a2, a3, a4, a5, a6, a7⟩ := h.1.2.2.sq hkM hsq
      by_cases hi : 0 ≤ i ∧ i < sg t
      · rw [if_pos hi] at hq
        obtain ⟨hR, A, B, hr, hA, hu⟩ := hq
        subst hr
        have hsg := sgi_isS a5.1 i.toNat (by omega)
        have hself := hu _ hsg.1
        rw [rep_self a5.1 _ (by omega), rc_sign hsg.1] at hself
        have hlt := lett_lt hsg.2.1 hsg.1
        have hAl : A.length < 20 := by have := congrArg List.length hself; simp at this; omega
        have hrow := hR.2
        rw [hself] at hrow
        have hx := hrow.at_app
        rw [show (0 : Int) + A.length = A.length by omega] at hx
        have hxr : 1 ≤ τ.1 50 A.length ∧ τ.1 50 A.length ≤ 126 := by rw [hx]; split <;> omega
        have hlet : τ.1 50 A.length % 100 - 1 = lett (sgi t i.toNat) := by rw [hx]; split <;> omega
        have hho : τ.1 50 A.length < 100 ↔ holdsT (sgi t i.toNat) = false := by rw [hx]; cases holdsT (sgi t i.toNat) <;> simp <;> omega
        have hTab : ∀ l, 0 ≤ l → l < 26 → rI (τ.1 43 l) := fun l q1 q2 => by
          have q3 := (hRS.1.2.1 l.toNat (by omega)).1
          rw [show ((l.toNat : Nat) : Int) = l by omega] at q3
          have q4 := hk.1 l.toNat (by omega)
          rw [q3]; omega
        refine ⟨hT, by omega, fun c => by omega, fun _ => wmi_p (c_M_isTold hT h4 hTab) ⟨hT, b2i_r _, fun c2 => ?_, fun c2 => ?_⟩⟩
        · rw [b2i_0] at c2
          refine ⟨_, rfl, hp, ?_⟩
          rw [if_neg]
          · exact ⟨rfl, hfs⟩
          · rintro ⟨-, q1, q2, -⟩
            have q3 := (hRS.1.2.1 c.toNat (by omega)).1
            rw [show ((c.toNat : Nat) : Int) = c by omega] at q3
            omega
        · rw [b2i_n0] at c2
          have q3 := (hRS.1.2.1 c.toNat (by omega))
          rw [show ((c.toNat : Nat) : Int) = c by omega] at q3
          refine ⟨by omega, wmi_p (c_M_letterOf (by omega)) ⟨hT, by omega, h4, fun c3 => ?_, fun c3 => ⟨by omega, by omega, ?_⟩⟩⟩
          · refine ⟨_, rfl, hp, ?_⟩
            rw [if_neg (by rintro ⟨-, -, -, q, -⟩; omega)]
            exact ⟨rfl, hfs⟩
          · -- what happens when it goes through
            have done : (holdsT (sgi t i.toNat) = true → 0 < (T c.toNat).2.2.1) → WP E m_M_exchange (d + 4) 63 [(0, aP 42), (1, aI l), (2, aI s), (4, aI c), (5, aI A.length)] [] τ (fun r υ => ∃ v, r = some (aI v) ∧ σ.2 <+: υ.2 ∧ (if (0 ≤ i ∧ i < sg t) ∧ (0 ≤ c ∧ c ≤ 25) ∧ 0 < (T c.toNat).1 ∧ (lett (sgi t i.toNat) : Int) ≠ c ∧ (holdsT (sgi t i.toNat) = true → 0 < (T c.toNat).2.2.1) then v = 1 ∧ ActR σ T M P tp (setSq M l s L (rep t i.toNat (relab c.toNat (sgi t i.toNat)))) υ else v = 0 ∧ Fr scr σ υ)) := by
              intro hcore
              refine b_M_exchange_63 _ _ _ _ hT (WMv.mono (c_M_keeps hRS hk) (fun υ hp2 hq2 => ?_))
              have hT2 := hq2.2.1.1
              have p1 : plc l s = 5 + 170 * l + 21 * s := rfl
              have erow : υ.1 50 A.length = τ.1 50 A.length := hq2.1.2 _ _ rfl
              refine ⟨hT2, wmi_p c_M_placeOf ⟨hT2, by omega, by omega, wmi_p (c_M_letterOf (by omega)) ⟨hT2, by omega, _, rfl, hp.trans hp2, ?_⟩⟩⟩
              rw [if_pos ⟨hi, by omega, by omega, by omega, hcore⟩]
              have fw : Fr [(47, -1)] υ (wr υ 47 (5 + 170 * l + 21 * s + 1 + A.length) (υ.1 47 (5 + 170 * l + 21 * s + 1 + A.length) + (c - (υ.1 50 A.length % 100 - 1)))) := Fr.wr (frO_a (by decide) _)
              refine ⟨rfl, ((hfs.mono (by decide)).tr (hq2.1.mono (by decide))).tr (fw.mono (by decide)), hq2.2.nowN (fw.mono (by decide)) ?_⟩
              obtain ⟨b1, b2, b3, b4, -⟩ := hq2.2.1.2.2.sq hkM hsq
              refine MoAt_setSq hq2.2.1.2.2 hkM hl hs (fun k hk2 => wr_nk _ (by omega)) ?_
              have hnew := hu _ (relab_isS c.toNat hsg.1)
              rw [rc_relab _ hsg.1] at hnew
              have hlen : (rc 0 (rep t i.toNat (relab c.toNat (sgi t i.toNat)))).length = (rc 0 t).length := by rw [hnew, hself]; simp
              refine ⟨?_, ?_⟩
              · rw [wr_nk _ (by omega), b3, hlen]
              · rw [hself] at b4
                rw [hnew]
                refine b4.put ?_ (fun k hk2 => wr_nk _ (by omega))
                have hb := b4.at_app
                rw [show 5 + 170 * l + 21 * s + 1 + (A.length : Int) = plc l s + 1 + A.length by omega, wr_same, hb, erow, hlet]
                omega
            refine ⟨fun c4 => done (fun q => by rw [hho] at c4; rw [c4] at q; cases q), fun c4 => ⟨by omega, ?_, fun c5 => done (fun _ => ?_), fun c5 => ?_⟩⟩
            · have q4 := hk.1 c.toNat (by omega)
              rw [q3.2.2.1]; omega
            · have q4 := hk.1 c.toNat (by omega)
              rw [q3.2.2.1] at c5; omega
            · refine ⟨_, rfl, hp, ?_⟩
              rw [if_neg]
              · exact ⟨rfl, hfs⟩
              · rintro ⟨-, -, -, -, q⟩
                have : holdsT (sgi t i.toNat) = true := by
                  cases hh : holdsT (sgi t i.toNat) with
                  | true => rfl
                  | false => exact absurd (hho.mpr hh) c4
                have := q this
                rw [q3.2.2.1] at c5; omega
      · rw [if_neg hi] at hq
        subst hq
        refine ⟨hT, by decide, fun _ => ⟨_, rfl, hp, ?_⟩, fun c => absurd (by trivial) c⟩
        rw [if_neg (fun q => hi q.1)]
        exact ⟨rfl, hfs⟩
end MSet
