def sp_insert (T : Tb) (M : Mo) (l s i : Int) : Option Mo := match lnAt M l with
  | none => none
  | some L => match sqIn L s, sqIn L (s + 1) with
    | some t, some u => if (0 ≤ i ∧ i < sg t) ∧ holdsT (sgi t i.toNat) = false ∧ 0 < (T (lett (sgi t i.toNat))).2.2.1 ∧ sg t + sg u ≤ 10 ∧ dpS t i.toNat + 1 + dcp u ≤ 3 then some (oneSq M l s L (rep t i.toNat (.pow u (lett (sgi t i.toNat))))) else none
    | _, _ => none
section MInsert
variable {E : EV} {d : Nat} {σ : St} {T : Tb} {M : Mo} {P : List Mo} {tp : List Int}
theorem c_M_insert {l s i : Int} (h : RS σ T M P tp) (hk : okD T M P tp) (h1 : rI l) (h2 : rI s) (h3 : rI i) : WMi E m_M_insert (d + 4) [aP 42, aI l, aI s, aI i] σ (fun r τ => ActRes σ T M P tp (sp_insert T M l s i) r τ) := by
  have hF := h.1.1
  have hkM := hk.2.1
  refine e_M_insert _ _ _ hF (WMi.mono (c_M_takesSign h hkM h1 h2 h3) (fun r τ hp hq => ?_))
  obtain ⟨hf, hq⟩ := hq
  have hT := hf.fix hF (by decide)
  have hfs : Fr scr σ τ := hf.mono (by decide)
  have hRS := h.scr hfs
  rcases sq_cases M l s with ⟨L, t, hl, hs, hsq⟩ | ⟨hsq, hno⟩
  · rw [hsq] at hq
    dsimp only at hq
    obtain ⟨a1, a2, a3, a4, a5, a6, a7⟩ := h.1.2.2.sq hkM hsq
    have hL8 := (hkM.ln hl).1.1.2
    have h10 := a5.2.1
    by_cases hi : 0 ≤ i ∧ i < sg t
    · rw [if_pos hi] at hq
      obtain ⟨hR, A, B, hr, hA, hu⟩ := hq
      subst hr
      have hsg := sgi_isS a5.1 i.toNat (by omega)
      have hself0 := hu _ hsg.1
      rw [rep_self a5.1 _ (by omega)] at hself0
      have hself := hself0
      rw [rc_sign hsg.1] at hself
      have hlt := lett_lt hsg.2.1 hsg.1
      have hAl : A.length < 20 := by have := congrArg List.length hself; simp at this; omega
      have hrow := hR.2
      rw [hself] at hrow
      have hx := hrow.at_app
      rw [show (0 : Int) + A.length = A.length by omega] at hx
      have hxr : 1 ≤ τ.1 50 A.length ∧ τ.1 50 A.length ≤ 126 := by rw [hx]; split <;> omega
      have hlet : τ.1 50 A.length % 100 - 1 = lett (sgi t i.toNat) := by rw [hx]; split <;> omega
      have hho : τ.1 50 A.length < 100 ↔ holdsT (sgi t i.toNat) = false := by rw [hx]; cases holdsT (sgi t i.toNat) <;> simp <;> omega
      refine ⟨hT, by omega, fun c => by omega, fun _ => wmi_p (c_M_isSquare' hRS hkM h1 (by omega)) ?_⟩
      cases hs2 : sqIn L (s + 1) with
      | none =>
        have esp : sp_insert T M l s i = none := by simp [sp_insert, hl, hs, hs2]
        rw [esp, show sqAt M l (s + 1) = none by simp [sqAt, hl, hs2]]
        exact ⟨hT, b2i_r _, fun _ => ⟨_, rfl, hp, rfl, hfs⟩, fun c => absurd (by rw [b2i_0]; simp) c⟩
      | some u =>
        have esp : sp_insert T M l s i = if (0 ≤ i ∧ i < sg t) ∧ holdsT (sgi t i.toNat) = false ∧ 0 < (T (lett (sgi t i.toNat))).2.2.1 ∧ sg t + sg u ≤ 10 ∧ dpS t i.toNat + 1 + dcp u ≤ 3 then some (oneSq M l s L (rep t i.toNat (.pow u (lett (sgi t i.toNat))))) else none := by simp [sp_insert, hl, hs, hs2]
        have hsq2 : sqAt M l (s + 1) = some u := by simp [sqAt, hl, hs2]
        rw [esp, hsq2]
        obtain ⟨b1, b2, b3, b4, b5, b6, b7⟩ := hRS.1.2.2.sq hkM hsq2
        obtain ⟨e1, e2, e3, e4, -⟩ := hRS.1.2.2.sq hkM hsq
        have hsn := (sqIn_some hs2).2.2
        have hu10 := b5.2.1
        have no : ∀ P1 : Prop, (((0 ≤ i ∧ i < sg t) ∧ holdsT (sgi t i.toNat) = false ∧ 0 < (T (lett (sgi t i.toNat))).2.2.1 ∧ sg t + sg u ≤ 10 ∧ dpS t i.toNat + 1 + dcp u ≤ 3) → False) → ∃ v, some (aI 0) = some (aI v) ∧ σ.2 <+: τ.2 ∧ ActRes σ T M P tp (if (0 ≤ i ∧ i < sg t) ∧ holdsT (sgi t i.toNat) = false ∧ 0 < (T (lett (sgi t i.toNat))).2.2.1 ∧ sg t + sg u ≤ 10 ∧ dpS t i.toNat + 1 + dcp u ≤ 3 then some (oneSq M l s L (rep t i.toNat (.pow u (lett (sgi t i.toNat))))) else none) v τ := by
          intro _ hh
          rw [if_neg hh]
          exact ⟨_, rfl, hp, rfl, hfs⟩
        refine ⟨hT, b2i_r _, fun c => absurd c (by rw [b2i_0]; simp), fun _ => ⟨by omega, by omega, fun c => no True (fun q => ?_), fun c => ⟨by omega, wmi_p (c_M_letterOf (by omega)) ?_⟩⟩⟩
        · have := hho.mpr q.2.1; omega
        · have hnh := hho.mp (by omega)
          have q3 := (hRS.1.2.1 (lett (sgi t i.toNat)) hlt).2.2.1
          have q4 := hk.1 (lett (sgi t i.toNat)) hlt
          rw [hlet]
          refine ⟨hT, by omega, by rw [q3]; omega, fun c2 => ?_, fun c2 => no True (fun q => by rw [q3] at c2; omega)⟩
          have hcore : 0 < (T (lett (sgi t i.toNat))).2.2.1 := by rw [q3] at c2; omega
          refine wmi_p (c_M_signsOf hT e1 e2 e3 (by omega) e4 a7) ⟨hT, wmi_p (c_M_signsOf hT b1 b2 b3 (by omega) b4 b7) ⟨hT, by rw [rc_cnt a5.1, rc_cnt b5.1]; omega, fun c3 => ?_, fun c3 => no True (fun q => by rw [rc_cnt a5.1, rc_cnt b5.1] at c3; omega)⟩⟩
          rw [rc_cnt a5.1, rc_cnt b5.1] at c3
          have p1 : plc l s = 5 + 170 * l + 21 * s := rfl
          have p2 : plc l (s + 1) = 5 + 170 * l + 21 * (s + 1) := rfl
          obtain ⟨A', B', f1, f2, f3⟩ := dq_sign a5.1 i.toNat (by omega) 0 0
          have hAA : A'.length = A.length := by
            obtain ⟨y, Y, g1, g2⟩ := rc_first hsg.2.1 hsg.1
            rw [g1] at f2 hself0
            exact cnt_uniq A' A (Y ++ B') (Y ++ B) y y (by rw [← List.cons_append, ← f2, hself0, List.cons_append]) g2 g2 (by omega)
          rw [hAA] at f3
          have hlu : τ.1 47 (5 + 170 * l + 21 * (s + 1) + 1 - 1) = (rc 0 u).length := by rw [show 5 + 170 * l + 21 * (s + 1) + 1 - 1 = plc l (s + 1) by omega]; exact b3
          refine wmi_p c_M_placeOf ⟨hT, by omega, wmi_p (c_M_around a5.1 (by omega) hR.2 (by omega) ⟨24, sf_50 hT, by omega⟩ (by omega) f3) ⟨hT, wmi_p (c_M_deepIn b5.1 (by omega) b4 (by omega) ⟨683, sf_47 hT, by omega⟩ (by rw [hlu])) ⟨hT, ?_, fun c4 => ?_, fun c4 => no True (fun q => by omega)⟩⟩⟩
          · have := b5.2.2.1
            have hdp : dpS t i.toNat ≤ 20 := by
              have hm := (dq_max a5.1 0 0).1 _ (List.mem_of_getElem? f3)
              have := a5.2.2.1
              omega
            omega
          · rw [if_pos ⟨hi, hnh, hcore, by omega, by omega⟩]
            have hnew := hu (.pow u (lett (sgi t i.toNat))) rfl
            have hnl := congrArg List.length hnew
            have hsl := congrArg List.length hself
            simp only [rc, List.length_append, List.length_cons] at hnl hsl
            have hvar : (rc 0 (sgi t i.toNat)).tail = [] := by
              cases hg : sgi t i.toNat with
              | var q => rfl
              | pow q w => rw [hg] at hnh; simp [holdsT] at hnh
              | _ => rw [hg] at hsg; simp [isS] at hsg
            rw [hvar] at hself hsl
            have hlu2 := (rc_len2 b5.1 0).1
            have hlt2 := (rc_len2 a5.1 0).1
            refine WMv.mono (c_M_keeps hRS hk) (fun υ hp2 hq2 => ⟨hq2.2.1.1, WMv.mono (c_M_opens hq2.2.1.1) (fun o1 p3 q5 => ?_)⟩)
            have hFu := hq2.2.1.1
            have F1 := q5.1.fix hFu (by decide)
            have row1 : ∀ k, o1.1 50 k = τ.1 50 k := fun k => by rw [q5.1.2 _ _ rfl, hq2.1.2 _ _ rfl]
            have now1 : ∀ k, o1.1 47 k = υ.1 47 k := fun k => q5.1.2 _ _ rfl
            have hR0 := hR.2
            rw [hself0] at hR0
            have hA0 := (At.app.mp hR0).1
            refine ⟨F1, WMv.mono (c_M_addsAll (L := A) F1 q5.2 (by simp; omega) (hA0.congr (fun i _ => row1 _)) (by omega) (by omega) (by decide) ⟨24, sf_50 F1, by omega⟩) (fun o2 p4 q6 => ?_)⟩
            have F2 := q6.1.fix F1 (by decide)
            have x2 : o2.1 50 A.length = (lett (sgi t i.toNat) : Int) + 1 := by rw [q6.1.2 _ _ rfl, row1, hx, hnh]; simp
            refine ⟨F2, by omega, WMv.mono (c_M_adds F2 (by simpa using q6.2) (by omega)) (fun o3 p5 q7 => ?_)⟩
            have F3 := q7.1.fix F2 (by decide)
            have now3 : ∀ k, o3.1 47 k = υ.1 47 k := fun k => by rw [q7.1.2 _ _ rfl, q6.1.2 _ _ rfl, now1]
            obtain ⟨-, -, d3, d4, -⟩ := hq2.2.1.2.2.sq hkM hsq2
            refine ⟨F3, WMv.mono (c_M_addsAll (L := rc 0 u) F3 q7.2 (by simp; omega) (d4.move (fun i _ => by rw [now3])) (by rw [hlu]) (by omega) (by decide) ⟨683, sf_47 F3, by rw [hlu]; omega⟩) (fun o4 p6 q8 => ?_)⟩
            have F4 := q8.1.fix F3 (by decide)
            have row4 : ∀ k, o4.1 50 k = τ.1 50 k := fun k => by rw [q8.1.2 _ _ rfl, q7.1.2 _ _ rfl, q6.1.2 _ _ rfl, row1]
            have sz4 : o4.1 42 10 = (rc 0 t).length := by rw [q8.1.2 _ _ rfl, q7.1.2 _ _ rfl, q6.1.2 _ _ rfl, q5.1.2 _ _ rfl, hq2.1.2 _ _ rfl]; exact hR.1
            have hB0 : At (τ.1 50) (A.length + 1) B := by
              have hR1 := hR.2
              rw [hself] at hR1
              have := (At.cons.mp (At.app.mp hR1).2).2
              rw [show (0 : Int) + A.length + 1 = A.length + 1 by omega] at this
              exact this
            simp only [List.length_nil] at hsl
            refine ⟨F4, WMv.mono (c_M_addsAll (L := B) F4 q8.2 (by simp; omega) (hB0.congr (fun i _ => row4 _)) (by rw [sz4]; omega) (by omega) (by decide) ⟨24, sf_50 F4, by rw [sz4]; omega⟩) (fun o5 p7 q9 => ?_)⟩
            have F5 := q9.1.fix F4 (by decide)
            have eown : A ++ [o2.1 50 A.length + 100] ++ rc 0 u ++ B = rc 0 (rep t i.toNat (.pow u (lett (sgi t i.toNat)))) := by
              rw [hnew, x2]
              simp [rc]
              omega
            have q9' := q9.2
            rw [eown] at q9'
            refine ⟨F5, WMv.mono (c_M_lays F5 a1 a2 q9' (by omega)) (fun o6 p8 q10 => ?_)⟩
            have F6 := q10.1.fix F5 (by decide)
            have now5 : ∀ k, o5.1 47 k = υ.1 47 k := fun k => by rw [q9.1.2 _ _ rfl, q8.1.2 _ _ rfl, now3]
            have hn6 : o6.1 47 (3 + 170 * l) = L.2.length := by rw [q10.2.2.2 _ (by omega), now5]; exact (hq2.2.squares hl).1
            refine ⟨F6, WMv.mono (c_M_removes F6 a1 hn6 (by omega)) (fun o7 p9 q11 => ?_)⟩
            have fr7 : Fr scrN υ o7 := ((((((q5.1.mono (by decide)).tr (q6.1.mono (by decide))).tr (q7.1.mono (by decide))).tr (q8.1.mono (by decide))).tr (q9.1.mono (by decide))).tr (q10.1.mono (by decide))).tr (q11.1.mono (by decide))
            refine ⟨_, rfl, (hp.trans hp2).trans (pre_eq fr7.1), rfl, ((hfs.mono (by decide)).tr (hq2.1.mono (by decide))).tr (fr7.mono (by decide)), ?_⟩
            exact hq2.2.nowN fr7 (MoAt_one hq2.2.1.2.2 hkM hl hs (by omega) (by omega) (fun k hk2 => (q10.2.2.2 k hk2).trans (now5 k)) ⟨q10.2.1, q10.2.2.1⟩ (fun k => q11.2 k))
    · rw [if_neg hi] at hq
      subst hq
      have esp : sp_insert T M l s i = none := by
        unfold sp_insert
        simp only [hl, hs]
        cases hs2 : sqIn L (s + 1) with
        | none => rfl
        | some u => simp only; rw [if_neg (fun q => hi q.1)]
      rw [esp]
      exact ⟨hT, by decide, fun _ => ⟨_, rfl, hp, rfl, hfs⟩, fun c => absurd (by trivial) c⟩
  · have esp : sp_insert T M l s i = none := by
      rcases hno with hl | ⟨L, hl, hs⟩
      · simp [sp_insert, hl]
      · simp [sp_insert, hl, hs]
    rw [esp]
    rw [hsq] at hq
    dsimp only at hq
    subst hq
    exact ⟨hT, by decide, fun _ => ⟨_, rfl, hp, rfl, hfs⟩, fun c => absurd (by trivial) c⟩
end MInsert
