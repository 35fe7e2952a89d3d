theorem rc_pow {u : Tr} (hs : isS u = true) (hh : holdsT u = true) : rc 0 u = ((lett u : Int) + 101) :: rc 0 (inn u) := by
  cases u with
  | pow t l => rfl
  | _ => simp [holdsT] at hh
theorem inn_ok {u : Tr} (h : ok u) (hh : holdsT u = true) : ok (inn u) ∧ sg (inn u) + 1 = sg u := by
  cases u with
  | pow t l => exact ⟨h.1, rfl⟩
  | _ => simp [holdsT] at hh
def mvL {α : Type} (L : List α) (s to : Nat) (t : α) : List α := (L.eraseIdx s).insertIdx to t
def sp_move (M : Mo) (l s to : Int) : Option Mo := match lnAt M l with
  | none => none
  | some L => match sqIn L s with
    | none => none
    | some t => if (0 ≤ to ∧ to < L.2.length) ∧ s ≠ to then some (setLn M l (L.1, mvL L.2 s.toNat to.toNat t)) else none
section MRel
variable {E : EV} {d : Nat} {σ : St} {T : Tb} {M : Mo} {P : List Mo} {tp : List Int}
theorem c_M_release {l s i : Int} (h : RS σ T M P tp) (hk : okD T M P tp) (h1 : rI l) (h2 : rI s) (h3 : rI i) : WMi E m_M_release (d + 4) [aP 42, aI l, aI s, aI i] σ (fun r τ => ActRes σ T M P tp (sp_release M l s i) r τ) := by
  have hF := h.1.1
  have hkM := hk.2.1
  refine e_M_release _ _ _ hF (WMi.mono (c_M_takesSign h hkM h1 h2 h3) (fun r τ hp hq => ?_))
  obtain ⟨hf, hq⟩ := hq
  have hT := hf.fix hF (by decide)
  have hfs : Fr scr σ τ := hf.mono (by decide)
  have hRS := h.scr hfs
  rcases sq_cases M l s with ⟨L, t, hl, hs, hsq⟩ | ⟨hsq, hno⟩
  · have esp : sp_release M l s i = if (0 ≤ i ∧ i < sg t) ∧ holdsT (sgi t i.toNat) = true ∧ L.2.length ≠ 8 then some (twoSq M l s L (rep t i.toNat (.var (lett (sgi t i.toNat)))) (inn (sgi t i.toNat))) else none := by simp [sp_release, hl, hs]
    rw [esp]
    rw [hsq] at hq
    dsimp only at hq
    obtain ⟨a1, a2, a3, a4, a5, a6, a7⟩ := h.1.2.2.sq hkM hsq
    have hL8 := (hkM.ln hl).1.1.2
    have hsn := (sqIn_some hs).2.2
    have h10 := a5.2.1
    by_cases hi : 0 ≤ i ∧ i < sg t
    · rw [if_pos hi] at hq
      obtain ⟨hR, A, B, hr, hA, hu⟩ := hq
      subst hr
      have hsg := sgi_isS a5.1 i.toNat (by omega)
      have hself0 := hu _ hsg.1
      rw [rep_self a5.1 _ (by omega)] at hself0
      have hself := hself0
      rw [rc_sign hsg.1] at hself
      have hlt := lett_lt hsg.2.1 hsg.1
      have hAl : A.length < 20 := by have := congrArg List.length hself; simp at this; omega
      have hrow := hR.2
      rw [hself] at hrow
      have hx := hrow.at_app
      rw [show (0 : Int) + A.length = A.length by omega] at hx
      have hxr : 1 ≤ τ.1 50 A.length ∧ τ.1 50 A.length ≤ 126 := by rw [hx]; split <;> omega
      have hho : τ.1 50 A.length < 100 ↔ holdsT (sgi t i.toNat) = false := by rw [hx]; cases holdsT (sgi t i.toNat) <;> simp <;> omega
      refine ⟨hT, by omega, fun c => by omega, fun _ => ⟨by omega, by omega, fun c => ?_, fun c => wmi_p (c_M_squaresOf' hRS hkM hl) ⟨hT, by omega, fun c2 => ?_, fun c2 => ?_⟩⟩⟩
      · rw [if_neg (by rintro ⟨-, q, -⟩; rw [hho.mp c] at q; cases q)]
        exact ⟨_, rfl, hp, rfl, hfs⟩
      · have hh : holdsT (sgi t i.toNat) = true := by
          cases hh : holdsT (sgi t i.toNat) with
          | true => rfl
          | false => exact absurd (hho.mpr hh) c
        rw [if_pos ⟨hi, hh, by omega⟩]
        have hin := inn_ok hsg.2.1 hh
        have hpw := rc_pow hsg.1 hh
        have hll := congrArg List.length hself0
        rw [hpw] at hll
        simp only [List.length_append, List.length_cons] at hll
        have hil := rc_len2 hin.1 0
        have hip := sg_pos hin.1
        have hnew := hu (.var (lett (sgi t i.toNat))) rfl
        refine WMv.mono (c_M_keeps hRS hk) (fun υ hp2 hq2 => ⟨hq2.2.1.1, ?_⟩)
        have hFu := hq2.2.1.1
        have hRu : RowIs υ (rc 0 t) := hR.keep hq2.1 rfl (fun _ => rfl)
        have hnow := hq2.2.squares hl
        refine WMv.mono (c_M_makesRoom hFu a1 hnow.1 (by omega)) (fun ω hp3 hq3 => ?_)
        have hFo := hq3.1.fix hFu (by decide)
        have hRo : RowIs ω (rc 0 t) := hRu.keep hq3.1 rfl (fun _ => rfl)
        have hRs := hRo.2
        rw [hself0] at hRs
        have hA0 := (At.app.mp hRs).1
        have hS0 := (At.app.mp (At.app.mp hRs).2).1
        have hB0 := (At.app.mp (At.app.mp hRs).2).2
        rw [show (0 : Int) + A.length = A.length by omega] at hS0 hB0
        have hI0 := hS0
        rw [hpw] at hI0
        have hI1 := (At.cons.mp hI0).2
        have hx0 := hI0.hd
        rw [hpw] at hB0
        simp only [List.length_cons] at hB0
        refine ⟨hFo, wmi_p (c_M_endOf hsg.2.1 (by omega) hS0 (by omega) ⟨24, sf_50 hFo, by rw [hpw]; simp only [List.length_cons]; omega⟩) ⟨hFo, WMv.mono (c_M_opens hFo) (fun o1 p4 q4 => ?_)⟩⟩
        rw [hpw]
        simp only [List.length_cons]
        have F1 := q4.1.fix hFo (by decide)
        have r1 : ∀ k, o1.1 50 k = ω.1 50 k := fun k => q4.1.2 _ _ rfl
        refine ⟨F1, WMv.mono (c_M_addsAll (L := rc 0 (inn (sgi t i.toNat))) F1 q4.2 (by simp; omega) (hI1.congr (fun i _ => r1 _)) (by omega) (by omega) (by decide) ⟨24, sf_50 F1, by omega⟩) (fun o2 p5 q5 => ?_)⟩
        have F2 := q5.1.fix F1 (by decide)
        refine ⟨F2, WMv.mono (c_M_lays F2 a1 (s := s + 1) (by omega) (by simpa using q5.2) (by omega)) (fun o3 p6 q6 => ?_)⟩
        have F3 := q6.1.fix F2 (by decide)
        refine ⟨F3, WMv.mono (c_M_opens F3) (fun o4 p7 q7 => ?_)⟩
        have F4 := q7.1.fix F3 (by decide)
        have row4 : ∀ k, o4.1 50 k = ω.1 50 k := fun k => by rw [q7.1.2 _ _ rfl, q6.1.2 _ _ rfl, q5.1.2 _ _ rfl, q4.1.2 _ _ rfl]
        have sz4 : o4.1 42 10 = ω.1 42 10 := by rw [q7.1.2 _ _ rfl, q6.1.2 _ _ rfl, q5.1.2 _ _ rfl, q4.1.2 _ _ rfl]
        refine ⟨F4, WMv.mono (c_M_addsAll (L := A) F4 q7.2 (by simp; omega) (hA0.congr (fun i _ => row4 _)) (by omega) (by omega) (by decide) ⟨24, sf_50 F4, by omega⟩) (fun o5 p8 q8 => ?_)⟩
        have F5 := q8.1.fix F4 (by decide)
        refine ⟨F5, by omega, WMv.mono (c_M_adds F5 (by simpa using q8.2) (by omega)) (fun o6 p9 q9 => ?_)⟩
        have F6 := q9.1.fix F5 (by decide)
        have row6 : ∀ k, o6.1 50 k = ω.1 50 k := fun k => by rw [q9.1.2 _ _ rfl, q8.1.2 _ _ rfl, row4]
        have x5 : o5.1 50 A.length = (lett (sgi t i.toNat) : Int) + 101 := by rw [q8.1.2 _ _ rfl, row4, hx0]
        have sz6 : o6.1 42 10 = (rc 0 t).length := by rw [q9.1.2 _ _ rfl, q8.1.2 _ _ rfl, sz4]; exact hRo.1
        refine ⟨F6, WMv.mono (c_M_addsAll (L := B) F6 q9.2 (by simp; omega) (hB0.move (fun i _ => by rw [row6])) (by rw [sz6]; omega) (by omega) (by decide) ⟨24, sf_50 F6, by rw [sz6]; omega⟩) (fun o7 p10 q10 => ?_)⟩
        have F7 := q10.1.fix F6 (by decide)
        have eown : A ++ [o5.1 50 A.length - 100] ++ B = rc 0 (rep t i.toNat (.var (lett (sgi t i.toNat)))) := by
          rw [hnew, x5]
          simp [rc, vN]
          omega
        have hownl := congrArg List.length eown
        simp only [List.length_append, List.length_cons, List.length_nil] at hownl
        have q10' := q10.2
        rw [eown] at q10'
        refine ⟨F7, WMv.mono (c_M_lays F7 a1 a2 q10' (by omega)) (fun o8 p11 q11 => ?_)⟩
        have fr8 : Fr scrN ω o8 := ((((((q4.1.mono (by decide)).tr (q5.1.mono (by decide))).tr (q6.1.mono (by decide))).tr (q7.1.mono (by decide))).tr (q8.1.mono (by decide))).tr (q9.1.mono (by decide))).tr ((q10.1.mono (by decide)).tr (q11.1.mono (by decide)))
        have n7 : ∀ k, o7.1 47 k = o3.1 47 k := fun k => by rw [q10.1.2 _ _ rfl, q9.1.2 _ _ rfl, q8.1.2 _ _ rfl, q7.1.2 _ _ rfl]
        have n2 : ∀ k, o2.1 47 k = ω.1 47 k := fun k => by rw [q5.1.2 _ _ rfl, q4.1.2 _ _ rfl]
        have p1 : plc l s = 5 + 170 * l + 21 * s := rfl
        have p3 : plc l (s + 1) = 5 + 170 * l + 21 * (s + 1) := rfl
        refine ⟨_, rfl, ?_, rfl, ?_, ?_⟩
        · exact ((hp.trans hp2).trans hp3).trans (pre_eq fr8.1)
        · exact (((hfs.mono (by decide)).tr (hq2.1.mono (by decide))).tr (hq3.1.mono (by decide))).tr (fr8.mono (by decide))
        · refine hq2.2.nowN ((hq3.1.mono (by decide)).tr fr8) (MoAt_two hq2.2.1.2.2 hkM hl hs (by omega) (by omega) (fun k hk2 => ?_) ⟨q11.2.1, q11.2.2.1⟩ ?_)
          · rw [q11.2.2.2 k (by omega), n7, q6.2.2.2 k (by omega), n2]
            exact hq3.2 k
          · have hsq1 : SqAt (o3.1 47) (plc l (s + 1)) (inn (sgi t i.toNat)) := ⟨by simpa using q6.2.1, by simpa using q6.2.2.1⟩
            refine hsq1.move (by omega) (fun k k0 k1 => ?_)
            rw [q11.2.2.2 _ (by omega), n7]
      · rw [if_neg (fun q => q.2.2 (by omega))]
        exact ⟨_, rfl, hp, rfl, hfs⟩
    · rw [if_neg hi] at hq
      subst hq
      rw [if_neg (fun q => hi q.1)]
      exact ⟨hT, by decide, fun _ => ⟨_, rfl, hp, rfl, hfs⟩, fun c => absurd (by trivial) c⟩
  · have esp : sp_release M l s i = none := by
      rcases hno with hl | ⟨L, hl, hs⟩
      · simp [sp_release, hl]
      · simp [sp_release, hl, hs]
    rw [esp]
    rw [hsq] at hq
    dsimp only at hq
    subst hq
    exact ⟨hT, by decide, fun _ => ⟨_, rfl, hp, rfl, hfs⟩, fun c => absurd (by trivial) c⟩
theorem c_M_mirror {l : Int} (h : RS σ T M P tp) (hk : okD T M P tp) (h1 : rI l) : WMi E m_M_mirror (d + 2) [aP 42, aI l] σ (fun r τ => ActRes σ T M P tp (sp_mirror M l) r τ) := by
  have hF := h.1.1
  have hkM := hk.2.1
  refine e_M_mirror _ hF (wmi_p (c_M_isLine' h hkM h1) ?_)
  cases hl : lnAt M l with
  | none =>
    have esp : sp_mirror M l = none := by simp [sp_mirror, hl]
    rw [esp]
    exact ⟨hF, b2i_r _, fun c => absurd c (by rw [b2i_n0]; simp), fun _ => ⟨_, rfl, List.prefix_refl _, rfl, Fr.refl _ _⟩⟩
  | some L =>
    have esp : sp_mirror M l = some (setLn M l (!L.1, L.2)) := by simp [sp_mirror, hl]
    rw [esp]
    refine ⟨hF, b2i_r _, fun _ => WMv.mono (c_M_keeps h hk) (fun υ hp2 hq2 => ?_), fun c => absurd c (by rw [b2i_0]; simp)⟩
    have hFu := hq2.2.1.1
    have hl4 := (hkM.ln hl).2
    have fin : ∀ x : Int, x = (if L.1 then 0 else 1) → WP E m_M_mirror (d + 2) 40 [] [aI x, aI (3 + 170 * l + 1), aP 47] υ (fun r υ => ∃ v, r = some (aI v) ∧ σ.2 <+: υ.2 ∧ ActRes σ T M P tp (some (setLn M l (!L.1, L.2))) v υ) := by
      intro x hx
      refine b_M_mirror_40 _ _ _ ⟨⟨683, sf_47 hFu, by omega, by omega, by omega⟩, _, rfl, hp2, rfl, ?_, ?_⟩
      · exact (hq2.1.mono (by decide)).tr (Fr.wr (frO_a (by decide) _))
      · have fw : Fr [(47, -1)] υ (wr υ 47 (3 + 170 * l + 1) x) := Fr.wr (frO_a (by decide) _)
        have h4 := hq2.2.1.2.2.ln hl
        rw [show 0 + 3 + 170 * l = 3 + 170 * l by omega] at h4
        have hr := hkM.rows (l.toNat, L) (lnAt_some hl).2.1
        refine hq2.2.nowN (fw.mono (by decide)) (MoAt_setLn hq2.2.1.2.2 hl hkM.rows (fun k hk2 => wr_nk _ (by omega)) ⟨(wr_nk _ (by omega)).trans h4.1, ?_, fun q t hq => ?_⟩)
        · rw [wr_same, hx]
          cases L.1 <;> rfl
        · exact (h4.2.2 q t hq).move (hr.2 t (List.mem_of_getElem? hq)) (fun k k0 k1 => wr_nk _ (by omega))
    refine ⟨hFu, wmi_p (c_M_isLeft' hq2.2 hkM hl) ⟨b2i_r _, fun c => fin 1 ?_, fun c => fin 0 ?_⟩⟩
    · rw [b2i_0] at c; simp at c; simp [c]
    · rw [b2i_n0] at c; simp [c]
theorem c_M_move {l s to : Int} (h : RS σ T M P tp) (hk : okD T M P tp) (h1 : rI l) (h2 : rI s) (h3 : rI to) : WMi E m_M_move (d + 3) [aP 42, aI l, aI s, aI to] σ (fun r τ => ActRes σ T M P tp (sp_move M l s to) r τ) := by
  have hF := h.1.1
  have hkM := hk.2.1
  refine e_M_move _ _ _ hF (wmi_p (c_M_isSquare' h hkM h1 h2) ?_)
  rcases sq_cases M l s with ⟨L, t, hl, hs, hsq⟩ | ⟨hsq, hno⟩
  · have esp : sp_move M l s to = if (0 ≤ to ∧ to < L.2.length) ∧ s ≠ to then some (setLn M l (L.1, mvL L.2 s.toNat to.toNat t)) else none := by simp [sp_move, hl, hs]
    rw [esp, hsq]
    obtain ⟨a1, a2, a3, a4, a5, a6, a7⟩ := h.1.2.2.sq hkM hsq
    have hL8 := (hkM.ln hl).1.1.2
    have hsn := (sqIn_some hs).2.2
    refine ⟨hF, b2i_r _, fun c => absurd c (by rw [b2i_0]; simp), fun _ => wmi_p (c_M_isSquare' h hkM h1 h3) ⟨hF, b2i_r _, fun c => ?_, fun c => ⟨h2, h3, fun c2 => ?_, fun c2 => ?_⟩⟩⟩
    · rw [b2i_0] at c
      rw [if_neg]
      · exact ⟨_, rfl, List.prefix_refl _, rfl, Fr.refl _ _⟩
      · intro q
        apply c
        simp [sqAt, hl, sqIn, q.1.1]
        omega
    · rw [b2i_n0] at c
      have hto : 0 ≤ to ∧ to < L.2.length := by
        obtain ⟨u, hu⟩ := Option.isSome_iff_exists.mp c
        obtain ⟨L', hl', hs'⟩ := sqAt_some hu
        rw [hl] at hl'; cases hl'
        have := sqIn_some hs'
        omega
      rw [if_pos ⟨hto, c2⟩]
      refine WMv.mono (c_M_keeps h hk) (fun υ hp2 hq2 => ⟨hq2.2.1.1, ?_⟩)
      have hFu := hq2.2.1.1
      refine WMv.mono (c_M_takes' hq2.2 hkM hsq) (fun o1 p3 q3 => ?_)
      have F1 := q3.1.fix hFu (by decide)
      have hR1 : RS o1 T M (push P M) tp := hq2.2.scr (q3.1.mono (by decide))
      have hn1 := hR1.squares hl
      refine ⟨F1, WMv.mono (c_M_removes F1 a1 hn1.1 (by omega)) (fun o2 p4 q4 => ?_)⟩
      have F2 := q4.1.fix F1 (by decide)
      have hn2 : o2.1 47 (3 + 170 * l) = L.2.length - 1 := by rw [q4.2, if_pos rfl]
      refine ⟨F2, WMv.mono (c_M_makesRoom F2 a1 hn2 (by omega)) (fun o3 p5 q5 => ?_)⟩
      have F3 := q5.1.fix F2 (by decide)
      refine ⟨F3, WMv.mono (c_M_opens F3) (fun o4 p6 q6 => ?_)⟩
      have F4 := q6.1.fix F3 (by decide)
      have R4 : RowIs o4 (rc 0 t) := ((q3.2.keep q4.1 rfl (fun _ => rfl)).keep q5.1 rfl (fun _ => rfl)).keep q6.1 rfl (fun _ => rfl)
      refine ⟨F4, WMv.mono (c_M_addsAll (L := rc 0 t) F4 q6.2 (by simp; omega) R4.2 (by rw [R4.1]; omega) (by omega) (by decide) ⟨24, sf_50 F4, by rw [R4.1]; omega⟩) (fun o5 p7 q7 => ?_)⟩
      have F5 := q7.1.fix F4 (by decide)
      refine ⟨F5, WMv.mono (c_M_lays F5 a1 (s := to) (by omega) (by simpa using q7.2) (by omega)) (fun o6 p8 q8 => ?_)⟩
      have fr6 : Fr scrN o1 o6 := ((((q4.1.mono (by decide)).tr (q5.1.mono (by decide))).tr (q6.1.mono (by decide))).tr (q7.1.mono (by decide))).tr (q8.1.mono (by decide))
      have n5 : ∀ k, o5.1 47 k = o3.1 47 k := fun k => by rw [q7.1.2 _ _ rfl, q6.1.2 _ _ rfl]
      have p1 : plc l to = 5 + 170 * l + 21 * to := rfl
      have p2 : plc l s = 5 + 170 * l + 21 * s := rfl
      have p3' : plc l L.2.length = 5 + 170 * l + 21 * L.2.length := rfl
      refine ⟨_, rfl, ?_, rfl, ?_, ?_⟩
      · exact (hp2.trans p3).trans (pre_eq fr6.1)
      · exact ((hq2.1.mono (by decide)).tr (q3.1.mono (by decide))).tr (fr6.mono (by decide))
      · refine hR1.nowN fr6 ?_
        have hr := hkM.rows (l.toNat, L) (lnAt_some hl).2.1
        refine MoAt_setLn hR1.1.2.2 hl hkM.rows (fun k hk2 => ?_) ?_
        · have p4' : plc l ((L.2.length : Int) - 1) = 5 + 170 * l + 21 * ((L.2.length : Int) - 1) := rfl
          rw [q8.2.2.2 k (by omega), n5, q5.2, if_neg (by omega), if_neg (by omega), q4.2, if_neg (by omega), if_neg (by omega)]
        · have h4 := hR1.1.2.2.ln hl
          rw [show 0 + 3 + 170 * l = 3 + 170 * l by omega] at h4
          have hdel := LnAt_del (g := o2.1 47) (s := s) h4 (by omega) hL8 hr.2 (fun k _ _ => q4.2 k)
          have hlen : (L.2.eraseIdx s.toNat).length = L.2.length - 1 := List.length_eraseIdx_of_lt (by omega)
          have hlc : ((L.2.eraseIdx s.toNat).length : Int) = L.2.length - 1 := by omega
          refine LnAt_ins (f := o2.1 47) (s := to) (L := (L.1, L.2.eraseIdx s.toNat)) hdel (by show 0 ≤ to ∧ to ≤ ((L.2.eraseIdx s.toNat).length : Int); omega) (by show (L.2.eraseIdx s.toNat).length ≤ 7; omega) (fun u hu => hr.2 u (List.mem_of_mem_eraseIdx hu)) (fun k _ _ hk2 => ?_) ⟨by simpa using q8.2.1, by simpa using q8.2.2.1⟩
          show _ = roomF _ l to ((L.2.eraseIdx s.toNat).length : Int) k
          rw [hlc, q8.2.2.2 k hk2, n5]
          exact q5.2 k
    · rw [if_neg (fun q => q.2 c2)]
      exact ⟨_, rfl, List.prefix_refl _, rfl, Fr.refl _ _⟩
  · have esp : sp_move M l s to = none := by
      rcases hno with hl | ⟨L, hl, hs⟩
      · simp [sp_move, hl]
      · simp [sp_move, hl, hs]
    rw [esp, hsq]
    exact ⟨hF, b2i_r _, fun _ => ⟨_, rfl, List.prefix_refl _, rfl, Fr.refl _ _⟩, fun c => absurd (by rw [b2i_0]; simp) c⟩
end MRel
