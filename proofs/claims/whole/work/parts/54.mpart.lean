def fstT : Tr → Tr
  | .mul a _ => a
  | .add a _ => a
  | t => t
def rstT : Tr → Tr
  | .mul _ b => b
  | .add _ b => b
  | t => t
theorem joint_split {t : Tr} (h : ok t) (hj : isJ t = true) (h50 : sg t ≤ 50) : ∃ R, rc 0 t = nd t :: (rc 0 (fstT t) ++ R) ∧ (if 2 < ptsOf (nd t) then (nd t - 1) :: R else R) = rc 0 (rstT t) ∧ ok (fstT t) ∧ ok (rstT t) ∧ sg (fstT t) + sg (rstT t) = sg t := by
  have hp := (nd_pts h h50).1
  cases t with
  | mul a b =>
    have e : nd (.mul a b) = (nM (.mul a b) : Int) + 200 := rfl
    have e2 : ((ch (.mul a b)).length : Int) = nM (.mul a b) := congrArg Nat.cast (pM_len _)
    have e3 : nM (.mul a b) = nM b + 1 := rfl
    have hb := nM_pos b
    refine ⟨rc 1 b, by rw [e]; simp [rc, nM, fstT]; omega, ?_, h.1, h.2.1, rfl⟩
    rw [hp, e2, e3, e]
    split
    · rename_i h2
      cases b with
      | mul c d => show _ = rc 0 (.mul c d); simp [rc, nM]; omega
      | _ => simp [nM] at h2
    · rename_i h2
      have : isM b = false := by cases b <;> simp_all [isM, nM] <;> (have := nM_pos ‹Tr›; omega)
      exact rc_nM this
  | add a b =>
    have e : nd (.add a b) = (nA (.add a b) : Int) + 300 := rfl
    have e2 : ((ch (.add a b)).length : Int) = nA (.add a b) := congrArg Nat.cast (pA_len _)
    have e3 : nA (.add a b) = nA b + 1 := rfl
    have hb := nA_pos b
    refine ⟨rc 2 b, by rw [e]; simp [rc, nA, fstT]; omega, ?_, h.1, h.2.1, rfl⟩
    rw [hp, e2, e3, e]
    split
    · rename_i h2
      cases b with
      | add c d => show _ = rc 0 (.add c d); simp [rc, nA]; omega
      | _ => simp [nA] at h2
    · rename_i h2
      have : isA b = false := by cases b <;> simp_all [isA, nA] <;> (have := nA_pos ‹Tr›; omega)
      exact rc_nA this
  | _ => simp [isJ, isM, isA] at hj
def sp_part (M : Mo) (l s : Int) : Option Mo := match lnAt M l with
  | none => none
  | some L => match sqIn L s with
    | none => none
    | some t => if isJ t = true ∧ L.2.length ≠ 8 then some (twoSq M l s L (fstT t) (rstT t)) else none
def inn : Tr → Tr
  | .pow t _ => t
  | t => t
def sp_release (M : Mo) (l s i : Int) : Option Mo := match lnAt M l with
  | none => none
  | some L => match sqIn L s with
    | none => none
    | some t => if (0 ≤ i ∧ i < sg t) ∧ holdsT (sgi t i.toNat) = true ∧ L.2.length ≠ 8 then some (twoSq M l s L (rep t i.toNat (.var (lett (sgi t i.toNat)))) (inn (sgi t i.toNat))) else none
def sp_mirror (M : Mo) (l : Int) : Option Mo := match lnAt M l with
  | none => none
  | some L => some (setLn M l (!L.1, L.2))
theorem sq_cases (M : Mo) (l s : Int) : (∃ L t, lnAt M l = some L ∧ sqIn L s = some t ∧ sqAt M l s = some t) ∨ (sqAt M l s = none ∧ (lnAt M l = none ∨ ∃ L, lnAt M l = some L ∧ sqIn L s = none)) := by
  cases hl : lnAt M l with
  | none => exact Or.inr ⟨by simp [sqAt, hl], Or.inl rfl⟩
  | some L =>
    cases hs : sqIn L s with
    | none => exact Or.inr ⟨by simp [sqAt, hl, hs], Or.inr ⟨L, rfl, hs⟩⟩
    | some t => exact Or.inl ⟨L, t, rfl, hs, by simp [sqAt, hl, hs]⟩
section MPart
variable {E : EV} {d : Nat} {σ : St} {T : Tb} {M : Mo} {P : List Mo} {tp : List Int}
theorem RowIs.keep {X : List (Int × Int)} {τ : St} {K : List Int} (h : RowIs σ K) (hf : Fr X σ τ) (h1 : frO X 42 10 = true) (h2 : ∀ k, frO X 50 k = true) : RowIs τ K := ⟨(hf.2 _ _ h1).trans h.1, h.2.congr (fun i _ => hf.2 _ _ (h2 _))⟩
theorem c_M_part {l s : Int} (h : RS σ T M P tp) (hk : okD T M P tp) (h1 : rI l) (h2 : rI s) : WMi E m_M_part (d + 3) [aP 42, aI l, aI s] σ (fun r τ => ActRes σ T M P tp (sp_part M l s) r τ) := by
  have hF := h.1.1
  have hkM := hk.2.1
  refine e_M_part _ _ hF (wmi_p (c_M_isSquare' h hkM h1 h2) ?_)
  rcases sq_cases M l s with ⟨L, t, hl, hs, hsq⟩ | ⟨hsq, hno⟩
  · have esp : sp_part M l s = if isJ t = true ∧ L.2.length ≠ 8 then some (twoSq M l s L (fstT t) (rstT t)) else none := by simp [sp_part, hl, hs]
    rw [esp, hsq]
    obtain ⟨a1, a2, a3, a4, a5, a6, a7⟩ := h.1.2.2.sq hkM hsq
    have hL8 := (hkM.ln hl).1.1.2
    have hsn := (sqIn_some hs).2.2
    have hsg := sg_pos a5.1
    have h10 := a5.2.1
    refine ⟨hF, b2i_r _, fun c => absurd c (by rw [b2i_0]; simp), fun _ => wmi_p (c_M_squaresOf' h hkM hl) ⟨hF, by omega, fun c => ?_, fun c => ?_⟩⟩
    · refine WMv.mono (c_M_takes' h hkM hsq) (fun τ hp hq => ?_)
      have hT := hq.1.fix hF (by decide)
      have hfs : Fr scr σ τ := hq.1.mono (by decide)
      have hrow := hq.2.2
      rw [rc0_nd a5.1] at hrow
      have hx := hrow.hd
      have hnd := nd_pts a5.1 (by omega)
      have hnj := nd_j a5.1 (by omega)
      refine ⟨hT, wmi_p (c_M_isSign (by rw [hx]; omega)) ⟨hT, b2i_r _, fun c2 => ?_, fun c2 => ?_⟩⟩
      · rw [b2i_0, hx] at c2
        have hj : isJ t = true := hnj.1.mp (by omega)
        rw [if_pos ⟨hj, by omega⟩]
        obtain ⟨R, s1, s2, s3, s4, s5⟩ := joint_split a5.1 hj (by omega)
        have hg1 := sg_pos s3
        have hg2 := sg_pos s4
        have hl1 := (rc_len2 s3 0).1
        have hl2 := (rc_len2 s4 0).1
        have hlt := congrArg List.length s1
        simp only [List.length_cons, List.length_append] at hlt
        refine WMv.mono (c_M_keeps (h.scr hfs) hk) (fun υ hp2 hq2 => ⟨hq2.2.1.1, ?_⟩)
        have hFu := hq2.2.1.1
        have hRu : RowIs υ (rc 0 t) := hq.2.keep hq2.1 rfl (fun _ => rfl)
        have hnow := hq2.2.squares hl
        refine WMv.mono (c_M_makesRoom hFu a1 hnow.1 (by omega)) (fun ω hp3 hq3 => ?_)
        have hFo := hq3.1.fix hFu (by decide)
        have hRo : RowIs ω (rc 0 t) := hRu.keep hq3.1 rfl (fun _ => rfl)
        have hRs := hRo.2
        rw [s1] at hRs
        have hA := (At.app.mp (At.cons.mp hRs).2).1
        have hB := (At.app.mp (At.cons.mp hRs).2).2
        rw [show (0 : Int) + 1 = 1 by omega] at hA hB
        refine ⟨hFo, wmi_p (c_M_endOf s3 (by omega) hA (by omega) ⟨24, sf_50 hFo, by omega⟩) ⟨hFo, WMv.mono (c_M_opens hFo) (fun o1 p4 q4 => ?_)⟩⟩
        have F1 := q4.1.fix hFo (by decide)
        have hA1 : At (o1.1 50) 1 (rc 0 (fstT t)) := hA.congr (fun i _ => q4.1.2 _ _ rfl)
        refine ⟨F1, WMv.mono (c_M_addsAll (L := rc 0 (fstT t)) F1 q4.2 (by simp; omega) hA1 rfl (by omega) (by decide) ⟨24, sf_50 F1, by omega⟩) (fun o2 p5 q5 => ?_)⟩
        have F2 := q5.1.fix F1 (by decide)
        refine ⟨F2, WMv.mono (c_M_lays F2 a1 a2 (by simpa using q5.2) (by omega)) (fun o3 p6 q6 => ?_)⟩
        have F3 := q6.1.fix F2 (by decide)
        refine ⟨F3, WMv.mono (c_M_opens F3) (fun o4 p7 q7 => ?_)⟩
        have F4 := q7.1.fix F3 (by decide)
        -- all that was written since room was made
        have fr4 : Fr scrN ω o4 := (((q4.1.mono (by decide)).tr (q5.1.mono (by decide))).tr (q6.1.mono (by decide))).tr (q7.1.mono (by decide))
        have row4 : ∀ k, o4.1 50 k = ω.1 50 k := fun k => by rw [q7.1.2 _ _ rfl, q6.1.2 _ _ rfl, q5.1.2 _ _ rfl, q4.1.2 _ _ rfl]
        have sz4 : o4.1 42 10 = ω.1 42 10 := by rw [q7.1.2 _ _ rfl, q6.1.2 _ _ rfl, q5.1.2 _ _ rfl, q4.1.2 _ _ rfl]
        have x4 : o4.1 50 0 = nd t := (row4 0).trans hRs.hd
        -- the end of it, with what has been put down so far
        have fin : ∀ (o5 : St) (D : List Int), Fr [(51, -1), (42, 12)] o4 o5 → OwnIs o5 D → D ++ R = rc 0 (rstT t) → WP E m_M_part (d + 3) 111 [(0, aP 42), (1, aI l), (2, aI s), (3, aI (1 + (rc 0 (fstT t)).length))] [] o5 (fun r υ => ∃ v, r = some (aI v) ∧ σ.2 <+: υ.2 ∧ ActRes σ T M P tp (some (twoSq M l s L (fstT t) (rstT t))) v υ) := by
          intro o5 D f5 hD hDR
          have F5 := f5.fix F4 (by decide)
          have hDl := congrArg List.length hDR
          simp only [List.length_append] at hDl
          have hB5 : At (o5.1 50) (1 + (rc 0 (fstT t)).length) R := hB.congr (fun i _ => (f5.2 _ _ rfl).trans (row4 _))
          have sz5 : o5.1 42 10 = (rc 0 t).length := ((f5.2 _ _ rfl).trans sz4).trans hRo.1
          refine b_M_part_111 _ _ _ F5 (WMv.mono (c_M_addsAll (L := R) F5 hD (by omega) hB5 (by rw [sz5]; omega) (by omega) (by decide) ⟨24, sf_50 F5, by rw [sz5]; omega⟩) (fun o6 p8 q8 => ?_))
          have F6 := q8.1.fix F5 (by decide)
          rw [hDR] at q8
          refine ⟨F6, WMv.mono (c_M_lays F6 a1 (by omega) q8.2 (by omega)) (fun o7 p9 q9 => ?_)⟩
          have fr7 : Fr scrN ω o7 := ((fr4.tr (f5.mono (by decide))).tr (q8.1.mono (by decide))).tr (q9.1.mono (by decide))
          have n6 : ∀ k, o6.1 47 k = o3.1 47 k := fun k => by rw [q8.1.2 _ _ rfl, f5.2 _ _ rfl, q7.1.2 _ _ rfl]
          have n2 : ∀ k, o2.1 47 k = ω.1 47 k := fun k => by rw [q5.1.2 _ _ rfl, q4.1.2 _ _ rfl]
          have p1 : plc l s = 5 + 170 * l + 21 * s := rfl
          have p3 : plc l (s + 1) = 5 + 170 * l + 21 * (s + 1) := rfl
          refine ⟨_, rfl, ?_, rfl, ?_, ?_⟩
          · exact ((hp.trans hp2).trans hp3).trans (pre_eq fr7.1)
          · exact (((hfs.mono (by decide)).tr (hq2.1.mono (by decide))).tr (hq3.1.mono (by decide))).tr (fr7.mono (by decide))
          · refine hq2.2.nowN ((hq3.1.mono (by decide)).tr fr7) (MoAt_two hq2.2.1.2.2 hkM hl hs (by omega) (by omega) (fun k hk2 => ?_) ?_ ⟨q9.2.1, q9.2.2.1⟩)
            · rw [q9.2.2.2 k (by omega), n6, q6.2.2.2 k (by omega), n2]
              exact hq3.2 k
            · have hsq1 : SqAt (o3.1 47) (plc l s) (fstT t) := ⟨by simpa using q6.2.1, by simpa using q6.2.2.1⟩
              refine hsq1.move (by omega) (fun k k0 k1 => ?_)
              rw [q9.2.2.2 _ (by omega), n6]
        refine ⟨F4, wmi_p (c_M_partsOf (by rw [x4]; omega)) ⟨F4, by rw [x4, hnd.1]; have := fr_len (fun u hu => (ch_ok a5.1 u hu).1); have h9 := congrArg List.length (rc0_nd a5.1); simp only [List.length_cons] at h9; omega, fun c3 => ?_, fun c3 => ?_⟩⟩
        · rw [x4] at c3
          rw [if_neg (by omega)] at s2
          exact fin o4 [] (Fr.refl _ _) q7.2 (by simpa using s2)
        · rw [x4] at c3
          rw [if_pos (by omega)] at s2
          refine WMv.mono (c_M_adds F4 q7.2 (by simp)) (fun o5 p8 q8 => fin o5 [nd t - 1] q8.1 ?_ (by simpa using s2))
          have := q8.2
          rw [x4] at this
          simpa using this
      · rw [b2i_n0, hx] at c2
        rw [if_neg (fun q => by have := hnj.1.mpr q.1; omega)]
        exact ⟨_, rfl, hp, rfl, hfs⟩
    · rw [if_neg (fun q => q.2 (by omega))]
      exact ⟨_, rfl, List.prefix_refl _, rfl, Fr.refl _ _⟩
  · have esp : sp_part M l s = none := by
      rcases hno with hl | ⟨L, hl, hs⟩
      · simp [sp_part, hl]
      · simp [sp_part, hl, hs]
    rw [esp, hsq]
    exact ⟨hF, b2i_r _, fun _ => ⟨_, rfl, List.prefix_refl _, rfl, Fr.refl _ _⟩, fun c => absurd (by rw [b2i_0]; simp) c⟩
end MPart
