/-! JOIN -/
section CJoin
variable {E : EV} {d : Nat} {σ : St} {b : Int} {T : Tb} {M M' : Mo} {P P' : List Mo} {tp : List Int}
/-- two squares joined, none where there are not two or they hold too many signs -/
def bj : Option Tr → Option Tr → Option Tr
  | some t, some u => if sg t + sg u ≤ 10 then some (jn t u) else none
  | _, _ => none
def oOk (T : Tb) : Option Tr → Prop
  | none => True
  | some t => okS T t
theorem SqR.pos {x : Int} {o : Option Tr} (h : SqR b σ x o) : (x = 0 ↔ o = none) := by
  cases o with
  | none => exact ⟨fun _ => rfl, fun _ => h⟩
  | some t => exact ⟨fun q => absurd q h.1, fun q => by cases q⟩
theorem c_S_bothJoined {x y : Int} {o1 o2 : Option Tr} (h : CS σ b T M P tp) (hx : SqR b σ x o1) (hy : SqR b σ y o2) (k1 : oOk T o1) (k2 : oOk T o2) : WMr E m_S_bothJoined (d + 4) [aP 1, aP x, aP y] σ (fun r τ => Cf 2 25 cX σ τ ∧ SqR b τ r (bj o1 o2)) := by
  have hF := h.1.1
  have hb := h.1.2
  have none_ : bj o1 o2 = none → ∃ v, some (aP 0) = some (aP v) ∧ σ.2 <+: σ.2 ∧ Cf 2 25 cX σ σ ∧ SqR b σ v (bj o1 o2) := fun q => ⟨_, rfl, List.prefix_refl _, Cf.refl _ _ _ _, by rw [q]; rfl⟩
  refine e_S_bothJoined _ _ hF ⟨fun c => none_ ?_, fun c => ⟨fun c2 => none_ ?_, fun c2 => ?_⟩⟩
  · rw [hx.pos.mp c]; rfl
  · rw [hy.pos.mp c2]; cases o1 <;> rfl
  · cases o1 with
    | none => exact absurd hx c
    | some t =>
      cases o2 with
      | none => exact absurd hy c2
      | some u =>
        have ct := k1.cc
        have cu := k2.cc
        have hl1 := cC_len2 k1.1
        have hl2 := cC_len2 k2.1
        refine ⟨hx.2.2.1, wmi_p (c_Sq_signs hx.2.2 ct.1 (by omega)) ⟨hF, hy.2.2.1, wmi_p (c_Sq_signs hy.2.2 cu.1 (by omega)) ⟨hF, by have := k1.2.1; have := k2.2.1; omega, fun c3 => ?_, fun c3 => none_ (by simp only [bj]; rw [if_neg (by omega)])⟩⟩⟩
        have hbj : bj (some t) (some u) = some (jn t u) := by simp only [bj]; rw [if_pos (by omega)]
        rw [hbj]
        have hcx : ∀ υ, Fr (dX 10 11) σ υ → CdB 92 υ x ([] ++ (cC t ++ [])) := fun υ hυ => by
          have := (hx.2.lo hb.1).cf (hυ.cf 0 0) (dX_lt (by decide))
          simpa [CdB, SqC] using this
        have hcy : ∀ υ, Fr (dX 10 11) σ υ → CdB 92 υ y ([] ++ (cC u ++ [])) := fun υ hυ => by
          have := (hy.2.lo hb.1).cf (hυ.cf 0 0) (dX_lt (by decide))
          simpa [CdB, SqC] using this
        refine WMv.mono (c_Draft_clear hF.dr) (fun τ1 p1 q1 => ?_)
        have F1 := q1.1.fix hF (by decide)
        refine ⟨F1, WMv.mono (c_Draft_put q1.2 (by simp) (by decide)) (fun τ2 p2 q2 => ?_)⟩
        have F2 := q2.1.fix F1 (by decide)
        have f2 := q1.1.tr q2.1
        have cx2 := hcx τ2 f2
        refine ⟨F2, cx2.2.1, wmi_p (c_Sq_length cx2.2) ⟨F2, WMv.mono (c_Draft_putAll q2.2 cx2 (cC_sym ct.1) (by simp; omega) rfl (by simp) (by simp; omega)) (fun τ3 p3 q3 => ?_)⟩⟩
        have F3 := q3.1.fix F2 (by decide)
        have f3 := f2.tr q3.1
        have cy3 := hcy τ3 f3
        refine ⟨F3, cy3.2.1, wmi_p (c_Sq_length cy3.2) ⟨F3, WMv.mono (c_Draft_putAll q3.2 cy3 (cC_sym cu.1) (by simp; omega) rfl (by simp) (by simp; omega)) (fun τ4 p4 q4 => ?_)⟩⟩
        have F4 := q4.1.fix F3 (by decide)
        have f4 := f3.tr q4.1
        have hraw : DrIs τ4 10 11 (cC (.mul t u)) := by
          have e : [] ++ [64] ++ cC t ++ cC u = cC (.mul t u) := by simp [cC]
          rw [← e]; exact q4.2
        refine ⟨F4, WMv.mono (c_Draft_makeNormal hraw ⟨ct.1, cu.1⟩) (fun τ5 p5 q5 => ?_)⟩
        have F5 := q5.1.fix F4 (by decide)
        have f5 := f4.tr q5.1
        have hn : nrm (.mul t u) = jn t u := by simp only [nrm]; rw [nrm_ok k1.1, nrm_ok k2.1]
        have hd := q5.2
        rw [hn] at hd
        have hlen := jn_clen t u
        refine ⟨F5, WMr.mono (c_Draft_made hd (by omega)) (fun r τ6 p6 q6 => ⟨_, rfl, (pre_eq f5.1).trans p6, ?_, ?_, ?_⟩)⟩
        · exact (((f5.cf 0 0).mono (Y := cX) (Nat.le_refl _) (Nat.le_refl _) (by decide)).tr (q6.2.1.mono (Y := cX) (m' := 25) (Nat.le_refl _) (by omega) rfl)).mono (by omega) (by omega) (by decide)
        · have := (sh_len q6.2.2.2.1).1; omega
        · have e : (τ5.2.length : Int) = σ.2.length := by rw [f5.1]
          exact SqC.lo (b := τ5.2.length) q6.2.2 (by omega)
theorem okMo.oOk (hk : okMo T M) (l s : Int) : oOk T (sqAt M l s) := by
  rcases sq_cases M l s with ⟨L, t, hl, hs, hst⟩ | ⟨hn, -⟩
  · rw [hst]; exact ((hk.ln hl).1.sq hs).1
  · rw [hn]; trivial
theorem sqBh_eq (M : Mo) (l s : Int) : sqBh M l s = if (sqAt M l s).isSome then sqAt M l (s + 1) else none := by
  unfold sqBh sqAt
  cases hl : lnAt M l with
  | none => simp
  | some L =>
    simp only [Option.bind_some]
    cases hs : sqIn L s with
    | none => have := sqIn_none hs; simp [this]
    | some t => have := sqIn_some hs; rw [if_pos ⟨this.1, this.2.2⟩]; simp
theorem c_S_join {l s : Int} (h : CS σ b T M P tp) (hk : okMo T M) (hP : P.length ≤ 12) (h1 : rI l) (h2 : rI s) : WMi E m_S_join (d + 5) [aP 1, aI l, aI s] σ (CRes 12 200 σ b T M P tp (sp_join M l s)) := by
  have hF := h.1.1
  have hb := h.1.2
  refine e_S_join _ _ hF (WMr.mono (c_S_squareAt h hk h1 h2) (fun r τ _ hq' => ?_))
  obtain ⟨hq1, rfl⟩ := hq'
  refine ⟨hF, WMr.mono (c_S_squareBehind h hk h1 h2) (fun r2 τ2 _ hq' => ?_)⟩
  obtain ⟨hq2, rfl⟩ := hq'
  have kb : oOk T (sqBh M l s) := by rw [sqBh_eq]; split; exact hk.oOk _ _; trivial
  refine ⟨hF, WMr.mono (c_S_bothJoined h hq1 hq2 (hk.oOk _ _) kb) (fun r3 τ3 hp3 hq3 => ?_)⟩
  have hS3 := h.cf hq3.1
  refine ⟨hS3.1.1, WMr.mono (c_S_lineAt hS3 hk h1) (fun r4 τ4 _ hq' => ?_)⟩
  obtain ⟨hq4, rfl⟩ := hq'
  have hsp : (bj (sqAt M l s) (sqBh M l s) = none ∧ sp_join M l s = none) ∨ ∃ L t u, lnAt M l = some L ∧ sqIn L s = some t ∧ sqIn L (s + 1) = some u ∧ bj (sqAt M l s) (sqBh M l s) = some (jn t u) ∧ sp_join M l s = some (oneSq M l s L (jn t u)) := by
    rw [sqBh_eq]
    unfold sp_join sqAt
    cases hl : lnAt M l with
    | none => left; simp [bj]
    | some L =>
      cases hs : sqIn L s with
      | none => left; simp [hs, bj]
      | some t =>
        cases hs2 : sqIn L (s + 1) with
        | none => left; simp [hs, hs2, bj]
        | some u =>
          by_cases c : sg t + sg u ≤ 10
          · right; exact ⟨L, t, u, rfl, hs, hs2, by simp [hs, hs2, bj, c], by simp [hs, hs2, c]⟩
          · left; simp [hs, hs2, bj, c]
  rcases hsp with ⟨e1, e2⟩ | ⟨L, t, u, hl, hs, hs2, e1, e2⟩
  · rw [e1] at hq3
    refine ⟨hS3.1.1, fun c => ⟨_, rfl, hp3, ?_⟩, fun c => absurd hq3.2 c⟩
    rw [e2]
    exact ⟨rfl, hq3.1.mono (by omega) (by omega) (by decide)⟩
  · rw [e1] at hq3
    rw [hl] at hq4
    refine ⟨hS3.1.1, fun c => absurd c hq3.2.1, fun c => ⟨fun c2 => absurd c2 hq4.1, fun c2 => ⟨hq4.2.2.1, l_one hS3 hk hP h1 hl hs hs2 hq4.2 hq3.2.2 (fun τ5 hc5 hS5 => ⟨by decide, fun q => by omega, fun q => ⟨_, rfl, hp3.trans hc5.1, ?_⟩⟩)⟩⟩⟩
    rw [e2]
    exact ⟨rfl, ((hq3.1.mono (Y := caX) (Nat.le_refl _) (Nat.le_refl _) (by decide)).tr hc5).mono (by omega) (by omega) (by decide), hS5⟩
end CJoin
