/-! SCALE, COVERED, TIGHTEST, LEAST -/
def gr (T : Tb) (M : Mo) (t : Tr) : Int := max M.1 (max (wid T M.2.1 t) (hei T M.2.1 t))
def tm (q : Rat) (w : Int) : Int := if w = 0 then q.num else q.den
def sp_scale (T : Tb) (M : Mo) (l s w : Int) : Int := match sqAt M l s with
  | none => -1
  | some t => if 0 ≤ w ∧ w ≤ 1 then tm (Rat.divInt M.1 (gr T M t)) w else -1
/-- what the signs inside none cover -/
def area (T : Tb) : Tr → Int
  | .var l => (T (vN l)).1 * (T (vN l)).2.1
  | .pow _ l => (T l).1 * (T l).2.1
  | .mul a b => area T a + area T b
  | .add a b => area T a + area T b
  | _ => 0
def areaF (T : Tb) (ts : List Tr) : Int := (ts.map (area T)).sum
theorem areaF_app (T : Tb) (A B : List Tr) : areaF T (A ++ B) = areaF T A + areaF T B := by simp [areaF, List.sum_append]
theorem areaF_pM (T : Tb) (t : Tr) : areaF T (pM t) = area T t := by
  induction t with
  | mul a b iha ihb => simp only [pM, areaF, List.map_cons, List.sum_cons, area]; have := ihb; simp only [areaF] at this; rw [this]
  | _ => simp [pM, areaF]
theorem areaF_pA (T : Tb) (t : Tr) : areaF T (pA t) = area T t := by
  induction t with
  | add a b iha ihb => simp only [pA, areaF, List.map_cons, List.sum_cons, area]; have := ihb; simp only [areaF] at this; rw [this]
  | _ => simp [pA, areaF]
theorem areaF_ch (T : Tb) {u : Tr} (hj : isJ u = true) : areaF T (ch u) = area T u := by
  cases u with
  | mul a b => exact areaF_pM T (.mul a b)
  | add a b => exact areaF_pA T (.add a b)
  | _ => simp [isJ, isM, isA] at hj
theorem area_b {T : Tb} (hT : okTab T) {t : Tr} (h : ok t) : 0 ≤ area T t ∧ area T t ≤ 144 * sg t := by
  have one : ∀ l, l < 26 → 0 ≤ (T l).1 * (T l).2.1 ∧ (T l).1 * (T l).2.1 ≤ 144 := by
    intro l hl
    have h1 : 0 ≤ (T l).1 ∧ (T l).1 ≤ 12 ∧ 0 ≤ (T l).2.1 ∧ (T l).2.1 ≤ 12 := by have := hT l hl; omega
    have h2 := Int.mul_le_mul h1.2.1 h1.2.2.2 h1.2.2.1 (show (0 : Int) ≤ 12 by omega)
    exact ⟨Int.mul_nonneg h1.1 h1.2.2.1, by omega⟩
  induction t with
  | var l => have := one _ h; simp only [area, sg]; omega
  | pow t l ih => have := one _ h.2; simp only [area, sg]; omega
  | mul a b iha ihb => have h1 := iha h.1; have h2 := ihb h.2.1; simp only [area, sg]; omega
  | add a b iha ihb => have h1 := iha h.1; have h2 := ihb h.2.1; simp only [area, sg]; omega
  | _ => exact absurd h (by simp [ok])
def sp_covered (T : Tb) (M : Mo) (l s w : Int) : Int := match sqAt M l s with
  | none => -1
  | some t => if 0 ≤ w ∧ w ≤ 1 then tm (Rat.divInt (area T t) (gr T M t * gr T M t)) w else -1
/-- the first with the greatest number -/
def tg (f : Tr → Int) : List Tr → Int → Int → Int → Int
  | [], _, best, _ => best
  | t :: r, k, best, most => if most < f t then tg f r (k + 1) k (f t) else tg f r (k + 1) best most
theorem tg_b (f : Tr → Int) : ∀ (L : List Tr) (k best most : Int), 0 ≤ k → -1 ≤ best → best < k → -1 ≤ tg f L k best most ∧ tg f L k best most < k + L.length
  | [], k, best, most, _, h, h2 => by simp only [tg, List.length_nil]; omega
  | t :: r, k, best, most, h0, h, h2 => by
    simp only [tg, List.length_cons]
    split
    · have := tg_b f r (k + 1) k (f t) (by omega) (by omega) (by omega); omega
    · have := tg_b f r (k + 1) best most (by omega) (by omega) (by omega); omega
def sp_tightest (T : Tb) (M : Mo) (l : Int) : Int := match lnAt M l with
  | none => -1
  | some L => tg (gr T M) L.2 0 (-1) 0
def sp_least (T : Tb) (M : Mo) (l w : Int) : Int := match lnAt M l with
  | none => -1
  | some L => sp_scale T M l (tg (gr T M) L.2 0 (-1) 0) w
section MScale
variable {E : EV} {d : Nat} {σ : St} {T : Tb} {M : Mo} {P : List Mo} {tp : List Int}
theorem gr_b {t : Tr} (hkT : okTab T) (hk : okMo T M) (ht : okS T t) : 1 ≤ gr T M t ∧ gr T M t ≤ 147 ∧ M.1 ≤ gr T M t := by
  have h1 := hk.1
  have hz := size_b hkT hk.2.1 ht.1 ht.2.2.2
  have h10 := ht.2.1
  unfold gr
  omega
theorem c_M_greatest' {t : Tr} (h : RS σ T M P tp) (hkT : okTab T) (hk : okMo T M) (hR : RowIs σ (rc 0 t)) (ht : okS T t) : WMi E m_M_greatest (d + 2) [aP 42] σ (fun r τ => Fr mX σ τ ∧ Meas τ T M.2.1 t 0 ∧ r = gr T M t) := by
  have h0 : σ.1 47 0 = M.1 := h.1.2.2.1
  have h1 := hk.1
  refine WMi.mono (c_M_greatest h.1.1 hR h.1.2.1 h.1.2.2.2.1 (by rw [h0]; omega) hkT hk.2.1 ht.1 ht.2.1 ht.2.2.2) (fun r τ hp hq => ⟨hq.1, hq.2.1, ?_⟩)
  rw [hq.2.2, h0]; rfl
def scX : List (Int × Int) := (42, 16) :: (42, 17) :: (50, -1) :: (42, 10) :: mX
theorem c_M_scale {l s w : Int} (h : RS σ T M P tp) (hk : okD T M P tp) (h1 : rI l) (h2 : rI s) (h3 : rI w) : WMi E m_M_scale (d + 3) [aP 42, aI l, aI s, aI w] σ (fun r τ => r = sp_scale T M l s w ∧ Fr scX σ τ) := by
  have hF := h.1.1
  have hkM := hk.2.1
  unfold sp_scale
  refine e_M_scale _ _ _ hF (wmi_p (c_M_isSquare' h hkM h1 h2) ⟨hF, b2i_r _, fun c => ?_, fun c => wmi_p (c_M_in h3 (by decide) (by decide)) ⟨hF, b2i_r _, fun c2 => ?_, fun c2 => ?_⟩⟩)
  · rw [b2i_0] at c
    refine ⟨_, rfl, List.prefix_refl _, ?_, Fr.refl _ _⟩
    cases hs : sqAt M l s with
    | none => rfl
    | some t => exact absurd (by simp [hs]) c
  · rw [b2i_n0] at c c2
    obtain ⟨t, ht⟩ := Option.isSome_iff_exists.mp c
    obtain ⟨a1, a2, a3, a4, a5, a6, a7⟩ := h.1.2.2.sq hkM ht
    rw [ht]
    dsimp only
    rw [if_pos c2]
    refine WMv.mono (c_M_takes' h hkM ht) (fun τ hp hq => ?_)
    have hT := h.scr (hq.1.mono (by decide))
    have h0 : τ.1 47 0 = M.1 := hT.1.2.2.1
    have hM1 := hkM.1
    have hg := gr_b hk.1 hkM a5
    refine ⟨hT.1.1, by omega, WMi.mono (c_M_greatest' hT hk.1 hkM hq.2 a5) (fun r υ hp2 hq2 => ?_)⟩
    obtain ⟨f2, m2, rfl⟩ := hq2
    have hU := hT.scr (f2.mono (by decide))
    refine ⟨hU.1.1, by omega, ?_⟩
    rw [h0]
    refine WMv.mono (c_M_tells hU.1.1 (by omega) (by omega)) (fun ω hp3 hq3 => ⟨hq3.1.fix hU.1.1 (by decide), wml_p (c_M_term (hq3.1.fix hU.1.1 (by decide)) h3) ⟨_, rfl, (hp.trans hp2).trans hp3, ?_, ((hq.1.mono (by decide)).tr (f2.mono (by decide))).tr (hq3.1.mono (by decide))⟩⟩)
    rw [hq3.2.1, hq3.2.2]
    rfl
  · rw [b2i_0] at c2
    refine ⟨_, rfl, List.prefix_refl _, ?_, Fr.refl _ _⟩
    cases hs : sqAt M l s with
    | none => rfl
    | some t => dsimp only; rw [if_neg c2]
theorem c_M_tightestOf {l : Int} {L : Ln} (h : RS σ T M P tp) (hk : okD T M P tp) (hl : lnAt M l = some L) : WMi E m_M_tightestOf (d + 3) [aP 42, aI l] σ (fun r τ => r = tg (gr T M) L.2 0 (-1) 0 ∧ Fr scX σ τ) := by
  have hF := h.1.1
  have hkM := hk.2.1
  have hL8 := (hkM.ln hl).1.1.2
  refine e_M_tightestOf _ ?_
  have key : ∀ z : Nat × Int × Int × St, (z.1 ≤ L.2.length ∧ (0 ≤ z.2.2.1 ∧ z.2.2.1 ≤ 147) ∧ tg (gr T M) (L.2.drop z.1) z.1 z.2.1 z.2.2.1 = tg (gr T M) L.2 0 (-1) 0 ∧ Fr scX σ z.2.2.2) → WP E m_M_tightestOf (d + 3) 7 [(0, aP 42), (1, aI l), (2, aI z.2.1), (3, aI z.2.2.1), (4, aI z.1)] [] z.2.2.2 (fun r τ => ∃ v, r = some (aI v) ∧ σ.2 <+: τ.2 ∧ v = tg (gr T M) L.2 0 (-1) 0 ∧ Fr scX σ τ) := by
    refine lpx (fun z => L.2.length - z.1) _ _ (fun z hI ih => ?_)
    obtain ⟨k, best, most, τ⟩ := z
    obtain ⟨i1, i2, i3, i4⟩ := hI
    simp only at i1 i2 i3 i4 ih ⊢
    have hT := h.scr (i4.mono (by decide))
    refine b_M_tightestOf_7 _ _ _ _ hT.1.1 (wmi_p (c_M_squaresOf' hT hkM hl) ⟨hT.1.1, by omega, by omega, fun c => ?_, fun c => ?_⟩)
    · refine ⟨_, rfl, pre_eq i4.1, ?_, i4⟩
      rw [← i3, List.drop_eq_nil_of_le (by omega)]
      rfl
    · have hlt : k < L.2.length := by omega
      have hs : sqAt M l k = some (L.2[k]) := by simp [sqAt, hl, sqIn, hlt]
      rw [List.drop_eq_getElem_cons hlt] at i3
      generalize L.2[k] = t at hs i3
      obtain ⟨a1, a2, a3, a4, a5, a6, a7⟩ := hT.1.2.2.sq hkM hs
      have hg := gr_b hk.1 hkM a5
      refine WMv.mono (c_M_takes' hT hkM hs) (fun υ hp hq => ?_)
      have hU := hT.scr (hq.1.mono (by decide))
      refine ⟨hU.1.1, WMi.mono (c_M_greatest' hU hk.1 hkM hq.2 a5) (fun r ω hp2 hq2 => ?_)⟩
      obtain ⟨f2, m2, rfl⟩ := hq2
      have hfr : Fr scX σ ω := (i4.tr (hq.1.mono (by decide))).tr (f2.mono (by decide))
      simp only [tg] at i3
      refine ⟨by omega, by omega, fun c2 => ?_, fun c2 => ?_⟩
      · rw [if_pos c2] at i3
        have h9 := ih (k + 1, (k : Int), gr T M t, ω) (by show L.2.length - (k + 1) < L.2.length - k; omega) ⟨by show k + 1 ≤ _; omega, by show 0 ≤ gr T M t ∧ gr T M t ≤ 147; omega, by rw [← i3]; rfl, hfr⟩
        exact b_M_tightestOf_45 _ _ _ _ h9
      · rw [if_neg c2] at i3
        have h9 := ih (k + 1, best, most, ω) (by show L.2.length - (k + 1) < L.2.length - k; omega) ⟨by show k + 1 ≤ _; omega, i2, by rw [← i3]; rfl, hfr⟩
        exact b_M_tightestOf_45 _ _ _ _ h9
  exact key (0, -1, 0, σ) ⟨Nat.zero_le _, by simp, rfl, Fr.refl _ _⟩
theorem c_M_tightest {l : Int} (h : RS σ T M P tp) (hk : okD T M P tp) (h1 : rI l) : WMi E m_M_tightest (d + 4) [aP 42, aI l] σ (fun r τ => r = sp_tightest T M l ∧ Fr scX σ τ) := by
  have hF := h.1.1
  unfold sp_tightest
  refine e_M_tightest _ hF (wmi_p (c_M_isLine' h hk.2.1 h1) ⟨hF, b2i_r _, fun c => ?_, fun c => ?_⟩)
  · rw [b2i_0] at c
    refine ⟨_, rfl, List.prefix_refl _, ?_, Fr.refl _ _⟩
    cases hl : lnAt M l with
    | none => rfl
    | some L => exact absurd (by simp [hl]) c
  · rw [b2i_n0] at c
    obtain ⟨L, hl⟩ := Option.isSome_iff_exists.mp c
    rw [hl]
    exact WMi.mono (c_M_tightestOf h hk hl) (fun r τ hp hq => ⟨_, rfl, hp, hq⟩)
theorem c_M_least {l w : Int} (h : RS σ T M P tp) (hk : okD T M P tp) (h1 : rI l) (h2 : rI w) : WMi E m_M_least (d + 4) [aP 42, aI l, aI w] σ (fun r τ => r = sp_least T M l w ∧ Fr scX σ τ) := by
  have hF := h.1.1
  unfold sp_least
  refine e_M_least _ _ hF (wmi_p (c_M_isLine' h hk.2.1 h1) ⟨hF, b2i_r _, fun c => ?_, fun c => ?_⟩)
  · rw [b2i_0] at c
    refine ⟨_, rfl, List.prefix_refl _, ?_, Fr.refl _ _⟩
    cases hl : lnAt M l with
    | none => rfl
    | some L => exact absurd (by simp [hl]) c
  · rw [b2i_n0] at c
    obtain ⟨L, hl⟩ := Option.isSome_iff_exists.mp c
    have hL8 := (hk.2.1.ln hl).1.1.2
    have hb := tg_b (gr T M) L.2 0 (-1) 0 (by omega) (by omega) (by omega)
    rw [hl]
    refine WMi.mono (c_M_tightestOf h hk hl) (fun r τ hp hq => ?_)
    obtain ⟨rfl, hf⟩ := hq
    have hT := h.scr (hf.mono (by decide))
    exact ⟨hT.1.1, WMi.mono (c_M_scale hT hk h1 (by omega) h2) (fun r υ hp2 hq2 => ⟨_, rfl, hp.trans hp2, hq2.1, hf.tr hq2.2⟩)⟩
theorem c_M_covered {l s w : Int} (h : RS σ T M P tp) (hk : okD T M P tp) (h1 : rI l) (h2 : rI s) (h3 : rI w) : WMl E m_M_covered (d + 3) [aP 42, aI l, aI s, aI w] σ (fun r τ => r = sp_covered T M l s w ∧ Fr scX σ τ) := by
  have hF := h.1.1
  have hkM := hk.2.1
  unfold sp_covered
  refine e_M_covered _ _ _ hF (wmi_p (c_M_isSquare' h hkM h1 h2) ⟨hF, b2i_r _, fun c => ?_, fun c => wmi_p (c_M_in h3 (by decide) (by decide)) ⟨hF, b2i_r _, fun c2 => ?_, fun c2 => ?_⟩⟩)
  · rw [b2i_0] at c
    refine ⟨_, rfl, List.prefix_refl _, ?_, Fr.refl _ _⟩
    cases hs : sqAt M l s with
    | none => rfl
    | some t => exact absurd (by simp [hs]) c
  · rw [b2i_n0] at c c2
    obtain ⟨t, ht⟩ := Option.isSome_iff_exists.mp c
    obtain ⟨a1, a2, a3, a4, a5, a6, a7⟩ := h.1.2.2.sq hkM ht
    rw [ht]
    dsimp only
    rw [if_pos c2]
    refine WMv.mono (c_M_takes' h hkM ht) (fun τ hp hq => ?_)
    have hT := h.scr (hq.1.mono (by decide))
    have hg := gr_b hk.1 hkM a5
    have h10 := a5.2.1
    refine ⟨hT.1.1, WMi.mono (c_M_greatest' hT hk.1 hkM hq.2 a5) (fun r υ hp2 hq2 => ?_)⟩
    obtain ⟨f2, m2, rfl⟩ := hq2
    have hU := hT.scr (f2.mono (by decide))
    have hRU : RowIs υ (rc 0 t) := ⟨(f2.2 _ _ rfl).trans hq.2.1, hq.2.2.congr (fun i hi => f2.2 _ _ rfl)⟩
    have hF2 := hU.1.1
    have hab := area_b hk.1 a5.1
    refine ⟨by omega, ?_⟩
    have key : ∀ z : Nat × List Tr × Int, ((∃ A2, sb 0 t = A2 ++ sbF z.2.1 ∧ A2.length = z.1) ∧ (∀ u ∈ z.2.1, ok u) ∧ z.2.2 + areaF T z.2.1 = area T t ∧ z.1 + (fr z.2.1).length = (rc 0 t).length) → WP E m_M_covered (d + 3) 41 [(0, aP 42), (3, aI w), (4, aL (gr T M t)), (6, aL z.2.2), (8, aI z.1)] [] υ (fun r τ => ∃ v, r = some (aL v) ∧ σ.2 <+: τ.2 ∧ v = tm (Rat.divInt (area T t) (gr T M t * gr T M t)) w ∧ Fr scX σ τ) := by
      refine lpx (fun z => (fr z.2.1).length) _ _ (fun z hI ih => ?_)
      obtain ⟨k, ts, acc⟩ := z
      obtain ⟨⟨A2, i1, i2⟩, i3, i4, i5⟩ := hI
      simp only at i1 i2 i3 i4 i5 ih ⊢
      refine b_M_covered_41 _ _ _ _ hF2 ⟨by omega, by rw [hRU.1]; omega, fun c3 => ?_, fun c3 => ?_⟩
      · rw [hRU.1] at c3
        have h0 : ts = [] := by
          have := fr_len i3
          exact List.eq_nil_of_length_eq_zero (by omega)
        subst h0
        have ea : acc = area T t := by simpa [areaF] using i4
        rw [ea]
        have hgg : 1 ≤ gr T M t * gr T M t ∧ gr T M t * gr T M t ≤ 147 * 147 := by
          have q1 := Int.mul_le_mul hg.2.1 hg.2.1 (by omega) (show (0 : Int) ≤ 147 by omega)
          have q2 := Int.mul_pos (show 0 < gr T M t by omega) (show 0 < gr T M t by omega)
          omega
        refine WMv.mono (c_M_tells hF2 (by omega) (by omega)) (fun ω hp3 hq3 => ⟨hq3.1.fix hF2 (by decide), wml_p (c_M_term (hq3.1.fix hF2 (by decide)) h3) ⟨_, rfl, (hp.trans hp2).trans hp3, ?_, ((hq.1.mono (by decide)).tr (f2.mono (by decide))).tr (hq3.1.mono (by decide))⟩⟩)
        rw [hq3.2.1, hq3.2.2]
        rfl
      · rw [hRU.1] at c3
        cases ts with
        | nil => rw [fr_nil] at i5; simp at i5; omega
        | cons u us =>
          have hu := i3 u List.mem_cons_self
          have hat : (sb 0 t)[k]? = some u := by
            rw [i1, ← i2, sbF_cons, sb0_ch hu]
            simp
          obtain ⟨u1, u2, u3, u4⟩ := sbT_at a5.1 0 (υ.1 50) 0 hRU.2 k u hat
          rw [show (0 : Int) + (k : Int) = k by omega] at u1
          have hx : υ.1 50 k = nd u := by have h9 := u1; rw [rc0_nd u2] at h9; exact h9.hd
          obtain ⟨m3, m4, m5⟩ := m2 k u (by omega) hat
          have hnd := nd_pts u2 (by omega)
          have hnj := nd_j u2 (by omega)
          have i5' := i5
          rw [fr_cons, List.length_append] at i5'
          have hsum : areaF T (u :: us) = area T u + areaF T us := by simp [areaF]
          refine ⟨by omega, wmi_p (c_M_isSign (by omega)) ⟨hF2, b2i_r _, fun c4 => ?_, fun c4 => ⟨by omega, by omega, ?_⟩⟩⟩
          · rw [b2i_0, hx] at c4
            have hju : isJ u = true := hnj.1.mp (by omega)
            have e1 : fr (u :: us) = nd u :: fr (ch u ++ us) := by rw [fr_cons, rc0_nd hu, fr_app]; rfl
            rw [e1] at i5
            simp only [List.length_cons] at i5
            have h9 := ih (k + 1, ch u ++ us, acc) (by show (fr (ch u ++ us)).length < (fr (u :: us)).length; rw [e1]; simp) ⟨⟨A2 ++ [u], by show sb 0 t = (A2 ++ [u]) ++ sbF (ch u ++ us); rw [i1, sbF_cons, sb0_ch hu, sbF_app]; simp, by simp [i2]⟩, fun w hw => ?_, by show acc + areaF T (ch u ++ us) = area T t; rw [areaF_app, areaF_ch T hju]; omega, by show k + 1 + (fr (ch u ++ us)).length = _; omega⟩
            · exact h9
            · rcases List.mem_append.mp hw with hw | hw
              · exact (ch_ok hu w hw).1
              · exact i3 w (List.mem_cons_of_mem _ hw)
          · rw [b2i_n0, hx] at c4
            have hus : isS u = true := by
              cases hh : isJ u with
              | false => exact (isS_tn u2 hh).1
              | true => exact absurd (hnj.1.mpr hh) (by omega)
            have hA : wid T M.2.1 u * hei T M.2.1 u = area T u := by cases u <;> simp_all [isS, wid, hei, area]
            have hub := area_b hk.1 u2
            rw [m3, m4, m5, hA]
            refine ⟨by omega, by omega, ?_⟩
            have hul := (rc_len2 u2 0).2
            have hup := sg_pos u2
            have h9 := ih (k + (rc 0 u).length, us, acc + area T u) (by show (fr us).length < (fr (u :: us)).length; rw [fr_cons, List.length_append]; omega) ⟨⟨A2 ++ sb 0 u, by show sb 0 t = (A2 ++ sb 0 u) ++ sbF us; rw [i1, sbF_cons]; simp, by show (A2 ++ sb 0 u).length = k + (rc 0 u).length; rw [List.length_append, i2, sb_len]⟩, fun w hw => i3 w (List.mem_cons_of_mem _ hw), by show acc + area T u + areaF T us = area T t; omega, by show k + (rc 0 u).length + (fr us).length = _; omega⟩
            simp only at h9
            rw [show ((k + (rc 0 u).length : Nat) : Int) = (k : Int) + ((rc 0 u).length : Int) by omega] at h9
            exact h9
    exact key (0, [t], 0) ⟨⟨[], by simp [sbF], rfl⟩, by simpa using a5.1, by simp [areaF], by rw [fr_one]; simp⟩
  · rw [b2i_0] at c2
    refine ⟨_, rfl, List.prefix_refl _, ?_, Fr.refl _ _⟩
    cases hs : sqAt M l s with
    | none => rfl
    | some t => dsimp only; rw [if_neg c2]
end MScale
