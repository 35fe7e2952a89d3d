/-! FRACTIONS, SPANS, SCALE, COVERED, TIGHTEST, LEAST, SQUARE -/
theorem two_mod {x y : Nat} (hy : 0 < y) (h : y ≤ x) : 2 * (x % y) ≤ x := by
  have h1 := Nat.mod_lt x hy
  have h2 := Nat.mod_add_div x y
  have h3 : 1 ≤ x / y := (Nat.one_le_div_iff hy).mpr h
  have h4 : y * 1 ≤ y * (x / y) := Nat.mul_le_mul_left y h3
  omega
section CScale
variable {E : EV} {d : Nat} {σ : St} {b : Int} {T : Tb} {M : Mo} {P : List Mo} {tp : List Int} {t : Tr}
theorem c_S_greatestDivisor {x y : Int} (hx : -9223372036854775807 ≤ x ∧ x ≤ 9223372036854775807) (hy : -9223372036854775807 ≤ y ∧ y ≤ 9223372036854775807) (hxy : x.natAbs * y.natAbs < 2 ^ 97) : WMl E m_S_greatestDivisor (d + 1) [aL x, aL y] σ (fun r τ => r = Int.gcd x y ∧ τ = σ) := by
  have key : ∀ z : Nat × Nat × Nat, ((Nat.gcd z.2.1 z.2.2 = Int.gcd x y ∧ z.2.1 ≤ 9223372036854775807 ∧ z.2.2 ≤ 9223372036854775807) ∧ z.1 ≤ 100 ∧ ((z.1 = 0 ∧ z.2.1 * z.2.2 < 2 ^ 97) ∨ (z.2.2 ≤ z.2.1 ∧ z.2.1 * z.2.2 < 2 ^ (98 - z.1)))) → WP E m_S_greatestDivisor (d + 1) 15 [(4, aL z.2.1), (6, aL z.2.2), (8, aI z.1)] [] σ (fun r τ => ∃ v, r = some (aL v) ∧ σ.2 <+: τ.2 ∧ v = Int.gcd x y ∧ τ = σ) := by
    refine lpx (fun z => z.2.2) _ _ (fun z hI ih => ?_)
    obtain ⟨s, u, v⟩ := z
    obtain ⟨⟨i1, i2, i3⟩, i4, i5⟩ := hI
    simp only at i1 i2 i3 i4 i5 ih ⊢
    have zero : v = 0 → ((u : Nat) : Int) = Int.gcd x y := by
      intro h0
      subst h0
      rw [Nat.gcd_zero_right] at i1
      rw [i1]
    refine b_S_greatestDivisor_15 _ _ _ ⟨by omega, fun c => rl_p (zero ?_), fun c => ⟨by unfold rL; omega, fun c2 => rl_p (zero (by omega)), fun c2 => ⟨by omega, ?_⟩⟩⟩
    · obtain rfl : s = 100 := by omega
      rcases i5 with ⟨h1, -⟩ | ⟨h1, h2⟩
      · omega
      · have h3 : u * v = 0 := by
          have : u * v < 1 := h2
          omega
        rcases Nat.mul_eq_zero.mp h3 with h4 | h4 <;> omega
    · have hv : 0 < v := by omega
      have hm := Nat.mod_lt u hv
      have h9 := ih (s + 1, v, u % v) hm ⟨⟨by show Nat.gcd v (u % v) = _; rw [← i1, Nat.gcd_comm u v, Nat.gcd_rec v u, Nat.gcd_comm], i3, by show u % v ≤ _; omega⟩, by show s + 1 ≤ 100; omega, Or.inr ⟨by show u % v ≤ v; omega, ?_⟩⟩
      · simp only at h9
        rw [show ((u % v : Nat) : Int) = (u : Int) % (v : Int) by omega, show ((s + 1 : Nat) : Int) = (s : Int) + 1 by omega] at h9
        exact h9
      · show v * (u % v) < 2 ^ (98 - (s + 1))
        rcases i5 with ⟨h1, h2⟩ | ⟨h1, h2⟩
        · subst h1
          have h3 : v * (u % v) ≤ v * u := Nat.mul_le_mul_left v (Nat.mod_le u v)
          rw [Nat.mul_comm v u] at h3
          exact Nat.lt_of_le_of_lt h3 h2
        · have h3 : v * (2 * (u % v)) ≤ v * u := Nat.mul_le_mul_left v (two_mod hv h1)
          have h4 : 1 * 1 ≤ u * v := Nat.mul_le_mul (by omega) hv
          have h5 : s < 98 := by
            refine Nat.lt_of_not_le (fun q => ?_)
            rw [show 98 - s = 0 by omega] at h2
            have : u * v < 1 := h2
            omega
          rw [show 98 - s = (98 - (s + 1)) + 1 by omega, Nat.pow_succ] at h2
          rw [Nat.mul_left_comm] at h3
          rw [Nat.mul_comm v u] at h3
          omega
  refine e_S_greatestDivisor _ _ ⟨by unfold rL; omega, by unfold rL; omega, ?_⟩
  have h9 := key (0, x.natAbs, y.natAbs) ⟨⟨rfl, by show x.natAbs ≤ _; omega, by show y.natAbs ≤ _; omega⟩, Nat.zero_le _, Or.inl ⟨rfl, hxy⟩⟩
  simp only at h9
  rw [show ((x.natAbs : Nat) : Int) = max x (-x) by omega, show ((y.natAbs : Nat) : Int) = max y (-y) by omega] at h9
  exact h9
theorem c_S_fraction {x y w : Int} (hx : -9223372036854775807 ≤ x ∧ x ≤ 9223372036854775807) (hy : 0 < y ∧ y ≤ 9223372036854775807) (hxy : x.natAbs * y.natAbs < 2 ^ 97) (hw : rI w) : WMl E m_S_fraction (d + 2) [aL x, aL y, aI w] σ (fun r τ => r = (if 0 ≤ w ∧ w ≤ 1 then tm (Rat.divInt x y) w else -1) ∧ τ = σ) := by
  obtain ⟨g, g1, g2, g3, g4⟩ := rat_red (n := x) hy.1
  refine e_S_fraction _ _ _ (wml_p (c_S_greatestDivisor hx (by omega) hxy) ?_)
  rw [← g4]
  have hgb : (g : Int) ≤ y := Int.le_of_dvd hy.1 ⟨(Rat.divInt x y).den, by rw [Int.mul_comm]; exact g3⟩
  refine ⟨by unfold rL; omega, fun c => by omega, fun c => ⟨hw, fun c2 => rl_p ?_, fun c2 => ⟨hw, fun c3 => ⟨hw, fun c4 => ⟨⟨by unfold rL; omega, by omega, by omega⟩, rl_p ?_⟩, fun c4 => ⟨⟨by unfold rL; omega, by omega, by omega⟩, rl_p ?_⟩⟩, fun c3 => rl_p ?_⟩⟩⟩
  · rw [if_neg (by omega)]
  · rw [if_pos (by omega)]
    unfold tm
    rw [if_neg c4]
    conv => lhs; rw [g3]
    exact Int.mul_tdiv_cancel _ (by omega)
  · rw [if_pos (by omega)]
    unfold tm
    rw [if_pos c4]
    conv => lhs; rw [g2]
    exact Int.mul_tdiv_cancel _ (by omega)
  · rw [if_neg (by omega)]
theorem c_S_measured {x : Int} (h : CS σ b T M P tp) (hT : okTab T) (hk : okMo T M) (hx : SqC b σ x t) (ht : okw t) (hl : (cC t).length ≤ 24) : WMr E m_S_measured (d + 4) [aP 1, aP x] σ (fun r τ => r = 23 ∧ Fr mlX σ τ ∧ τ.1 23 7 = (cC t).length ∧ LMs τ T M.2.1 t (-1)) := by
  have hF := h.1.1
  have hm := h.2.1.2
  refine e_S_measured _ hF ⟨hm.2.1, ?_⟩
  rw [hm.2.2.2.1.2]
  exact WMv.mono (c_Layout_measure hF (hx.lo h.1.2.1) h.2.1.1 hT hk.2.1 ht hl) (fun τ hp hq => ⟨hq.1.fix hF (by decide), _, rfl, hp, rfl, hq⟩)
theorem c_S_spanOf {x : Int} (h : CS σ b T M P tp) (hT : okTab T) (hk : okMo T M) (hx : SqC b σ x t) (hx0 : x ≠ 0) (ht : okw t) (hl : (cC t).length ≤ 24) : WMi E m_S_spanOf (d + 5) [aP 1, aP x] σ (fun r τ => r = gr T M t ∧ Fr mlX σ τ) := by
  have hF := h.1.1
  refine e_S_spanOf _ hF ⟨fun _ => WMr.mono (c_S_measured h hT hk hx ht hl) (fun r τ hp hq => ?_), fun q => absurd q hx0⟩
  obtain ⟨rfl, h1, h2, h3⟩ := hq
  have S1 := h.cf ((h1.cf 0 0).mono (Y := cX) (Nat.le_refl _) (Nat.le_refl _) (by decide))
  have hm := S1.2.1.2
  refine ⟨S1.1.1, hm.2.1, sf_23 S1.1.1, ?_⟩
  rw [hm.2.2.2.1.1]
  have := hk.1
  exact wmi_p (c_Layout_span S1.1.1 h2 h3 hT hk.2.1 ht hl (by omega)) ⟨_, rfl, hp, rfl, h1⟩
theorem c_S_scaleOf {x w : Int} (h : CS σ b T M P tp) (hT : okTab T) (hk : okMo T M) (hx : SqC b σ x t) (hx0 : x ≠ 0) (ht : okS T t) (hw : rI w) : WMi E m_S_scaleOf (d + 6) [aP 1, aP x, aI w] σ (fun r τ => r = (if 0 ≤ w ∧ w ≤ 1 then tm (Rat.divInt M.1 (gr T M t)) w else -1) ∧ Fr mlX σ τ) := by
  have hm := h.2.1.2
  have hM := hk.1
  have hg := gr_b hT hk ht
  have hcc := ht.cc
  refine e_S_scaleOf _ _ h.1.1 ⟨hm.2.1, by rw [hm.2.2.2.1.1]; omega, WMi.mono (c_S_spanOf h hT hk hx hx0 hcc.1 (by omega)) (fun r τ hp hq => ?_)⟩
  obtain ⟨rfl, hf⟩ := hq
  rw [hm.2.2.2.1.1]
  have hb1 : M.1.natAbs ≤ 24 := by omega
  have hb2 : (gr T M t).natAbs ≤ 147 := by omega
  have hb3 := Nat.mul_le_mul hb1 hb2
  refine ⟨by omega, wml_p (c_S_fraction (by omega) (by omega) (Nat.lt_of_le_of_lt hb3 (by decide)) hw) ⟨_, rfl, hp, rfl, hf⟩⟩
theorem c_S_scale {l s w : Int} (h : CS σ b T M P tp) (hT : okTab T) (hk : okMo T M) (h1 : rI l) (h2 : rI s) (h3 : rI w) : WMi E m_S_scale (d + 7) [aP 1, aI l, aI s, aI w] σ (fun r τ => r = sp_scale T M l s w ∧ Fr cX σ τ) := by
  refine e_S_scale _ _ _ h.1.1 (WMr.mono (c_S_squareAt h hk h1 h2) (fun r τ _ hq => ?_))
  obtain ⟨hq1, rfl⟩ := hq
  have ho := hk.oOk l s
  unfold sp_scale
  cases hs : sqAt M l s with
  | none => rw [hs] at hq1; exact ⟨h.1.1, fun c => absurd hq1 c, fun c => ⟨_, rfl, List.prefix_refl _, rfl, Fr.refl _ _⟩⟩
  | some t =>
    rw [hs] at hq1 ho
    exact ⟨h.1.1, fun c => WMi.mono (c_S_scaleOf h hT hk hq1.2 hq1.1 ho h3) (fun r2 τ2 hp2 hq2 => ⟨_, rfl, hp2, hq2.1, hq2.2.mono (by decide)⟩), fun c => absurd c hq1.1⟩
/-- what one place adds to the area -/
def arS (T : Tb) (x h : Int) : Int := if jt x = true then 0 else if h = -1 then tb tW T (ltr x) * tb tH T (ltr x) else 0
theorem ar_sign {u : Tr} (h : okw u) (hs : isS u = true) (e : Int) : arS T (sy u) e = if e = -1 then (T (lett u)).1 * (T (lett u)).2.1 else 0 := by
  obtain ⟨s1, s2, s3, s4⟩ := sy_sign h hs
  unfold arS
  rw [jt_isS h, hs, if_neg (by decide), s2, tb_nat s4, tb_nat s4]
  rfl
theorem ar_in {t : Tr} (h : okw t) : ∀ (c o : Int), c ≠ -1 → 0 ≤ o → (List.zipWith (arS T) (cC t) (hq c o t)).sum = 0 := by
  induction t with
  | var l => intro c o hc ho; simp only [cC, hq, List.zipWith, List.sum_cons, List.sum_nil]; unfold arS; split <;> rfl
  | pow t l ih => intro c o hc ho; simp only [cC, hq, List.zipWith_cons_cons, List.sum_cons]; rw [ih h.1 o (o + 1) (by omega) (by omega)]; unfold arS; split <;> rfl
  | mul a b iha ihb => intro c o hc ho; simp only [cC, hq, List.zipWith_cons_cons, List.sum_cons]; rw [List.zipWith_append (by rw [hq_len h.1]), List.sum_append, iha h.1 c (o + 1) hc (by omega), ihb h.2 c _ hc (by omega)]; rfl
  | add a b iha ihb => intro c o hc ho; simp only [cC, hq, List.zipWith_cons_cons, List.sum_cons]; rw [List.zipWith_append (by rw [hq_len h.1]), List.sum_append, iha h.1 c (o + 1) hc (by omega), ihb h.2 c _ hc (by omega)]; rfl
  | _ => exact absurd h (by simp [okw])
theorem ar_out {t : Tr} (h : okw t) : ∀ (o : Int), 0 ≤ o → (List.zipWith (arS T) (cC t) (hq (-1) o t)).sum = area T t := by
  induction t with
  | var l => intro o ho; have e := ar_sign (T := T) (u := .var l) h rfl (-1); rw [if_pos rfl] at e; simp only [cC, hq, List.zipWith, List.sum_cons, List.sum_nil, area]; rw [show arS T (vN l : Int) (-1) = _ from e]; show _ + 0 = _; rw [Int.add_zero]; rfl
  | pow t l ih => intro o ho; have e := ar_sign (T := T) (u := .pow t l) h rfl (-1); rw [if_pos rfl] at e; simp only [cC, hq, List.zipWith_cons_cons, List.sum_cons, area]; rw [ar_in h.1 o (o + 1) (by omega) (by omega), show arS T ((l : Int) + 32) (-1) = _ from e, Int.add_zero]; rfl
  | mul a b iha ihb => intro o ho; simp only [cC, hq, List.zipWith_cons_cons, List.sum_cons, area]; rw [List.zipWith_append (by rw [hq_len h.1]), List.sum_append, iha h.1 (o + 1) (by omega), ihb h.2 _ (by omega), show arS T 64 (-1) = 0 from rfl, Int.zero_add]
  | add a b iha ihb => intro o ho; simp only [cC, hq, List.zipWith_cons_cons, List.sum_cons, area]; rw [List.zipWith_append (by rw [hq_len h.1]), List.sum_append, iha h.1 (o + 1) (by omega), ihb h.2 _ (by omega), show arS T 65 (-1) = 0 from rfl, Int.zero_add]
  | _ => exact absurd h (by simp [okw])
theorem isum_take {L : List Int} {k : Nat} {x : Int} (hx : L[k]? = some x) : (L.take (k + 1)).sum = (L.take k).sum + x := by
  rw [List.take_succ, hx, List.sum_append]
  simp
theorem c_S_covered {l s w : Int} (h : CS σ b T M P tp) (hT : okTab T) (hk : okMo T M) (h1 : rI l) (h2 : rI s) (h3 : rI w) : WMl E m_S_covered (d + 7) [aP 1, aI l, aI s, aI w] σ (fun r τ => r = sp_covered T M l s w ∧ Fr cX σ τ) := by
  have hF := h.1.1
  refine e_S_covered _ _ _ hF (WMr.mono (c_S_squareAt h hk h1 h2) (fun r τ _ hq' => ?_))
  obtain ⟨hq1, rfl⟩ := hq'
  have ho := hk.oOk l s
  unfold sp_covered
  cases hs : sqAt M l s with
  | none => rw [hs] at hq1; exact ⟨fun c => absurd hq1 c, fun c => ⟨_, rfl, List.prefix_refl _, rfl, Fr.refl _ _⟩⟩
  | some t =>
    rw [hs] at hq1 ho
    have hsq := hq1.2
    have hok : okS T t := ho
    have hcc := hok.cc
    have hg := gr_b hT hk hok
    have hab := area_b hT hok.1
    have h10 := hok.2.1
    have ht := h.2.1.1
    dsimp only
    refine ⟨fun c => ?_, fun c => absurd c hq1.1⟩
    have hzl : (List.zipWith (arS T) (cC t) (hq (-1) 0 t)).length = (cC t).length := by rw [List.length_zipWith, hq_len hcc.1]; omega
    have key : ∀ k : Nat, k ≤ (cC t).length → WP E m_S_covered (d + 7) 23 [(0, aP 1), (3, aI w), (4, aP r), (5, aL ((List.zipWith (arS T) (cC t) (hq (-1) 0 t)).take k).sum), (7, aI k)] [] τ (fun r σ' => ∃ v, r = some (aL v) ∧ τ.2 <+: σ'.2 ∧ v = (if 0 ≤ w ∧ w ≤ 1 then tm (Rat.divInt (area T t) (gr T M t * gr T M t)) w else -1) ∧ Fr cX τ σ') := by
      refine lpx (fun k => (cC t).length - k) _ _ (fun k hI ih => ?_)
      refine b_S_covered_23 _ _ _ _ hF ⟨hsq.2.1, wmi_p (c_Sq_length hsq.2) ⟨hF, by omega, by omega, fun q => ?_, fun q => ⟨hsq.2.1, wmi_p (c_Sq_symbol hsq.2 (by omega) (by omega)) ⟨hF, ?_⟩⟩⟩⟩
      · rw [List.take_of_length_le (by omega), ar_out hcc.1 0 (by omega)]
        refine WMi.mono (c_S_spanOf h hT hk hsq hq1.1 hcc.1 (by omega)) (fun r2 τ2 hp2 hq2 => ?_)
        obtain ⟨rfl, f2⟩ := hq2
        have m1 := mul_bd (a := gr T M t) (b := gr T M t) (A := 147) (B := 147) (by omega) (by omega) (by omega)
        have m2 : 0 < gr T M t * gr T M t := Int.mul_pos (by omega) (by omega)
        have hb1 : (area T t).natAbs ≤ 1440 := by omega
        have hb2 : (gr T M t * gr T M t).natAbs ≤ 21609 := by omega
        have hb3 := Nat.mul_le_mul hb1 hb2
        exact ⟨by omega, wml_p (c_S_fraction (by omega) (by omega) (Nat.lt_of_le_of_lt hb3 (by decide)) h3) ⟨_, rfl, hp2, rfl, f2.mono (by decide)⟩⟩
      · have hkl : k < (cC t).length := by omega
        obtain ⟨u, hu⟩ : ∃ u, (sbC t)[k]? = some u := ⟨_, List.getElem?_eq_getElem (by rw [sbC_len hcc.1]; omega)⟩
        have hsy := sbC_sy hcc.1 hu
        have uok := (sbC_at hcc.1 hu).1
        have hr := sy_r uok
        obtain ⟨e, he⟩ : ∃ e, (hq (-1) 0 t)[k]? = some e := ⟨_, List.getElem?_eq_getElem (by rw [hq_len hcc.1]; omega)⟩
        have hz : (List.zipWith (arS T) (cC t) (hq (-1) 0 t))[k]? = some (arS T (sy u) e) := by rw [List.getElem?_zipWith, hsy, he]
        have hst := isum_take hz
        have h9 := ih (k + 1) (by omega) (by omega)
        rw [hst, show ((k + 1 : Nat) : Int) = (k : Int) + 1 by omega] at h9
        rw [if_pos (by omega), show ((k : Nat) : Int).toNat = k by omega, List.getD_eq_getElem?_getD, hsy, Option.getD_some]
        refine wmi_p (c_S_isJoint (by omega)) ⟨hF, b2i_r _, fun q2 => ?_, fun q2 => ⟨hsq.2.1, WMi.mono (c_Sq_holderOf hsq.2 hcc.1 (by omega) hkl) (fun v σ' _ hv => ?_)⟩⟩
        · rw [b2i_n0] at q2
          have e0 : arS T (sy u) e = 0 := by unfold arS; rw [if_pos q2]
          rw [e0, Int.add_zero] at h9
          exact b_S_covered_93 _ _ _ _ h9
        · rw [b2i_0, jt_isS uok] at q2
          have hS : isS u = true := by simpa using q2
          obtain ⟨hv, rfl⟩ := hv
          rw [he] at hv
          cases hv
          obtain ⟨s1, s2, s3, s4⟩ := sy_sign uok hS
          have ea := ar_sign (T := T) uok hS e
          have her : -1 ≤ e ∧ e ≤ 1000 := by
            rcases hq_spec hcc.1 _ _ _ _ he with ⟨g1, -⟩ | ⟨j, w', g1, g2, -⟩
            · omega
            · omega
          refine ⟨hF, by omega, fun q3 => ?_, fun q3 => wmi_p (c_S_letterOf (by omega)) ⟨hF, ht.2.1, ?_⟩⟩
          · rw [if_neg q3] at ea
            rw [ea, Int.add_zero] at h9
            exact b_S_covered_93 _ _ _ _ h9
          · rw [if_pos q3] at ea
            rw [ea] at h9
            rw [s2]
            have hTl := hT.r (lett u) s4
            refine wmi_p (c_Table_wideOf ht (by omega)) ?_
            rw [show tb tW T (lett u : Int) = (T (lett u)).1 from tb_nat s4]
            refine ⟨hF, by omega, wmi_p (c_S_letterOf (by omega)) ⟨ht.2.1, ?_⟩⟩
            rw [s2]
            refine wmi_p (c_Table_highOf ht (by omega)) ?_
            rw [show tb tH T (lett u : Int) = (T (lett u)).2.1 from tb_nat s4]
            exact ⟨by omega, b_S_covered_93 _ _ _ _ h9⟩
    have h0 := key 0 (Nat.zero_le _)
    simp only [List.take_zero, List.sum_nil] at h0
    exact h0
theorem c_S_tightest {l : Int} (h : CS σ b T M P tp) (hT : okTab T) (hk : okMo T M) (h1 : rI l) : WMi E m_S_tightest (d + 7) [aP 1, aI l] σ (fun r τ => r = sp_tightest T M l ∧ Fr cX σ τ) := by
  have hF := h.1.1
  refine e_S_tightest _ hF (WMr.mono (c_S_lineAt h hk h1) (fun r τ _ hq' => ?_))
  obtain ⟨hq1, rfl⟩ := hq'
  unfold sp_tightest
  cases hl : lnAt M l with
  | none => rw [hl] at hq1; exact ⟨fun c => absurd hq1 c, fun c => ⟨_, rfl, List.prefix_refl _, rfl, Fr.refl _ _⟩⟩
  | some L =>
    rw [hl] at hq1
    have hkL := (hk.ln hl).1
    have hL8 := hkL.1.2
    dsimp only
    refine ⟨fun c => ?_, fun c => absurd c hq1.1⟩
    have key : ∀ z : Nat × Int × Int × St, (z.1 ≤ L.2.length ∧ (0 ≤ z.2.2.1 ∧ z.2.2.1 ≤ 147) ∧ tg (gr T M) (L.2.drop z.1) z.1 z.2.1 z.2.2.1 = tg (gr T M) L.2 0 (-1) 0 ∧ Fr cX τ z.2.2.2) → WP E m_S_tightest (d + 7) 20 [(0, aP 1), (2, aP r), (3, aI z.2.1), (4, aI z.2.2.1), (5, aI z.1)] [] z.2.2.2 (fun r σ' => ∃ v, r = some (aI v) ∧ τ.2 <+: σ'.2 ∧ v = tg (gr T M) L.2 0 (-1) 0 ∧ Fr cX τ σ') := by
      refine lpx (fun z => L.2.length - z.1) _ _ (fun z hI ih => ?_)
      obtain ⟨k, best, most, υ⟩ := z
      obtain ⟨i1, i2, i3, i4⟩ := hI
      simp only at i1 i2 i3 i4 ih ⊢
      have S1 := h.cf (i4.cf 0 0)
      have c1 := hq1.2.cf (i4.cf 0 0) (imX_lt rfl h.1.2.1)
      refine b_S_tightest_20 _ _ _ _ S1.1.1 ⟨c1.2.1, wmi_p (c_Line_size c1) ⟨S1.1.1, by omega, by omega, fun q => ?_, fun q => ⟨c1.2.1, ?_⟩⟩⟩
      · rw [List.drop_eq_nil_of_le (by omega)] at i3
        exact ⟨_, rfl, pre_eq i4.1, i3, i4⟩
      · have hlt : k < L.2.length := by omega
        obtain ⟨t, ht⟩ : ∃ t, L.2[k]? = some t := ⟨_, List.getElem?_eq_getElem hlt⟩
        have hok := hkL.2 t (List.mem_of_getElem? ht)
        have hcc := hok.cc
        have hg := gr_b hT hk hok
        have hsi : sqIn L k = some t := by unfold sqIn; rw [if_pos (by omega)]; exact ht
        have hdr : L.2.drop k = t :: L.2.drop (k + 1) := by
          rw [List.drop_eq_getElem_cons hlt]
          rw [List.getElem?_eq_getElem hlt] at ht
          rw [Option.some.inj ht]
        rw [hdr] at i3
        simp only [tg] at i3
        have hr := rf_sq c1 hsi
        refine wmr_p (c_Line_get c1 hkL.qs.1 (by omega)) ⟨S1.1.1, WMi.mono (c_S_spanOf S1 hT hk hr.1 hr.2 hcc.1 (by omega)) (fun r2 ω hp2 hq2 => ?_)⟩
        obtain ⟨rfl, f2⟩ := hq2
        have f3 : Fr cX τ ω := i4.tr (f2.mono (by decide))
        refine ⟨by omega, by omega, fun q2 => b_S_tightest_55 _ _ _ _ ?_, fun q2 => b_S_tightest_55 _ _ _ _ ?_⟩
        · rw [if_neg (by omega)] at i3
          have h9 := ih (k + 1, best, most, ω) (by show L.2.length - (k + 1) < L.2.length - k; omega) ⟨by show k + 1 ≤ _; omega, i2, by show tg _ _ ((k + 1 : Nat) : Int) _ _ = _; rw [show ((k + 1 : Nat) : Int) = (k : Int) + 1 by omega]; exact i3, f3⟩
          simp only at h9
          rw [show ((k + 1 : Nat) : Int) = (k : Int) + 1 by omega] at h9
          exact h9
        · rw [if_pos (by omega)] at i3
          have h9 := ih (k + 1, (k : Int), gr T M t, ω) (by show L.2.length - (k + 1) < L.2.length - k; omega) ⟨by show k + 1 ≤ _; omega, by show 0 ≤ gr T M t ∧ gr T M t ≤ 147; omega, by show tg _ _ ((k + 1 : Nat) : Int) _ _ = _; rw [show ((k + 1 : Nat) : Int) = (k : Int) + 1 by omega]; exact i3, f3⟩
          simp only at h9
          rw [show ((k + 1 : Nat) : Int) = (k : Int) + 1 by omega] at h9
          exact h9
    exact key (0, -1, 0, τ) ⟨Nat.zero_le _, ⟨by show (0 : Int) ≤ 0; omega, by show (0 : Int) ≤ 147; omega⟩, rfl, Fr.refl _ _⟩
theorem c_S_least {l w : Int} (h : CS σ b T M P tp) (hT : okTab T) (hk : okMo T M) (h1 : rI l) (h3 : rI w) : WMi E m_S_least (d + 8) [aP 1, aI l, aI w] σ (fun r τ => r = sp_least T M l w ∧ Fr cX σ τ) := by
  refine e_S_least _ _ h.1.1 (WMi.mono (c_S_tightest h hT hk h1) (fun r τ hp hq => ?_))
  obtain ⟨rfl, f1⟩ := hq
  have S1 := h.cf (f1.cf 0 0)
  have hrr : rI (sp_tightest T M l) := by
    unfold sp_tightest
    cases hl : lnAt M l with
    | none => show rI (-1); decide
    | some L =>
      have := tg_b (gr T M) L.2 0 (-1) 0 (by omega) (by omega) (by omega)
      have := (hk.ln hl).1.1.2
      show rI (tg (gr T M) L.2 0 (-1) 0)
      unfold rI; omega
  refine ⟨S1.1.1, WMr.mono (c_S_squareAt S1 hk h1 hrr) (fun r2 τ2 _ hq2 => ?_)⟩
  obtain ⟨hq1, rfl⟩ := hq2
  have ho := hk.oOk l (sp_tightest T M l)
  have e : sp_least T M l w = match sqAt M l (sp_tightest T M l) with
      | none => -1
      | some t => if 0 ≤ w ∧ w ≤ 1 then tm (Rat.divInt M.1 (gr T M t)) w else -1 := by
    unfold sp_least sp_tightest sp_scale
    cases hl : lnAt M l with
    | none => simp [sqAt, hl]
    | some L => rfl
  rw [e]
  cases hs : sqAt M l (sp_tightest T M l) with
  | none => rw [hs] at hq1; exact ⟨S1.1.1, fun c => absurd hq1 c, fun c => ⟨_, rfl, hp, rfl, f1⟩⟩
  | some t =>
    rw [hs] at hq1 ho
    exact ⟨S1.1.1, fun c => WMi.mono (c_S_scaleOf S1 hT hk hq1.2 hq1.1 ho h3) (fun r3 τ3 hp3 hq3 => ⟨_, rfl, hp.trans hp3, hq3.1, f1.tr (hq3.2.mono (by decide))⟩), fun c => absurd c hq1.1⟩
end CScale
