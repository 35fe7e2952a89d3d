/-! BOX, AT, SMALLEST -/
theorem zC_sL {T : Tb} {g : Int} {t : Tr} (h : okw t) : ∀ q, (zC T g q t).filter (fun z => isS z.1) = sL T g q t := by
  induction t with
  | var l => intro q; simp [zC, sL, isS]
  | pow t l ih => intro q; simp only [zC, sL]; rw [List.filter_cons_of_pos (by rfl), ih h.1]
  | mul a b iha ihb => intro q; simp only [zC, sL]; rw [List.filter_cons_of_neg (by simp [isS]), List.filter_append, iha h.1, ihb h.2]
  | add a b iha ihb => intro q; simp only [zC, sL]; rw [List.filter_cons_of_neg (by simp [isS]), List.filter_append, iha h.1, ihb h.2]
  | _ => exact absurd h (by simp [okw])
theorem zC_sy {T : Tb} {g : Int} {t : Tr} (h : okw t) : ∀ q, (zC T g q t).map (fun z => sy z.1) = cC t := by
  induction t with
  | var l => intro q; rfl
  | pow t l ih => intro q; simp only [zC, List.map_cons]; rw [ih h.1]; rfl
  | mul a b iha ihb => intro q; simp only [zC, List.map_cons, List.map_append]; rw [iha h.1, ihb h.2]; rfl
  | add a b iha ihb => intro q; simp only [zC, List.map_cons, List.map_append]; rw [iha h.1, ihb h.2]; rfl
  | _ => exact absurd h (by simp [okw])
theorem zC_okw {T : Tb} {g : Int} {t : Tr} (h : okw t) : ∀ q, ∀ z ∈ zC T g q t, okw z.1 := by
  induction t with
  | var l => intro q z hz; simp [zC] at hz; subst hz; exact h
  | pow t l ih => intro q z hz; simp only [zC, List.mem_cons] at hz; rcases hz with rfl | hz; exact h; exact ih h.1 _ z hz
  | mul a b iha ihb => intro q z hz; simp only [zC, List.mem_cons, List.mem_append] at hz; rcases hz with rfl | hz | hz; exact h; exact iha h.1 _ z hz; exact ihb h.2 _ z hz
  | add a b iha ihb => intro q z hz; simp only [zC, List.mem_cons, List.mem_append] at hz; rcases hz with rfl | hz | hz; exact h; exact iha h.1 _ z hz; exact ihb h.2 _ z hz
  | _ => exact absurd h (by simp [okw])
theorem nSg_flt : ∀ (A : List (Tr × Qd)), (∀ z ∈ A, okw z.1) → nSg (A.map (fun z => sy z.1)) = (A.filter (fun z => isS z.1)).length
  | [], _ => rfl
  | z :: A, h => by
    have hz := h z List.mem_cons_self
    have ih := nSg_flt A (fun y hy => h y (List.mem_cons_of_mem _ hy))
    rw [List.map_cons, nSg_cons, ih, jt_isS hz]
    by_cases hh : isS z.1 = true
    · rw [List.filter_cons_of_pos (p := fun z : Tr × Qd => isS z.1) hh, List.length_cons, hh]; simp; omega
    · rw [List.filter_cons_of_neg (p := fun z : Tr × Qd => isS z.1) hh]; simp [hh]
theorem zC_cnt {T : Tb} {g : Int} {t : Tr} (h : okw t) (q : Qd) (k : Nat) : (((zC T g q t).take k).filter (fun z => isS z.1)).length = nSg ((cC t).take k) := by
  rw [← nSg_flt _ (fun z hz => zC_okw h q z (List.mem_of_mem_take hz)), List.map_take, zC_sy h]
theorem zC_at {T : Tb} {g : Int} {t : Tr} (h : okw t) (q : Qd) {n : Nat} (hn : n < sg t) : ∃ p, (zC T g q t)[poC t n]? = some (sgi t n, p) ∧ (sL T g q t)[n]? = some (sgi t n, p) := by
  have h1 := (poC_spec h n hn).1
  have hpl := (poC_isPl h hn).1
  have hs := (sgi_okw h n hn).2
  rw [← zC_fst T g t q, List.getElem?_map] at h1
  obtain ⟨z, hz, hz1⟩ := Option.map_eq_some_iff.mp h1
  obtain ⟨u, p⟩ := z
  have hu : u = sgi t n := hz1
  subst hu
  refine ⟨p, hz, ?_⟩
  have hf := flt_at (fun z : Tr × Qd => isS z.1) hz hs
  rw [zC_sL h, zC_cnt h] at hf
  have e : nSg ((cC t).take (poC t n)) = n := by have := hpl.2.2; omega
  rw [e] at hf
  exact hf
theorem zC_okQ {T : Tb} {g sd : Int} (hT : okTab T) (hg : 0 ≤ g ∧ g ≤ 3) {t : Tr} : ∀ q, okU T t → okQ T g sd t q → ∀ z ∈ zC T g q t, okU T z.1 ∧ okQ T g sd z.1 z.2 := by
  induction t with
  | var l => intro q hu hq z hz; simp [zC] at hz; subst hz; exact ⟨hu, hq⟩
  | pow t l ih =>
    intro q hu hq z hz
    simp only [zC, List.mem_cons] at hz
    rcases hz with rfl | hz
    · exact ⟨hu, hq⟩
    · have hu2 : okU T t := ⟨hu.1.1, by have := hu.2.1; simp only [sg] at this; omega, hu.2.2.2⟩
      have hsz := okU_sz hT hg hu2
      have h1 := hT l hu.1.2
      have h2 := hu.2.2.1
      exact ih _ hu2 (okQ_I hq (by omega) hsz.1 hsz.2) z hz
  | mul a b iha ihb =>
    intro q hu hq z hz
    have ha : okU T a := ⟨hu.1.1, by have := hu.2.1; simp only [sg] at this; omega, hu.2.2.1⟩
    have hb : okU T b := ⟨hu.1.2.1, by have := hu.2.1; simp only [sg] at this; omega, hu.2.2.2⟩
    have s1 := okU_sz hT hg ha
    have s2 := okU_sz hT hg hb
    have h3 := okQ_M hq hg.1 s1.1.1 s2.1.1
    simp only [zC, List.mem_cons, List.mem_append] at hz
    rcases hz with rfl | hz | hz
    · exact ⟨hu, hq⟩
    · exact iha _ ha h3.1 z hz
    · exact ihb _ hb h3.2 z hz
  | add a b iha ihb =>
    intro q hu hq z hz
    have ha : okU T a := ⟨hu.1.1, by have := hu.2.1; simp only [sg] at this; omega, hu.2.2.1⟩
    have hb : okU T b := ⟨hu.1.2.1, by have := hu.2.1; simp only [sg] at this; omega, hu.2.2.2⟩
    have s1 := okU_sz hT hg ha
    have s2 := okU_sz hT hg hb
    have h3 := okQ_A hq hg.1 s1.2.1 s2.2.1
    simp only [zC, List.mem_cons, List.mem_append] at hz
    rcases hz with rfl | hz | hz
    · exact ⟨hu, hq⟩
    · exact iha _ ha h3.1 z hz
    · exact ihb _ hb h3.2 z hz
  | _ => intro q hu; exact absurd hu.1 (by simp [ok])
/-- numbers of a place, in bounds -/
theorem zC_n {T : Tb} {M : Mo} {t : Tr} (hT : okTab T) (hk : okMo T M) (ht : okS T t) {j : Nat} {z : Tr × Qd} (hz : (zC T M.2.1 (rootQ T M t) t)[j]? = some z) : ((1 ≤ wid T M.2.1 z.1 ∧ wid T M.2.1 z.1 ≤ 147) ∧ 1 ≤ hei T M.2.1 z.1 ∧ hei T M.2.1 z.1 ≤ 147) ∧ (0 < z.2.2.1 ∧ z.2.2.1 ≤ 466948881) ∧ (0 < z.2.1 ∧ z.2.1 ≤ z.2.2.1) ∧ (0 ≤ z.2.2.2.1 - z.2.1 * wid T M.2.1 z.1 ∧ z.2.2.2.1 + z.2.1 * wid T M.2.1 z.1 ≤ 2 * M.1 * z.2.2.1) ∧ (0 ≤ z.2.2.2.2 - z.2.1 * hei T M.2.1 z.1 ∧ z.2.2.2.2 + z.2.1 * hei T M.2.1 z.1 ≤ 2 * M.1 * z.2.2.1) ∧ (0 < z.2.1 * wid T M.2.1 z.1 ∧ 0 < z.2.1 * hei T M.2.1 z.1) ∧ 2 * M.1 * z.2.2.1 ≤ 22413546288 := by
  obtain ⟨h1, h2⟩ := zC_okQ hT hk.2.1 _ ⟨ht.1, ht.2.1, ht.2.2.2⟩ (okQ_R hT hk ht) z (List.mem_of_getElem? hz)
  have h3 := okU_sz hT hk.2.1 h1
  have h4 := okQ_n h2 hk.1 h3.1.1 h3.2.1
  obtain ⟨-, -, h5, h6⟩ := h2
  exact ⟨h3, h4.1, h4.2.1, h5, h6, h4.2.2.2.2.2, h4.2.2.1⟩
section CBox
variable {E : EV} {d : Nat} {σ : St} {b : Int} {T : Tb} {M : Mo} {P : List Mo} {tp : List Int} {t : Tr} {mr : Bool}
def bxN (T : Tb) (g sd : Int) (mr : Bool) (z : Tr × Qd) (w : Int) : Int := if w = 0 then (if mr then 2 * sd * z.2.2.1 - z.2.2.2.1 else z.2.2.2.1) - z.2.1 * wid T g z.1 else if w = 1 then z.2.2.2.2 - z.2.1 * hei T g z.1 else if w = 2 then z.2.1 * wid T g z.1 else if w = 3 then z.2.1 * hei T g z.1 else z.2.1
def bxD (z : Tr × Qd) (w : Int) : Int := if w = 0 ∨ w = 1 then 2 * z.2.2.1 else z.2.2.1
theorem bx_R (T : Tb) (g sd : Int) (mr : Bool) (z : Tr × Qd) (w : Int) : bxR T g sd mr z w = Rat.divInt (bxN T g sd mr z w) (bxD z w) := by
  unfold bxR bxN bxD
  by_cases c0 : w = 0
  · rw [if_pos c0, if_pos c0, if_pos (Or.inl c0)]
    cases mr <;> rfl
  · rw [if_neg c0, if_neg c0]
    by_cases c1 : w = 1
    · rw [if_pos c1, if_pos c1, if_pos (Or.inr c1)]
    · rw [if_neg c1, if_neg c1, if_neg (show ¬ (w = 0 ∨ w = 1) by omega)]
      by_cases c2 : w = 2
      · rw [if_pos c2, if_pos c2]
      · rw [if_neg c2, if_neg c2]
        by_cases c3 : w = 3
        · rw [if_pos c3, if_pos c3]
        · rw [if_neg c3, if_neg c3]
theorem c_Layout_boxAbove {j : Nat} {w : Int} {z : Tr × Qd} (hF : Fix σ) (hL : Laid σ T M mr t) (hT : okTab T) (hk : okMo T M) (ht : okS T t) (hz : (zC T M.2.1 (rootQ T M t) t)[j]? = some z) (hw : rI w) : WMl E m_Layout_boxAbove d [aP 23, aI j, aI w] σ (fun r τ => r = bxN T M.2.1 M.1 mr z w ∧ τ = σ) := by
  have hcc := ht.cc
  have hj : j < (cC t).length := by rw [← zC_len (T := T) (g := M.2.1) hcc.1 (rootQ T M t)]; exact (List.getElem?_eq_some_iff.mp hz).1
  have hn := zC_n hT hk ht hz
  have h7 := hL.1
  obtain ⟨⟨a1, a2⟩, ⟨a3, a4⟩, a5, a6⟩ := hL.2 j z hz
  have hj2 : (0 : Int) ≤ j ∧ (j : Int) < 24 := by omega
  unfold bxN
  refine e_Layout_boxAbove _ _ hF ⟨by omega, fun q => by omega, fun _ => ⟨by omega, by omega, fun _ => ⟨hw, fun q => ⟨hj2, hj2, hj2, by omega, rl_p ?_⟩, fun q => ⟨hj2, hj2, hj2, by omega, rl_p ?_⟩, fun q => ⟨hj2, hj2, by omega, rl_p ?_⟩, fun q => ⟨hj2, hj2, by omega, rl_p ?_⟩, fun q => ⟨hj2, rl_p ?_⟩⟩, fun q => by omega⟩⟩
  · rw [if_pos q, a5, a3, a1]
  · rw [if_neg (by omega), if_pos q, a6, a3, a2]
  · rw [if_neg (by omega), if_neg (by omega), if_pos q, a3, a1]
  · rw [if_neg (by omega), if_neg (by omega), if_neg (by omega), if_pos q, a3, a2]
  · rw [if_neg (by omega), if_neg (by omega), if_neg (by omega), if_neg (by omega), a3]
theorem c_Layout_boxBelow {j : Nat} {w : Int} {z : Tr × Qd} (hF : Fix σ) (hL : Laid σ T M mr t) (ht : okS T t) (hz : (zC T M.2.1 (rootQ T M t) t)[j]? = some z) (hw : 0 ≤ w ∧ w ≤ 4) : WMl E m_Layout_boxBelow d [aP 23, aI j, aI w] σ (fun r τ => r = bxD z w ∧ τ = σ) := by
  have hcc := ht.cc
  have hj : j < (cC t).length := by rw [← zC_len (T := T) (g := M.2.1) hcc.1 (rootQ T M t)]; exact (List.getElem?_eq_some_iff.mp hz).1
  have h7 := hL.1
  obtain ⟨⟨a1, a2⟩, ⟨a3, a4⟩, a5, a6⟩ := hL.2 j z hz
  have hj2 : (0 : Int) ≤ j ∧ (j : Int) < 24 := by omega
  unfold bxD
  refine e_Layout_boxBelow _ _ hF ⟨by omega, fun q => by omega, fun _ => ⟨by omega, by omega, fun _ => ⟨by omega, fun q => ⟨hj2, rl_p ?_⟩, fun q => ⟨hj2, rl_p ?_⟩⟩, fun q => by omega⟩⟩
  · rw [if_neg (by omega), a4]
  · rw [if_pos (by omega), a4]
theorem bx_b {T : Tb} {M : Mo} {t : Tr} (hT : okTab T) (hk : okMo T M) (ht : okS T t) {j : Nat} {z : Tr × Qd} (hz : (zC T M.2.1 (rootQ T M t) t)[j]? = some z) (mr : Bool) (w : Int) : (-22413546288 ≤ bxN T M.2.1 M.1 mr z w ∧ bxN T M.2.1 M.1 mr z w ≤ 22413546288) ∧ 0 < bxD z w ∧ bxD z w ≤ 933897762 := by
  have hn := zC_n hT hk ht hz
  unfold bxN bxD
  constructor
  · split
    · cases mr
      · simp only [Bool.false_eq_true, if_false]; omega
      · simp only [if_true]; omega
    · split
      · omega
      · split
        · omega
        · split <;> omega
  · split <;> omega
theorem c_S_box {l s i sd w : Int} (h : CS σ b T M P tp) (hT : okTab T) (hk : okMo T M) (h1 : rI l) (h2 : rI s) (h3 : rI i) (h4 : rI sd) (h5 : rI w) : WMl E m_S_box (d + 7) [aP 1, aI l, aI s, aI i, aI sd, aI w] σ (fun r τ => r = sp_box T M l s i sd w ∧ Fr cX σ τ) := by
  have hF := h.1.1
  refine e_S_box _ _ _ _ _ hF (WMr.mono (c_S_squareAt h hk h1 h2) (fun r τ _ hq' => ?_))
  obtain ⟨hq1, rfl⟩ := hq'
  rcases sq_cases M l s with ⟨L, t, hl, hs, hst⟩ | ⟨hn, hor⟩
  · rw [hst] at hq1
    have hkL := (hk.ln hl).1
    have hok := (hkL.sq hs).1
    have hcc := hok.cc
    have hsq := hq1.2
    have hsp : sp_box T M l s i sd w = if 0 ≤ i ∧ (0 ≤ sd ∧ sd ≤ 4) ∧ 0 ≤ w ∧ w ≤ 1 then (match (sLR T M t)[i.toNat]? with
        | none => -1
        | some z => tm (bxR T M.2.1 M.1 L.1 z sd) w) else -1 := by unfold sp_box; simp only [hl, hs]; rfl
    have no : ∀ υ, υ = τ → sp_box T M l s i sd w = -1 → ∃ v, some (aL (-1)) = some (aL v) ∧ τ.2 <+: υ.2 ∧ v = sp_box T M l s i sd w ∧ Fr cX τ υ := fun υ hυ q => by subst hυ; exact ⟨_, rfl, List.prefix_refl _, q.symm, Fr.refl _ _⟩
    refine ⟨fun _ => ⟨hsq.2.1, wmi_p (c_Sq_place hsq.2 hcc.1 (by omega) h3) (b_S_box_23 _ _ _ _ _ hF ⟨fun q => absurd q hq1.1, fun _ => ?_⟩)⟩, fun q => absurd q hq1.1⟩
    by_cases hi : 0 ≤ i ∧ i < sg t
    · rw [if_pos hi]
      obtain ⟨p, hz, hz2⟩ := zC_at (T := T) (g := M.2.1) hcc.1 (rootQ T M t) (n := i.toNat) (by omega)
      have hlt := (poC_isPl hcc.1 (n := i.toNat) (by omega)).1.1
      have hin : ∀ q : 0 ≤ sd ∧ sd ≤ 4, sp_box T M l s i sd w = if 0 ≤ w ∧ w ≤ 1 then tm (bxR T M.2.1 M.1 L.1 (sgi t i.toNat, p) sd) w else -1 := by
        intro q
        rw [hsp, show (sLR T M t)[i.toNat]? = some (sgi t i.toNat, p) from hz2]
        by_cases c : 0 ≤ w ∧ w ≤ 1
        · rw [if_pos ⟨hi.1, q, c⟩, if_pos c]
        · rw [if_neg (fun z => c z.2.2), if_neg c]
      refine ⟨by omega, fun q => by omega, fun _ => ⟨h4, fun q => no _ rfl ?_, fun q => ⟨h4, fun q2 => WMr.mono (c_S_laidOut h hT hk h1 hl hsq hcc.1 (by omega)) (fun r2 τ2 hp2 hq2 => ?_), fun q2 => no _ rfl ?_⟩⟩⟩
      · rw [hsp, if_neg (fun z => by have := z.2.1.1; omega)]
      · obtain ⟨rfl, f2, L2⟩ := hq2
        have F2 := f2.fix hF (by decide)
        have hbb := bx_b hT hk hok hz L.1 sd
        rw [hin (by omega), bx_R]
        have hb1 : (bxN T M.2.1 M.1 L.1 (sgi t i.toNat, p) sd).natAbs ≤ 22413546288 := by omega
        have hb2 : (bxD (sgi t i.toNat, p) sd).natAbs ≤ 933897762 := by omega
        have hb3 := Nat.mul_le_mul hb1 hb2
        exact ⟨sf_23 F2, wml_p (c_Layout_boxAbove F2 L2 hT hk hok hz h4) ⟨sf_23 F2, wml_p (c_Layout_boxBelow F2 L2 hok hz (by omega)) (wml_p (c_S_fraction (by omega) (by omega) (Nat.lt_of_le_of_lt hb3 (by decide)) h5) ⟨_, rfl, hp2, rfl, f2.mono (by decide)⟩)⟩⟩
      · rw [hsp, if_neg (fun z => by have := z.2.1.2; omega)]
    · rw [if_neg hi]
      refine ⟨by decide, fun _ => no _ rfl ?_, fun q => absurd rfl q⟩
      rw [hsp]
      split
      · rename_i c
        rw [List.getElem?_eq_none (by rw [sL_len]; omega)]
      · rfl
  · rw [hn] at hq1
    have hno : sp_box T M l s i sd w = -1 := by
      unfold sp_box
      rcases hor with e | ⟨L, e1, e2⟩
      · simp only [e]
      · simp only [e1, e2]
    exact ⟨fun q => absurd hq1 q, fun q => b_S_box_23 _ _ _ _ _ hF ⟨fun _ => ⟨_, rfl, List.prefix_refl _, hno.symm, Fr.refl _ _⟩, fun q2 => absurd q q2⟩⟩
end CBox
