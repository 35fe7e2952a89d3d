/-! SQUARE; PLACES LAID OUT -/
section CSquare
variable {E : EV} {d : Nat} {σ : St} {b : Int} {T : Tb} {M : Mo} {P : List Mo} {tp : List Int} {t : Tr}
theorem pJ_A (t : Tr) : (pJ 65 t).length = nA t := by unfold pJ; rw [if_neg (by decide), pA_len]
theorem pJ_M (t : Tr) : (pJ 64 t).length = nM t := by unfold pJ; rw [if_pos rfl, pM_len]
theorem c_S_square {l s w : Int} (h : CS σ b T M P tp) (hT : okTab T) (hk : okMo T M) (h1 : rI l) (h2 : rI s) (h3 : rI w) : WMi E m_S_square (d + 110) [aP 1, aI l, aI s, aI w] σ (fun r τ => r = sp_square T M l s w ∧ Fr cX σ τ) := by
  have hF := h.1.1
  refine e_S_square _ _ _ hF (WMr.mono (c_S_squareAt h hk h1 h2) (fun r τ _ hq' => ?_))
  obtain ⟨hq1, rfl⟩ := hq'
  have ho := hk.oOk l s
  unfold sp_square
  cases hs : sqAt M l s with
  | none => rw [hs] at hq1; exact ⟨hF, fun c => absurd hq1 c, fun c => ⟨_, rfl, List.prefix_refl _, rfl, Fr.refl _ _⟩⟩
  | some t =>
    rw [hs] at hq1 ho
    have hsq := hq1.2
    have hok : okS T t := ho
    have hcc := hok.cc
    have h10 := hok.2.1
    have hsr := sy_r hcc.1
    have hcd : CdB 92 τ r (cC t) := hsq.lo h.1.2.1
    have hso := so_le t
    have h0 : (cC t).getD (0 : Int).toNat 0 = sy t := by rw [cC_sy hcc.1]; rfl
    have hcdA : Cd τ r ([] ++ (cC t ++ [])) := by rw [List.nil_append, List.append_nil]; exact hsq.2
    have hlA : ([] ++ (cC t ++ [])).length ≤ 1000 := by rw [List.nil_append, List.append_nil]; omega
    dsimp only
    have fin : ∀ v : Int, v = (if w = 0 then (sg t : Int) else if w = 1 then wid T M.2.1 t else if w = 2 then hei T M.2.1 t else if w = 3 then ((sg t - so t : Nat) : Int) else if w = 4 then (nA t : Int) else if w = 5 then (nM (if isA t then fstT t else t) : Int) else if w = 6 then (bra (tx 0 t) : Int) else if w = 7 then (dpF (0, 0) (tx 0 t)).2 else -1) → ∀ υ : St, Fr cX τ υ → ∃ v_1, some (aI v) = some (aI v_1) ∧ τ.2 <+: υ.2 ∧ v_1 = (if w = 0 then (sg t : Int) else if w = 1 then wid T M.2.1 t else if w = 2 then hei T M.2.1 t else if w = 3 then ((sg t - so t : Nat) : Int) else if w = 4 then (nA t : Int) else if w = 5 then (nM (if isA t then fstT t else t) : Int) else if w = 6 then (bra (tx 0 t) : Int) else if w = 7 then (dpF (0, 0) (tx 0 t)).2 else -1) ∧ Fr cX τ υ := fun v hv υ hf => ⟨v, rfl, pre_eq hf.1, hv, hf⟩
    refine ⟨hF, fun c => ⟨h3, fun q => ⟨hsq.2.1, wmi_p (c_Sq_signs hsq.2 hcc.1 (by omega)) (fin _ ?_ _ (Fr.refl _ _))⟩, fun q => WMr.mono (c_S_measured h hT hk hsq hcc.1 (by omega)) (fun r2 τ2 hp2 hq2 => ?_), fun q => WMr.mono (c_S_measured h hT hk hsq hcc.1 (by omega)) (fun r2 τ2 hp2 hq2 => ?_), fun q => ⟨hsq.2.1, wmi_p (c_Sq_signs hsq.2 hcc.1 (by omega)) ⟨hsq.2.1, wmi_p (c_Sq_outerSigns hsq.2 hcc.1 (by omega)) (fin _ ?_ _ (Fr.refl _ _))⟩⟩, fun q => ⟨hsq.2.1, wmi_p (c_Sq_links hcdA hcc.1 hlA rfl (Or.inr rfl)) (fin _ ?_ _ (Fr.refl _ _))⟩, fun q => ⟨hsq.2.1, wmi_p (c_Sq_symbol hsq.2 (by omega) (by decide)) ?_⟩, fun q => WMr.mono (c_S_spelled hF hcd hcc.1 (by omega) (by decide)) (fun r2 τ2 hp2 hq2 => ?_), fun q => WMr.mono (c_S_spelled hF hcd hcc.1 (by omega) (by decide)) (fun r2 τ2 hp2 hq2 => ?_), fun q => fin _ ?_ _ (Fr.refl _ _)⟩, fun c => absurd c hq1.1⟩
    · rw [if_pos q]
    · obtain ⟨rfl, f2, n2, m2⟩ := hq2
      have F2 := f2.fix hF (by decide)
      have e0 := m2 0 t (by omega) sbC_zero
      refine ⟨sf_23 F2, wmi_p (c_Layout_wideAt F2 n2 (by omega) (by decide)) (fin _ ?_ _ (f2.mono (by decide)))⟩
      rw [if_pos (by omega), show (0 : Int) = ((0 : Nat) : Int) from rfl, e0.2.1]
      subst q
      rfl
    · obtain ⟨rfl, f2, n2, m2⟩ := hq2
      have F2 := f2.fix hF (by decide)
      have e0 := m2 0 t (by omega) sbC_zero
      refine ⟨sf_23 F2, wmi_p (c_Layout_highAt F2 n2 (by omega) (by decide)) (fin _ ?_ _ (f2.mono (by decide)))⟩
      rw [if_pos (by omega), show (0 : Int) = ((0 : Nat) : Int) from rfl, e0.2.2]
      subst q
      rfl
    · subst q
      show (sg t : Int) - so t = ((sg t - so t : Nat) : Int)
      omega
    · subst q
      show ((pJ 65 t).length : Int) = nA t
      rw [pJ_A]
    · rw [if_pos (by omega), h0]
      subst q
      refine ⟨by omega, fun q2 => b_S_square_131 _ _ ⟨hsq.2.1, wmi_p (c_Sq_links hcdA hcc.1 hlA rfl (Or.inl rfl)) (fin _ ?_ _ (Fr.refl _ _))⟩, fun q2 => ?_⟩
      · have hA : isA t = false := by
          cases t with
          | add x z => exact absurd rfl q2
          | _ => rfl
        show ((pJ 64 t).length : Int) = nM (if isA t then fstT t else t)
        rw [pJ_M, hA]
        rfl
      · have hA : isA t = true := by
          cases t with
          | add x z => rfl
          | var l => have : vN l < 26 := hcc.1; simp only [sy] at q2; omega
          | pow w l => have := hcc.1.2; simp only [sy] at q2; omega
          | mul x z => simp [sy] at q2
          | _ => exact absurd hcc.1 (by simp [okw])
        obtain ⟨e1, w1, w2⟩ := cC_joint hok.1 (by unfold isJ; rw [hA]; simp)
        have hcdB : Cd τ r ([sy t] ++ (cC (fstT t) ++ cC (rstT t))) := by
          have := hsq.2
          rw [e1] at this
          exact this
        have hlB : ([sy t] ++ (cC (fstT t) ++ cC (rstT t))).length ≤ 1000 := by
          have := congrArg List.length e1
          simp only [List.length_cons, List.length_append, List.length_nil] at this ⊢
          omega
        refine b_S_square_131 _ _ ⟨hsq.2.1, wmi_p (c_Sq_links hcdB w1 hlB rfl (Or.inl rfl)) (fin _ ?_ _ (Fr.refl _ _))⟩
        show ((pJ 64 (fstT t)).length : Int) = nM (if isA t then fstT t else t)
        rw [pJ_M, hA]
        rfl
    · obtain ⟨rfl, f2, w', s2⟩ := hq2
      have F2 := f2.fix hF (by decide)
      refine ⟨sf_31 F2, fin _ ?_ _ (f2.mono (by decide))⟩
      rw [s2.2.2.1]
      subst q
      rfl
    · obtain ⟨rfl, f2, w', s2⟩ := hq2
      have F2 := f2.fix hF (by decide)
      refine ⟨sf_31 F2, fin _ ?_ _ (f2.mono (by decide))⟩
      rw [s2.2.2.2.2.1]
      subst q
      rfl
    · rw [if_neg (by omega), if_neg (by omega), if_neg (by omega), if_neg (by omega), if_neg (by omega), if_neg (by omega), if_neg (by omega), if_neg (by omega)]
/-- all that is laid out; mr: mirrored -/
def Laid (σ : St) (T : Tb) (M : Mo) (mr : Bool) (t : Tr) : Prop := σ.1 23 7 = (cC t).length ∧ ∀ (j : Nat) (z : Tr × Qd), (zC T M.2.1 (rootQ T M t) t)[j]? = some z → (σ.1 25 j = wid T M.2.1 z.1 ∧ σ.1 26 j = hei T M.2.1 z.1) ∧ (σ.1 27 j = z.2.1 ∧ σ.1 28 j = z.2.2.1) ∧ σ.1 29 j = (if mr then 2 * M.1 * z.2.2.1 - z.2.2.2.1 else z.2.2.2.1) ∧ σ.1 30 j = z.2.2.2.2
def lyX : List (Int × Int) := [(23, 7), (24, -1), (25, -1), (26, -1), (27, -1), (28, -1), (29, -1), (30, -1)]
theorem c_Layout_mirrorAll {n : Nat} {sd : Int} (hF : Fix σ) (hn : σ.1 23 7 = n) (h24 : n ≤ 24) (hs : 1 ≤ sd ∧ sd ≤ 24) : WMv E m_Layout_mirrorAll d [aP 23, aI sd] σ (fun τ => Fr [(29, -1)] σ τ ∧ ∀ j : Nat, j < n → τ.1 29 j = 2 * sd * σ.1 28 j - σ.1 29 j) := by
  refine e_Layout_mirrorAll _ ?_
  have key : ∀ z : Nat × St, (z.1 ≤ n ∧ Fr [(29, -1)] σ z.2 ∧ (∀ j : Nat, j < z.1 → z.2.1 29 j = 2 * sd * σ.1 28 j - σ.1 29 j) ∧ ∀ j : Nat, z.1 ≤ j → z.2.1 29 j = σ.1 29 j) → WP E m_Layout_mirrorAll d 2 [(0, aP 23), (1, aI sd), (2, aI z.1)] [] z.2 (fun r τ => r = none ∧ σ.2 <+: τ.2 ∧ Fr [(29, -1)] σ τ ∧ ∀ j : Nat, j < n → τ.1 29 j = 2 * sd * σ.1 28 j - σ.1 29 j) := by
    refine lpx (fun z => n - z.1) _ _ (fun z hI ih => ?_)
    obtain ⟨k, τ⟩ := z
    obtain ⟨i1, i2, i3, i4⟩ := hI
    simp only at i1 i2 i3 i4 ih ⊢
    have F1 := i2.fix hF (by decide)
    have n1 : τ.1 23 7 = n := (i2.2 _ _ rfl).trans hn
    have e28 : τ.1 28 k = σ.1 28 k := i2.2 _ _ rfl
    refine b_Layout_mirrorAll_2 _ _ F1 ⟨by omega, by omega, fun q => ⟨rfl, pre_eq i2.1, i2, fun j hj => i3 j (by omega)⟩, fun q => ⟨by omega, by omega, by omega, by omega, ?_⟩⟩
    rw [e28, i4 k (Nat.le_refl _)]
    have h9 := ih (k + 1, wr τ 29 k (2 * sd * σ.1 28 k - σ.1 29 k)) (by show n - (k + 1) < n - k; omega) ⟨by show k + 1 ≤ n; omega, i2.tr (Fr.wr (frO_a (by decide) _)), fun j hj => ?_, fun j hj => ?_⟩
    · simp only at h9
      rw [show ((k + 1 : Nat) : Int) = (k : Int) + 1 by omega] at h9
      exact h9
    · have hj' : j < k + 1 := hj
      show (wr τ 29 k _).1 29 j = _
      by_cases e : j = k
      · subst e; rw [wr_same]
      · rw [wr_nk _ (by omega)]; exact i3 j (by omega)
    · have hj' : k + 1 ≤ j := hj
      show (wr τ 29 k _).1 29 j = _
      rw [wr_nk _ (by omega)]; exact i4 j (by omega)
  exact key (0, σ) ⟨Nat.zero_le _, Fr.refl _ _, fun j hj => absurd hj (Nat.not_lt_zero _), fun _ _ => rfl⟩
theorem c_S_laidOut {l x : Int} {L : Ln} (h : CS σ b T M P tp) (hT : okTab T) (hk : okMo T M) (h1 : rI l) (hl : lnAt M l = some L) (hx : SqC b σ x t) (ht : okw t) (hlen : (cC t).length ≤ 24) : WMr E m_S_laidOut (d + 4) [aP 1, aP x, aI l] σ (fun r τ => r = 23 ∧ Fr lyX σ τ ∧ Laid τ T M L.1 t) := by
  have hF := h.1.1
  have hM := hk.1
  refine e_S_laidOut _ _ hF (WMr.mono (c_S_lineAt h hk h1) (fun r τ _ hq' => ?_))
  obtain ⟨hq1, rfl⟩ := hq'
  rw [hl] at hq1
  have hm := h.2.1.2
  refine ⟨hF, hm.2.1, ?_⟩
  rw [hm.2.2.2.1.2]
  refine WMv.mono (c_Layout_measure hF (hx.lo h.1.2.1) h.2.1.1 hT hk.2.1 ht hlen) (fun τ2 hp2 hq2 => ?_)
  obtain ⟨f2, n2, m2⟩ := hq2
  have S2 := h.cf ((f2.cf 0 0).mono (Y := cX) (Nat.le_refl _) (Nat.le_refl _) (by decide))
  have x2 : SqC b τ2 x t := hx.cf (f2.cf 0 0) (imX_lt rfl h.1.2.1)
  have hm2 := S2.2.1.2
  refine ⟨S2.1.1, hm2.2.1, ?_⟩
  rw [hm2.2.2.2.1.1]
  refine WMv.mono (c_Layout_place S2.1.1 (x2.lo h.1.2.1) S2.2.1.1 n2 m2 hT hk.2.1 ht hlen (by omega)) (fun τ3 hp3 hq3 => ?_)
  obtain ⟨f3, p3⟩ := hq3
  have f3' : Fr lyX τ τ3 := (f2.mono (by decide)).tr (f3.mono (by decide))
  have S3 := h.cf ((f3'.cf 0 0).mono (Y := cX) (Nat.le_refl _) (Nat.le_refl _) (by decide))
  have n3 : τ3.1 23 7 = (cC t).length := (f3.2 _ _ rfl).trans n2
  have L3 := hq1.2.cf (f3'.cf 0 0) (imX_lt rfl h.1.2.1)
  have laid0 : Laid τ3 T M false t := by
    refine ⟨n3, fun j z hz => ?_⟩
    have hsb : (sbC t)[j]? = some z.1 := by rw [← zC_fst T M.2.1 t (rootQ T M t), List.getElem?_map, hz]; rfl
    have g1 := m2 j z.1 (by omega) hsb
    have g2 := p3 j z hz
    exact ⟨⟨(f3.2 25 _ rfl).trans g1.2.1, (f3.2 26 _ rfl).trans g1.2.2⟩, ⟨g2.1, g2.2.1⟩, g2.2.2.1, g2.2.2.2⟩
  have hle := L3.2.2.2.1
  refine ⟨S3.1.1, fun q => absurd q hq1.1, fun _ => ⟨L3.2.1, by rw [hle]; split <;> decide, fun q => ⟨_, rfl, pre_eq f3'.1, rfl, f3', ?_⟩, fun q => ⟨S3.2.1.2.2.1, ?_⟩⟩⟩
  · rw [hle] at q
    have hL1 : L.1 = false := by cases hL : L.1 with | false => rfl | true => rw [hL] at q; exact absurd q (by decide)
    rw [hL1]
    exact laid0
  · rw [hle] at q
    have hL1 : L.1 = true := by cases hL : L.1 with | true => rfl | false => rw [hL] at q; exact absurd rfl q
    rw [S3.2.1.2.2.2.2.1.1, hL1]
    refine WMv.mono (c_Layout_mirrorAll S3.1.1 n3 hlen (by omega)) (fun τ4 hp4 hq4 => ?_)
    have f4 : Fr lyX τ τ4 := f3'.tr (hq4.1.mono (by decide))
    refine ⟨f4.fix hF (by decide), _, rfl, pre_eq f4.1, rfl, f4, (hq4.1.2 _ _ rfl).trans n3, fun j z hz => ?_⟩
    have hj : j < (cC t).length := by rw [← zC_len (T := T) (g := M.2.1) ht (rootQ T M t)]; exact (List.getElem?_eq_some_iff.mp hz).1
    obtain ⟨⟨a1, a2⟩, ⟨a3, a4⟩, a5, a6⟩ := laid0.2 j z hz
    refine ⟨⟨(hq4.1.2 _ _ rfl).trans a1, (hq4.1.2 _ _ rfl).trans a2⟩, ⟨(hq4.1.2 _ _ rfl).trans a3, (hq4.1.2 _ _ rfl).trans a4⟩, ?_, (hq4.1.2 _ _ rfl).trans a6⟩
    rw [hq4.2 j hj, a4, a5]
    rfl
end CSquare
