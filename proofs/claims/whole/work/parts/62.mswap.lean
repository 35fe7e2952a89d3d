/-! PARTS PUT TOGETHER AGAIN, two of them in each other's place -/
def unM : List Tr → Tr
  | [] => .var 0
  | [x] => x
  | x :: y :: r => .mul x (unM (y :: r))
def unA : List Tr → Tr
  | [] => .var 0
  | [x] => x
  | x :: y :: r => .add x (unA (y :: r))
theorem pM_not {t : Tr} (h : isM t = false) : pM t = [t] := by cases t <;> simp_all [pM, isM]
theorem pA_not {t : Tr} (h : isA t = false) : pA t = [t] := by cases t <;> simp_all [pA, isA]
theorem unM_p : ∀ (ps : List Tr), ps ≠ [] → (∀ u ∈ ps, ok u ∧ isM u = false) → pM (unM ps) = ps ∧ ok (unM ps)
  | [], h, _ => absurd rfl h
  | [x], _, h => ⟨pM_not (h x (by simp)).2, (h x (by simp)).1⟩
  | x :: y :: r, _, h => by
    have ih := unM_p (y :: r) (by simp) (fun u hu => h u (List.mem_cons_of_mem _ hu))
    exact ⟨by simp only [unM, pM, ih.1], (h x (by simp)).1, ih.2, (h x (by simp)).2⟩
theorem unA_p : ∀ (ps : List Tr), ps ≠ [] → (∀ u ∈ ps, ok u ∧ isA u = false) → pA (unA ps) = ps ∧ ok (unA ps)
  | [], h, _ => absurd rfl h
  | [x], _, h => ⟨pA_not (h x (by simp)).2, (h x (by simp)).1⟩
  | x :: y :: r, _, h => by
    have ih := unA_p (y :: r) (by simp) (fun u hu => h u (List.mem_cons_of_mem _ hu))
    exact ⟨by simp only [unA, pA, ih.1], (h x (by simp)).1, ih.2, (h x (by simp)).2⟩
/-- a tree with the same parts beside or above, other ones in their place -/
def reb (t : Tr) (ps : List Tr) : Tr := if isA t then unA ps else unM ps
theorem reb_p {t : Tr} {ps : List Tr} (ht : ok t) (hj : isJ t = true) (hp : ∀ u ∈ ps, u ∈ ch t) (hn : ps.length = (ch t).length) : rc 0 (reb t ps) = nd t :: fr ps ∧ ok (reb t ps) := by
  cases t with
  | mul a b =>
    have h2 : 2 ≤ ps.length := by rw [hn]; simp only [ch, pM_len]; have := nM_pos b; simp [nM]; omega
    obtain ⟨e1, e2⟩ := unM_p ps (by intro q; subst q; simp at h2) (fun u hu => by have := pM_ok ht u (hp u hu); exact ⟨this.1, this.2.2⟩)
    simp only [reb, isA, Bool.false_eq_true, if_false]
    refine ⟨?_, e2⟩
    cases ps with
    | nil => simp at h2
    | cons x r =>
      cases r with
      | nil => simp at h2
      | cons y r =>
        have e3 : unM (x :: y :: r) = .mul x (unM (y :: r)) := rfl
        rw [e3] at e1 ⊢
        rw [rc_mul, e1]
        have e4 : nd (.mul a b) = (nM (.mul a b) : Int) + 200 := rfl
        rw [e4, ← pM_len, ← pM_len, e1, hn]
        rfl
  | add a b =>
    have h2 : 2 ≤ ps.length := by rw [hn]; simp only [ch, pA_len]; have := nA_pos b; simp [nA]; omega
    obtain ⟨e1, e2⟩ := unA_p ps (by intro q; subst q; simp at h2) (fun u hu => by have := pA_ok ht u (hp u hu); exact ⟨this.1, this.2.2⟩)
    simp only [reb, isA, if_true]
    refine ⟨?_, e2⟩
    cases ps with
    | nil => simp at h2
    | cons x r =>
      cases r with
      | nil => simp at h2
      | cons y r =>
        have e3 : unA (x :: y :: r) = .add x (unA (y :: r)) := rfl
        rw [e3] at e1 ⊢
        rw [rc_add, e1]
        have e4 : nd (.add a b) = (nA (.add a b) : Int) + 300 := rfl
        rw [e4, ← pA_len, ← pA_len, e1, hn]
        rfl
  | _ => simp [isJ, isM, isA] at hj
def swi (a b p : Int) : Int := if p = a then b else if p = b then a else p
def swL (ps : List Tr) (a b : Int) : List Tr := (ps.set a.toNat (ps.getD b.toNat (.var 0))).set b.toNat (ps.getD a.toNat (.var 0))
theorem sum_set (f : Tr → Nat) : ∀ (ps : List Tr) (i : Nat) (x : Tr) (hi : i < ps.length), ((ps.set i x).map f).sum + f ps[i] = (ps.map f).sum + f x
  | [], i, x, hi => absurd hi (by simp)
  | y :: r, 0, x, hi => by simp [List.set]; omega
  | y :: r, i + 1, x, hi => by
    have := sum_set f r i x (by simpa using hi)
    simp [List.set] at this ⊢
    omega
theorem swL_sum (f : Tr → Nat) {ps : List Tr} {a b : Int} (hab : a ≠ b) (ha : 0 ≤ a ∧ a < ps.length) (hb : 0 ≤ b ∧ b < ps.length) : ((swL ps a b).map f).sum = (ps.map f).sum := by
  have e1 : ps.getD a.toNat (.var 0) = ps[a.toNat]'(by omega) := by rw [List.getD_eq_getElem?_getD, List.getElem?_eq_getElem (by omega)]; rfl
  have e2 : ps.getD b.toNat (.var 0) = ps[b.toNat]'(by omega) := by rw [List.getD_eq_getElem?_getD, List.getElem?_eq_getElem (by omega)]; rfl
  have h1 := sum_set f ps a.toNat (ps.getD b.toNat (.var 0)) (by omega)
  have h2 := sum_set f (ps.set a.toNat (ps.getD b.toNat (.var 0))) b.toNat (ps.getD a.toNat (.var 0)) (by rw [List.length_set]; omega)
  rw [List.getElem_set, if_neg (by omega)] at h2
  unfold swL
  rw [e1, e2] at *
  omega
theorem fr_lenS (ts : List Tr) : (fr ts).length = (ts.map (fun t => (rc 0 t).length)).sum := by
  induction ts with
  | nil => rfl
  | cons t ts ih => rw [fr_cons, List.length_append, ih]; simp
theorem swL_at {ps : List Tr} {a b : Int} (hab : a ≠ b) (ha : 0 ≤ a ∧ a < ps.length) (hb : 0 ≤ b ∧ b < ps.length) {p : Nat} (hp : p < ps.length) : ∃ q : Nat, ∃ hq : q < ps.length, swi a b p = q ∧ (swL ps a b)[p]? = some ps[q] := by
  have e1 : ps.getD a.toNat (.var 0) = ps[a.toNat]'(by omega) := by rw [List.getD_eq_getElem?_getD, List.getElem?_eq_getElem (by omega)]; rfl
  have e2 : ps.getD b.toNat (.var 0) = ps[b.toNat]'(by omega) := by rw [List.getD_eq_getElem?_getD, List.getElem?_eq_getElem (by omega)]; rfl
  have hb2 : 0 ≤ swi a b p ∧ swi a b p < ps.length := by unfold swi; split; omega; split <;> omega
  refine ⟨(swi a b p).toNat, by omega, by omega, ?_⟩
  rw [swL, e1, e2, List.getElem?_set, List.getElem?_set]
  simp only [List.length_set]
  by_cases c1 : (p : Int) = b
  · rw [if_pos (by omega), if_pos (by omega)]
    have : (swi a b p).toNat = a.toNat := by unfold swi; rw [if_neg (by omega), if_pos c1]
    simp only [this]
  · rw [if_neg (by omega)]
    by_cases c2 : (p : Int) = a
    · rw [if_pos (by omega), if_pos (by omega)]
      have : (swi a b p).toNat = b.toNat := by unfold swi; rw [if_pos c2]
      simp only [this]
    · rw [if_neg (by omega), List.getElem?_eq_getElem hp]
      have : (swi a b p).toNat = p := by unfold swi; rw [if_neg c2, if_neg c1]; omega
      simp only [this]
def sp_swap (M : Mo) (l s a b : Int) : Option Mo := match lnAt M l with
  | none => none
  | some L => match sqIn L s with
    | none => none
    | some t => if a ≠ b ∧ isJ t = true ∧ (0 ≤ a ∧ a < (ch t).length) ∧ (0 ≤ b ∧ b < (ch t).length) then some (setSq M l s L (reb t (swL (ch t) a b))) else none
theorem sbF_len (ts : List Tr) : (sbF ts).length = (fr ts).length := by
  induction ts with
  | nil => rfl
  | cons t ts ih => rw [sbF_cons, fr_cons, List.length_append, List.length_append, ih, sb_len]
theorem sbF_app (ts us : List Tr) : sbF (ts ++ us) = sbF ts ++ sbF us := by simp [sbF]
theorem sb_part {t : Tr} (ht : ok t) {q : Nat} (hq : q < (ch t).length) : (sb 0 t)[1 + (fr ((ch t).take q)).length]? = some (ch t)[q] := by
  have e : ch t = (ch t).take q ++ ((ch t)[q] :: (ch t).drop (q + 1)) := by rw [List.getElem_cons_drop, List.take_append_drop]
  have hk := ch_ok ht (ch t)[q] (List.getElem_mem hq)
  rw [sb0_ch ht, Nat.add_comm, List.getElem?_cons_succ]
  generalize hw : (ch t)[q] = w at e hk
  have e2 := congrArg sbF e
  rw [sbF_app, sbF_cons, sb0_ch hk.1] at e2
  rw [e2, ← sbF_len, List.getElem?_append_right (Nat.le_refl _)]
  simp
theorem fr_take_succ {ts : List Tr} {q : Nat} (hq : q < ts.length) : fr (ts.take (q + 1)) = fr (ts.take q) ++ rc 0 ts[q] := by
  rw [List.take_add_one, List.getElem?_eq_getElem hq, fr_app]
  simp [fr]
section MSwap
variable {E : EV} {d : Nat} {σ : St} {T : Tb} {M : Mo} {P : List Mo} {tp : List Int}
theorem c_M_greatest {t : Tr} {g : Int} (hF : Fix σ) (hR : RowIs σ (rc 0 t)) (hT : TabR σ T) (hg : σ.1 47 1 = g) (hs : rI (σ.1 47 0)) (hkT : okTab T) (hgg : 0 ≤ g ∧ g ≤ 3) (ht : ok t) (h10 : sg t ≤ 10) (htk : tok T t) : WMi E m_M_greatest (d + 2) [aP 42] σ (fun r τ => Fr mX σ τ ∧ Meas τ T g t 0 ∧ r = max (σ.1 47 0) (max (wid T g t) (hei T g t))) := by
  refine e_M_greatest hF (WMv.mono (c_M_measures hF hR hT hg hkT hgg ht h10 htk) (fun τ hp hq => ?_))
  have hTf := hq.1.fix hF (by decide)
  obtain ⟨m1, m2, m3⟩ := hq.2 0 t (Int.le_refl _) (by rw [sb0_ch ht]; rfl)
  have hz := size_b hkT hgg ht htk
  have e0 : τ.1 47 0 = σ.1 47 0 := hq.1.2 _ _ rfl
  have m1' : τ.1 52 0 = wid T g t := m1
  have m2' : τ.1 53 0 = hei T g t := m2
  rw [m1', e0]
  refine ⟨hTf, by omega, hs, fun c => ?_, fun c => ?_⟩
  · refine b_M_greatest_28 _ hTf ⟨by rw [m2']; omega, hs, fun c2 => ⟨_, rfl, hp, hq.1, hq.2, by omega⟩, fun c2 => ⟨_, rfl, hp, hq.1, hq.2, by omega⟩⟩
  · refine b_M_greatest_28 _ hTf ⟨by rw [m2']; omega, by omega, fun c2 => ⟨_, rfl, hp, hq.1, hq.2, by omega⟩, fun c2 => ⟨_, rfl, hp, hq.1, hq.2, by omega⟩⟩
theorem c_M_partAt {t : Tr} {g : Int} {p : Nat} (hF : Fix σ) (hM : Meas σ T g t 0) (ht : ok t) (h10 : sg t ≤ 10) (hp : p < (ch t).length) : WMi E m_M_partAt d [aP 42, aI p] σ (fun r τ => r = 1 + ((fr ((ch t).take p)).length : Int) ∧ τ = σ) := by
  have hl2 := (rc_len2 ht 0).1
  have hcl := fr_len (fun u hu => (ch_ok ht u hu).1)
  have hrl := congrArg List.length (rc0_nd ht)
  simp only [List.length_cons] at hrl
  refine e_M_partAt _ ?_
  have key : ∀ k : Nat, k ≤ p → WP E m_M_partAt d 4 [(0, aP 42), (1, aI p), (2, aI (1 + ((fr ((ch t).take k)).length : Int))), (3, aI k)] [] σ (fun r τ => ∃ v, r = some (aI v) ∧ σ.2 <+: τ.2 ∧ v = 1 + ((fr ((ch t).take p)).length : Int) ∧ τ = σ) := by
    refine lpx (fun k => p - k) _ _ (fun k hI ih => ?_)
    refine b_M_partAt_4 _ _ _ hF ⟨by omega, by omega, fun c => ?_, fun c => ?_⟩
    · have : k = p := by omega
      subst this
      exact ri_p rfl
    · have hkl : k < (ch t).length := by omega
      have hs := sb_part ht hkl
      have hi := (List.getElem?_eq_some_iff.mp hs).1
      rw [sb_len] at hi
      obtain ⟨-, -, m3⟩ := hM _ _ (by omega) hs
      rw [show ((1 + (fr ((ch t).take k)).length : Nat) : Int) = 1 + ((fr ((ch t).take k)).length : Int) by omega] at m3
      refine ⟨by omega, ?_⟩
      rw [m3]
      have h5 := ih (k + 1) (by omega) (by omega)
      rw [fr_take_succ hkl, List.length_append] at h5
      rw [show 1 + ((fr ((ch t).take k)).length : Int) + ((rc 0 (ch t)[k]).length : Int) = 1 + (((fr ((ch t).take k)).length + (rc 0 (ch t)[k]).length : Nat) : Int) by omega, show (k : Int) + 1 = ((k + 1 : Nat) : Int) by omega]
      exact h5
  have := key 0 (by omega)
  simpa [fr_nil] using this
theorem At.mid {f : Int → Int} {o : Int} {A B C : List Int} (h : At f o (A ++ (B ++ C))) : At f (o + A.length) B := (At.app.mp (At.app.mp h).2).1
theorem c_M_swap {l s a b : Int} (h : RS σ T M P tp) (hk : okD T M P tp) (h1 : rI l) (h2 : rI s) (h3 : rI a) (h4 : rI b) : WMi E m_M_swap (d + 3) [aP 42, aI l, aI s, aI a, aI b] σ (fun r τ => ActRes σ T M P tp (sp_swap M l s a b) r τ) := by
  have hF := h.1.1
  have hkM := hk.2.1
  refine e_M_swap _ _ _ _ hF (wmi_p (c_M_isSquare' h hkM h1 h2) ?_)
  rcases sq_cases M l s with ⟨L, t, hl, hs, hsq⟩ | ⟨hsq, hno⟩
  · obtain ⟨a1, a2, a3, a4, a5, a6, a7⟩ := h.1.2.2.sq hkM hsq
    have hL8 := (hkM.ln hl).1.1.2
    have h10 := a5.2.1
    have ht := a5.1
    have esp : sp_swap M l s a b = if a ≠ b ∧ isJ t = true ∧ (0 ≤ a ∧ a < (ch t).length) ∧ (0 ≤ b ∧ b < (ch t).length) then some (setSq M l s L (reb t (swL (ch t) a b))) else none := by simp [sp_swap, hl, hs]
    have no : ∀ υ : St, Fr scr σ υ → ¬ (a ≠ b ∧ isJ t = true ∧ (0 ≤ a ∧ a < (ch t).length) ∧ (0 ≤ b ∧ b < (ch t).length)) → ∃ v, some (aI 0) = some (aI v) ∧ σ.2 <+: υ.2 ∧ ActRes σ T M P tp (sp_swap M l s a b) v υ := by
      intro υ hf hh
      rw [esp, if_neg hh]
      exact ⟨_, rfl, pre_eq hf.1, rfl, hf⟩
    refine ⟨hF, b2i_r _, fun c => ?_, fun _ => ⟨h3, h4, fun cab => WMv.mono (c_M_takes' h hkM hsq) (fun τ hp hq => ?_), fun c => no _ (Fr.refl _ _) (fun q => q.1 c)⟩⟩
    · rw [b2i_0] at c; exact absurd (by simp [hsq]) c
    have hT := hq.1.fix hF (by decide)
    have hfs : Fr scr σ τ := hq.1.mono (by decide)
    have hrow := hq.2.2
    rw [rc0_nd ht] at hrow
    have hx := hrow.hd
    have hnd := nd_pts ht (by omega)
    have hnj := nd_j ht (by omega)
    have hrl := congrArg List.length (rc0_nd ht)
    simp only [List.length_cons] at hrl
    have hcl := fr_len (fun u hu => (ch_ok ht u hu).1)
    have hRS := h.scr hfs
    refine ⟨hT, wmi_p (c_M_isSign (by rw [hx]; omega)) ⟨hT, b2i_r _, fun c2 => ?_, fun c2 => ?_⟩⟩
    · rw [b2i_n0, hx] at c2
      exact no _ hfs (fun q => by have := hnj.1.mpr q.2.1; omega)
    rw [b2i_0, hx] at c2
    have hj : isJ t = true := hnj.1.mp (by omega)
    refine wmi_p (c_M_partsOf (by rw [hx]; omega)) ⟨hT, ?_⟩
    rw [hx, hnd.1]
    refine wmi_p (c_M_in h3 (by decide) (by omega)) ⟨hT, b2i_r _, fun c3 => ?_, fun c3 => ?_⟩
    · rw [b2i_0] at c3
      exact no _ hfs (fun q => by omega)
    rw [b2i_n0] at c3
    refine wmi_p (c_M_partsOf (by rw [hx]; omega)) ⟨hT, ?_⟩
    rw [hx, hnd.1]
    refine wmi_p (c_M_in h4 (by decide) (by omega)) ⟨hT, b2i_r _, fun c4 => ?_, fun c4 => by rw [b2i_0] at c4; exact no _ hfs (fun q => by omega)⟩
    rw [b2i_n0] at c4
    rw [esp, if_pos ⟨cab, hj, by omega, by omega⟩]
    have hsw : (swL (ch t) a b).length = (ch t).length := by simp [swL]
    have hsm : ∀ (p : Nat) (hp : p < (ch t).length), ∃ q : Nat, ∃ hq : q < (ch t).length, swi a b p = q ∧ (swL (ch t) a b)[p]'(by omega) = (ch t)[q] := by
      intro p hp
      obtain ⟨q, hq, e1, e2⟩ := swL_at (ps := ch t) cab (by omega) (by omega) hp
      exact ⟨q, hq, e1, (List.getElem?_eq_some_iff.mp e2).2⟩
    have hfl : (fr (swL (ch t) a b)).length = (fr (ch t)).length := by rw [fr_lenS, fr_lenS]; exact swL_sum _ cab (by omega) (by omega)
    obtain ⟨r1, r2⟩ := reb_p (ps := swL (ch t) a b) ht hj (fun u hu => by
      obtain ⟨p, hp, e⟩ := List.getElem_of_mem hu
      obtain ⟨q, hq, -, e2⟩ := hsm p (by omega)
      rw [← e, e2]; exact List.getElem_mem hq) hsw
    refine WMv.mono (c_M_keeps hRS hk) (fun υ hp2 hq2 => ⟨hq2.2.1.1, ?_⟩)
    have hF2 := hq2.2.1.1
    have hR2 : RowIs υ (rc 0 t) := ⟨(hq2.1.2 _ _ rfl).trans hq.2.1, hq.2.2.congr (fun i hi => hq2.1.2 _ _ rfl)⟩
    refine WMv.mono (c_M_measures hF2 hR2 hq2.2.1.2.1 hq2.2.1.2.2.2.1 hk.1 hkM.2.1 ht h10 a5.2.2.2) (fun ω hp3 hq3 => ?_)
    have hF3 := hq3.1.fix hF2 (by decide)
    refine ⟨hF3, WMv.mono (c_M_opens hF3) (fun χ hp4 hq4 => ?_)⟩
    have hF4 := hq4.1.fix hF3 (by decide)
    have f4 : Fr (((51, -1) :: (42, 12) :: mX)) υ χ := (hq3.1.mono (by decide)).tr (hq4.1.mono (by decide))
    have hx4 : χ.1 50 0 = nd t := (f4.2 _ _ rfl).trans ((hq2.1.2 _ _ rfl).trans hx)
    refine ⟨hF4, WMv.mono (c_M_adds hF4 hq4.2 (by decide)) (fun ψ hp5 hq5 => ?_)⟩
    rw [hx4] at hq5
    have hm4 : Meas χ T M.2.1 t 0 := fun j u a b => by
      rw [hq4.1.2 _ _ rfl, hq4.1.2 _ _ rfl, hq4.1.2 _ _ rfl]
      exact hq3.2 j u a b
    -- part by part
    have key : ∀ z : Nat × St, (z.1 ≤ (ch t).length ∧ Fr [(51, -1), (42, 12)] χ z.2 ∧ OwnIs z.2 (nd t :: fr ((swL (ch t) a b).take z.1))) → WP E m_M_swap (d + 3) 101 [(0, aP 42), (1, aI l), (2, aI s), (3, aI a), (4, aI b), (5, aI z.1)] [] z.2 (fun r υ => ∃ v, r = some (aI v) ∧ σ.2 <+: υ.2 ∧ ActRes σ T M P tp (some (setSq M l s L (reb t (swL (ch t) a b)))) v υ) := by
      refine lpx (fun z => (ch t).length - z.1) _ _ (fun z hI ih => ?_)
      obtain ⟨p, ρ⟩ := z
      obtain ⟨i1, i2, i3⟩ := hI
      simp only at i1 i2 i3 ih ⊢
      have hFr := i2.fix hF4 (by decide)
      have hxr : ρ.1 50 0 = nd t := (i2.2 _ _ rfl).trans hx4
      refine b_M_swap_101 _ _ _ _ _ hFr (wmi_p (c_M_partsOf (by rw [hxr]; omega)) ⟨hFr, by omega, by rw [hxr, hnd.1]; omega, fun c5 => ?_, fun c5 => ⟨by omega, h3, ?_⟩⟩)
      · rw [hxr, hnd.1] at c5
        have : p = (swL (ch t) a b).length := by omega
        subst this
        rw [List.take_length, ← r1] at i3
        have hl3 := (rc_len2 r2 0).1
        have hle : (rc 0 (reb t (swL (ch t) a b))).length ≤ 20 := by
          rw [r1, List.length_cons, hfl]
          omega
        refine WMv.mono (c_M_lays hFr a1 a2 i3 hle) (fun θ hp6 hq6 => ⟨_, rfl, ?_, rfl, ?_, ?_⟩)
        · exact (hp.trans hp2).trans ((pre_eq f4.1).trans ((pre_eq i2.1).trans hp6))
        · exact ((hfs.mono (by decide)).tr (hq2.1.mono (by decide))).tr ((f4.mono (by decide)).tr ((i2.mono (by decide)).tr (hq6.1.mono (by decide))))
        · refine hq2.2.nowN ((f4.mono (by decide)).tr ((i2.mono (by decide)).tr (hq6.1.mono (by decide)))) (MoAt_setSq hq2.2.1.2.2 hkM hl hs (fun k hk2 => (hq6.2.2.2 k hk2).trans ((i2.2 _ _ rfl).trans (f4.2 _ _ rfl))) ⟨hq6.2.1, hq6.2.2.1⟩)
      · rw [hxr, hnd.1] at c5
        have hpl : p < (ch t).length := by omega
        obtain ⟨q, hql, e1, e2⟩ := hsm p hpl
        have step : WP E m_M_swap (d + 3) 140 [(0, aP 42), (1, aI l), (2, aI s), (3, aI a), (4, aI b), (5, aI p)] [aI (swi a b p), aP 42] ρ (fun r υ => ∃ v, r = some (aI v) ∧ σ.2 <+: υ.2 ∧ ActRes σ T M P tp (some (setSq M l s L (reb t (swL (ch t) a b)))) v υ) := by
          rw [e1]
          have hsp := sb_part ht hql
          have hi := (List.getElem?_eq_some_iff.mp hsp).1
          rw [sb_len] at hi
          have hmr : Meas ρ T M.2.1 t 0 := fun j u a b => by
            rw [i2.2 _ _ rfl, i2.2 _ _ rfl, i2.2 _ _ rfl]
            exact hm4 j u a b
          obtain ⟨-, -, m3⟩ := hmr _ _ (by omega) hsp
          rw [show ((1 + (fr ((ch t).take q)).length : Nat) : Int) = 1 + ((fr ((ch t).take q)).length : Int) by omega] at m3
          have hl3 := (rc_len2 ht 0).1
          have hfq : (fr ((ch t).take q)).length + (rc 0 (ch t)[q]).length ≤ (fr (ch t)).length := by
            rw [← List.length_append, ← fr_take_succ hql]
            conv => rhs; rw [← List.take_append_drop (q + 1) (ch t), fr_app, List.length_append]
            omega
          have hrp : At (ρ.1 50) (1 + ((fr ((ch t).take q)).length : Int)) (rc 0 (ch t)[q]) := by
            have h5 : At (ρ.1 50) 0 (nd t :: fr (ch t)) := (hrow.congr (fun i hi => (i2.2 _ _ rfl).trans ((f4.2 _ _ rfl).trans (hq2.1.2 _ _ rfl))))
            have h6 := (At.cons.mp h5).2
            have e : ch t = (ch t).take q ++ ((ch t)[q] :: (ch t).drop (q + 1)) := by rw [List.getElem_cons_drop, List.take_append_drop]
            have e3 : fr (ch t) = fr ((ch t).take q) ++ (rc 0 (ch t)[q] ++ fr ((ch t).drop (q + 1))) := by
              conv => lhs; rw [e]
              rw [fr_app, fr_cons]
            rw [e3] at h6
            have h7 := h6.mid
            rw [show (0 : Int) + 1 = 1 by omega] at h7
            exact h7
          have hown : (nd t :: fr ((swL (ch t) a b).take p)).length + (rc 0 (ch t)[q]).length ≤ 48 := by
            have h5 : (fr ((swL (ch t) a b).take (p + 1))).length ≤ (fr (swL (ch t) a b)).length := by
              conv => rhs; rw [← List.take_append_drop (p + 1) (swL (ch t) a b), fr_app, List.length_append]
              omega
            rw [fr_take_succ (by omega), List.length_append, e2] at h5
            simp only [List.length_cons]
            omega
          refine b_M_swap_140 _ _ _ _ _ _ _ hFr ⟨sf_42 hFr, wmi_p (c_M_partAt hFr hmr ht h10 hql) ⟨hFr, by omega, ?_⟩⟩
          rw [m3]
          refine WMv.mono (c_M_addsAll (L := rc 0 (ch t)[q]) hFr i3 hown hrp rfl (by omega) (by decide) ⟨24, sf_50 hFr, by omega⟩) (fun θ hp6 hq6 => ?_)
          have h9 := ih (p + 1, θ) (by show (ch t).length - (p + 1) < (ch t).length - p; omega) ⟨by show p + 1 ≤ (ch t).length; omega, i2.tr hq6.1, by
            show OwnIs θ (nd t :: fr ((swL (ch t) a b).take (p + 1)))
            rw [fr_take_succ (by omega), e2]
            exact hq6.2⟩
          simp only at h9
          rw [show ((p + 1 : Nat) : Int) = (p : Int) + 1 by omega] at h9
          exact h9
        refine ⟨fun c6 => ⟨by omega, h4, fun c7 => ?_, fun c7 => ?_⟩, fun c6 => ?_⟩
        · have := step; unfold swi at this; rw [if_neg c6, if_neg c7] at this; exact this
        · have := step; unfold swi at this; rw [if_neg c6, if_pos c7] at this; exact this
        · have := step; unfold swi at this; rw [if_pos c6] at this; exact this
    exact key (0, ψ) ⟨Nat.zero_le _, hq5.1, by simpa [fr_nil] using hq5.2⟩
  · rw [hsq]
    refine ⟨hF, b2i_r _, fun _ => ⟨_, rfl, List.prefix_refl _, ?_⟩, fun c => absurd (by rw [b2i_0]; simp) c⟩
    have : sp_swap M l s a b = none := by
      unfold sp_swap
      cases hl : lnAt M l with
      | none => rfl
      | some L =>
        cases hs : sqIn L s with
        | none => simp [hs]
        | some t => simp [sqAt, hl, hs] at hsq
    rw [this]
    exact ⟨rfl, Fr.refl _ _⟩
end MSwap
