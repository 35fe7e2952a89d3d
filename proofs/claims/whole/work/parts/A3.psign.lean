/-! SIGNS TOLD -/
def tdN (T : Tb) : Nat := nL (fun l => decide (0 < (T l).1)) 26
def setT (T : Tb) (l : Nat) (e : Int × Int × Int × Int) : Tb := fun x => if x = l then e else T x
def rdCor (tp : List Int) (a b : Int) : Except Nat Nat → (Int × Int) × Except Nat Nat
  | .error f => ((0, 0), .error f)
  | .ok q => if isW tp q 3 then (((nN tp 1 a (.ok (te tp q))).1, (nN tp 1 b (nN tp 1 a (.ok (te tp q))).2).1), (nN tp 1 b (nN tp 1 a (.ok (te tp q))).2).2) else ((0, 0), .ok q)
def rdSgn (tp : List Int) (T : Tb) (p : Nat) : Except Nat (Tb × Nat) :=
  if letN tp p = -1 ∨ 0 < (T (letN tp p).toNat).1 ∨ tdN T = 12 then .error (nbk tp p)
  else match nMk tp 59 (rdCor tp (nN tp 1 12 (.ok (nbk tp p + 1))).1 (nN tp 1 12 (nN tp 1 12 (.ok (nbk tp p + 1))).2).1 (nN tp 1 12 (nN tp 1 12 (.ok (nbk tp p + 1))).2).2).2 with
    | .error f => .error f
    | .ok q => .ok (setT T (letN tp p).toNat ((nN tp 1 12 (.ok (nbk tp p + 1))).1, (nN tp 1 12 (nN tp 1 12 (.ok (nbk tp p + 1))).2).1, (rdCor tp (nN tp 1 12 (.ok (nbk tp p + 1))).1 (nN tp 1 12 (nN tp 1 12 (.ok (nbk tp p + 1))).2).1 (nN tp 1 12 (nN tp 1 12 (.ok (nbk tp p + 1))).2).2).1), q)
theorem nN_b {tp : List Int} {lo hi : Int} (h : lo ≤ hi) (r : Except Nat Nat) : lo ≤ (nN tp lo hi r).1 ∧ (nN tp lo hi r).1 ≤ hi := by
  cases r with
  | error f => exact ⟨Int.le_refl _, h⟩
  | ok p =>
    show lo ≤ (match rdN tp p lo hi with | none => (lo, .error (nbk tp p)) | some v => (v.1, .ok v.2) : Int × Except Nat Nat).1 ∧ (match rdN tp p lo hi with | none => (lo, .error (nbk tp p)) | some v => (v.1, .ok v.2) : Int × Except Nat Nat).1 ≤ hi
    unfold rdN
    split
    · exact ⟨Int.le_refl _, h⟩
    · rename_i v hv
      split at hv
      · rename_i hc
        cases hv
        exact hc.2
      · cases hv
theorem nN_ok {tp : List Int} {lo hi : Int} {r : Except Nat Nat} {q : Nat} (h : (nN tp lo hi r).2 = .ok q) : ∃ p, r = .ok p ∧ q = te tp p ∧ tk tp p = 2 := by
  cases r with
  | error f => exact absurd h (by simp [nN])
  | ok p =>
    refine ⟨p, rfl, ?_⟩
    have h2 : (match rdN tp p lo hi with | none => (lo, .error (nbk tp p)) | some v => (v.1, .ok v.2) : Int × Except Nat Nat).2 = .ok q := h
    unfold rdN at h2
    split at h2
    · cases h2
    · rename_i v hv
      split at hv
      · rename_i hc
        cases hv
        simp only [Except.ok.injEq] at h2
        exact ⟨h2.symm, hc.1⟩
      · cases hv
theorem nMk_ok {tp : List Int} {c : Int} {r : Except Nat Nat} {q : Nat} (h : nMk tp c r = .ok q) : ∃ p, r = .ok p ∧ q = nbk tp p + 1 ∧ byt tp (nbk tp p) = c := by
  cases r with
  | error f => exact absurd h (by simp [nMk])
  | ok p =>
    refine ⟨p, rfl, ?_⟩
    have h2 : (if byt tp (nbk tp p) = c then (.ok (nbk tp p + 1) : Except Nat Nat) else .error (nbk tp p)) = .ok q := h
    split at h2
    · rename_i hc
      simp only [Except.ok.injEq] at h2
      exact ⟨h2.symm, hc⟩
    · cases h2
theorem nN_pos {tp : List Int} {lo hi : Int} {p q : Nat} (hp : p ≤ tp.length) (h : (nN tp lo hi (.ok p)).2 = .ok q) : p < q ∧ q ≤ tp.length := by
  obtain ⟨p', e, rfl, h2⟩ := nN_ok h
  cases e
  have hb := nbk_b hp
  have ht := te_b hp
  have hl : nbk tp p < tp.length := by
    refine Nat.not_le.mp (fun q => ?_)
    unfold tk at h2
    rw [if_neg (by omega)] at h2
    omega
  have := ht.2.2 hl
  omega
theorem nMk_pos {tp : List Int} {c : Int} {p q : Nat} (hc : 0 ≤ c) (hp : p ≤ tp.length) (h : nMk tp c (.ok p) = .ok q) : p < q ∧ q ≤ tp.length := by
  obtain ⟨p', e, rfl, h2⟩ := nMk_ok h
  cases e
  have hb := nbk_b hp
  have := byt_lt h2 hc
  omega
theorem te_pos {tp : List Int} {p : Nat} (hp : p ≤ tp.length) (h : tk tp p = 1) : p < te tp p ∧ te tp p ≤ tp.length := by
  have hb := nbk_b hp
  have ht := te_b hp
  have := ht.2.2 (tk_1.mp h).1
  omega
theorem nL_congr {p q : Nat → Bool} : ∀ {n : Nat}, (∀ l, l < n → p l = q l) → nL p n = nL q n
  | 0, _ => rfl
  | n + 1, h => by simp only [nL]; rw [nL_congr (fun l hl => h l (by omega)), h n (by omega)]
theorem nL_set {p q : Nat → Bool} {a : Nat} (ha : p a = false) (hb : q a = true) (hc : ∀ l, l ≠ a → q l = p l) : ∀ n, nL q n = nL p n + (if a < n then 1 else 0)
  | 0 => by simp [nL]
  | n + 1 => by
    have ih := nL_set ha hb hc n
    simp only [nL, ih]
    by_cases h : n = a
    · subst h; rw [ha, hb]; simp
    · rw [hc n h]
      by_cases h2 : a < n
      · rw [if_pos h2, if_pos (show a < n + 1 by omega)]; omega
      · rw [if_neg h2, if_neg (show ¬ a < n + 1 by omega)]; omega
theorem tdN_set {T : Tb} {l : Nat} {e : Int × Int × Int × Int} (hl : l < 26) (h : ¬ 0 < (T l).1) (he : 0 < e.1) : tdN (setT T l e) = tdN T + 1 := by
  unfold tdN
  rw [nL_set (p := fun l => decide (0 < (T l).1)) (a := l) (decide_eq_false h) (by simp [setT, he]) (fun x hx => by simp [setT, hx]) 26, if_pos hl]
theorem rdSgn_ok {tp : List Int} {T T' : Tb} {p q : Nat} (hT : okTab T) (hn : tdN T ≤ 12) (hp : p ≤ tp.length) (h : rdSgn tp T p = .ok (T', q)) : okTab T' ∧ tdN T' ≤ 12 ∧ p < q ∧ q ≤ tp.length := by
  unfold rdSgn at h
  by_cases c : letN tp p = -1 ∨ 0 < (T (letN tp p).toNat).1 ∨ tdN T = 12
  · rw [if_pos c] at h; cases h
  · rw [if_neg c] at h
    have hl2 : 0 ≤ letN tp p ∧ letN tp p < 26 ∧ tk tp p = 1 ∧ te tp p = nbk tp p + 1 := by rcases letN_b (tp := tp) (p := p) with q | q; exact absurd (Or.inl q) c; exact q
    have hL26 : (letN tp p).toNat < 26 := by omega
    have hnt : ¬ 0 < (T (letN tp p).toNat).1 := fun q => c (Or.inr (Or.inl q))
    have hn12 : tdN T ≠ 12 := fun q => c (Or.inr (Or.inr q))
    have hp1 := te_pos hp hl2.2.2.1
    rw [hl2.2.2.2] at hp1
    have A := nN_b (tp := tp) (lo := 1) (hi := 12) (by decide) (.ok (nbk tp p + 1))
    have B := nN_b (tp := tp) (lo := 1) (hi := 12) (by decide) (nN tp 1 12 (.ok (nbk tp p + 1))).2
    have pA : ∀ q, (nN tp 1 12 (.ok (nbk tp p + 1))).2 = .ok q → nbk tp p + 1 < q ∧ q ≤ tp.length := fun q hq => nN_pos hp1.2 hq
    have pB : ∀ q, (nN tp 1 12 (nN tp 1 12 (.ok (nbk tp p + 1))).2).2 = .ok q → nbk tp p + 1 < q ∧ q ≤ tp.length := fun q hq => by
      obtain ⟨p', e, -, -⟩ := nN_ok hq
      have := pA p' e
      rw [e] at hq
      have := nN_pos this.2 hq
      omega
    generalize (nN tp 1 12 (nN tp 1 12 (.ok (nbk tp p + 1))).2).2 = rb at *
    generalize (nN tp 1 12 (nN tp 1 12 (.ok (nbk tp p + 1))).2).1 = hh at *
    generalize (nN tp 1 12 (.ok (nbk tp p + 1))).1 = ww at *
    have C : (((rdCor tp ww hh rb).1.1 = 0 ∧ (rdCor tp ww hh rb).1.2 = 0) ∨ ((1 ≤ (rdCor tp ww hh rb).1.1 ∧ (rdCor tp ww hh rb).1.1 ≤ ww) ∧ 1 ≤ (rdCor tp ww hh rb).1.2 ∧ (rdCor tp ww hh rb).1.2 ≤ hh)) ∧ ∀ q, (rdCor tp ww hh rb).2 = .ok q → nbk tp p + 1 < q ∧ q ≤ tp.length := by
      cases rb with
      | error f => exact ⟨Or.inl ⟨rfl, rfl⟩, fun q hq => by cases hq⟩
      | ok p2 =>
        have h2 := pB p2 rfl
        simp only [rdCor]
        split
        · rename_i hw
          have ht1 := isW_1 (by decide) hw
          have h3 := te_pos h2.2 ht1
          refine ⟨Or.inr ⟨nN_b A.1 _, nN_b B.1 _⟩, fun q hq => ?_⟩
          obtain ⟨p', e, -, -⟩ := nN_ok hq
          have h4 := nN_pos h3.2 e
          rw [e] at hq
          have := nN_pos h4.2 hq
          omega
        · exact ⟨Or.inl ⟨rfl, rfl⟩, fun q hq => by cases hq; exact h2⟩
    split at h
    · cases h
    · rename_i q2 hq2
      simp only [Except.ok.injEq, Prod.mk.injEq] at h
      obtain ⟨rfl, rfl⟩ := h
      obtain ⟨p', e, -, -⟩ := nMk_ok hq2
      have h5 := C.2 p' e
      rw [e] at hq2
      have h6 := nMk_pos (by decide) h5.2 hq2
      refine ⟨fun l hl => ?_, ?_, by omega, h6.2⟩
      · unfold setT
        split
        · right
          exact ⟨A, B, C.1⟩
        · exact hT l hl
      · rw [tdN_set hL26 hnt (by show 0 < ww; omega)]; omega
def RdF (σ : St) (T : Tb) : Prop := (∀ l : Nat, l < 26 → σ.1 78 l = (T l).1 ∧ σ.1 80 l = (T l).2.2.1 ∧ ((T l).1 ≠ 0 → σ.1 79 l = (T l).2.1) ∧ ((T l).2.2.1 ≠ 0 → σ.1 81 l = (T l).2.2.2)) ∧ σ.1 42 58 = tdN T
theorem RdF.t {σ : St} {T : Tb} (h : RdF σ T) : RdT σ T := fun l hl => ⟨(h.1 l hl).1, (h.1 l hl).2.1⟩
theorem RdF.keep {σ τ : St} {T : Tb} {X : List (Int × Int)} (h : RdF σ T) (hf : Fr X σ τ) (h1 : ∀ j, frO X 78 j = true ∧ frO X 80 j = true ∧ frO X 79 j = true ∧ frO X 81 j = true) (h2 : frO X 42 58 = true) : RdF τ T := ⟨fun l hl => by
  obtain ⟨a1, a2, a3, a4⟩ := h.1 l hl
  obtain ⟨b1, b2, b3, b4⟩ := h1 l
  exact ⟨(hf.2 _ _ b1).trans a1, (hf.2 _ _ b2).trans a2, fun q => (hf.2 _ _ b3).trans (a3 q), fun q => (hf.2 _ _ b4).trans (a4 q)⟩, (hf.2 _ _ h2).trans h.2⟩
def sgX : List (Int × Int) := (78, -1) :: (79, -1) :: (80, -1) :: (81, -1) :: (42, 58) :: ndX
def SgRes (tp : List Int) (o : Except Nat (Tb × Nat)) (τ : St) : Prop := match o with
  | .error f => τ.1 42 53 = 1 ∧ τ.1 42 51 = f
  | .ok (T', q) => (τ.1 42 53 = 0 ∧ LA τ tp q) ∧ RdF τ T'
section MSgn
variable {E : EV} {d : Nat} {σ : St} {tp : List Int} {T : Tb} {p : Nat}
theorem c_M_readsSign (hF : Fix σ) (hTp : Tp σ tp) (hRd : RdF σ T) (hT : okTab T) (hn : tdN T ≤ 12) (hw : σ.1 42 53 = 0) (hla : LA σ tp p) : WMv E m_M_readsSign (d + 3) [aP 42] σ (fun τ => Fr sgX σ τ ∧ SgRes tp (rdSgn tp T p) τ) := by
  have hlb := letN_b (tp := tp) (p := p)
  have bad : (letN tp p = -1 ∨ 0 < (T (letN tp p).toNat).1 ∨ tdN T = 12) → WP E m_M_readsSign (d + 3) 28 [(0, aP 42)] [] σ (fun r τ => r = none ∧ σ.2 <+: τ.2 ∧ Fr sgX σ τ ∧ SgRes tp (rdSgn tp T p) τ) := by
    intro hb
    have e : rdSgn tp T p = .error (nbk tp p) := by unfold rdSgn; rw [if_pos hb]
    rw [e]
    exact b_M_readsSign_28 hF ⟨rfl, List.prefix_refl _, Fr.wr (frO_k (by decide)), wr_same _ _ _ _, by rw [wr_nk _ (by decide)]; exact hla.2.1⟩
  refine e_M_readsSign hF (wmi_p (c_M_letterHere hF hTp hla) ⟨hF, by omega, fun c => bad (Or.inl c), fun c => ?_⟩)
  have hl2 : 0 ≤ letN tp p ∧ letN tp p < 26 ∧ tk tp p = 1 ∧ te tp p = nbk tp p + 1 := by rcases hlb with q | q; exact absurd q c; exact q
  have hc : ((letN tp p).toNat : Int) = letN tp p := by omega
  have hL26 : (letN tp p).toNat < 26 := by omega
  have rd := hRd.1 _ hL26
  rw [hc] at rd
  have tb := hT _ hL26
  rw [rd.1, hRd.2]
  refine ⟨by omega, by omega, fun c2 => bad (Or.inr (Or.inl c2)), fun c2 => ⟨by omega, fun c3 => ?_, fun c3 => bad (Or.inr (Or.inr (by omega)))⟩⟩
  have hgood : ¬ (letN tp p = -1 ∨ 0 < (T (letN tp p).toNat).1 ∨ tdN T = 12) := fun q => by rcases q with q | q | q; exact c q; exact c2 q; omega
  have e0 : rdSgn tp T p = match nMk tp 59 (rdCor tp (nN tp 1 12 (.ok (nbk tp p + 1))).1 (nN tp 1 12 (nN tp 1 12 (.ok (nbk tp p + 1))).2).1 (nN tp 1 12 (nN tp 1 12 (.ok (nbk tp p + 1))).2).2).2 with
    | .error f => .error f
    | .ok q => .ok (setT T (letN tp p).toNat ((nN tp 1 12 (.ok (nbk tp p + 1))).1, (nN tp 1 12 (nN tp 1 12 (.ok (nbk tp p + 1))).2).1, (rdCor tp (nN tp 1 12 (.ok (nbk tp p + 1))).1 (nN tp 1 12 (nN tp 1 12 (.ok (nbk tp p + 1))).2).1 (nN tp 1 12 (nN tp 1 12 (.ok (nbk tp p + 1))).2).2).1), q) := by unfold rdSgn; rw [if_neg hgood]
  rw [e0]
  refine WMv.mono (LA.go hF hTp hla hl2.2.2.1 (Or.inl rfl)) (fun τ1 p1 q1 => ?_)
  rw [hl2.2.2.2] at q1
  have F1 := q1.1.fix hF (by decide)
  have Tp1 : Tp τ1 tp := hTp.keep q1.1 rfl (fun _ => ⟨rfl, rfl⟩)
  have W1 : Wr τ1 tp (.ok (nbk tp p + 1)) := ⟨(q1.1.2 _ _ rfl).trans hw, q1.2⟩
  refine ⟨F1, WMi.mono (c_M_needsNumber F1 Tp1 W1 (by decide) (by decide)) (fun a τ2 p2 q2 => ?_)⟩
  obtain ⟨f2, ha, W2⟩ := q2
  have F2 := f2.fix F1 (by decide)
  have Tp2 : Tp τ2 tp := Tp1.keep f2 rfl (fun _ => ⟨rfl, rfl⟩)
  have bA := nN_b (tp := tp) (lo := 1) (hi := 12) (by decide) (.ok (nbk tp p + 1))
  rw [← ha] at bA ⊢
  refine ⟨F2, WMi.mono (c_M_needsNumber F2 Tp2 W2 (by decide) (by decide)) (fun b τ3 p3 q3 => ?_)⟩
  obtain ⟨f3, hb, W3⟩ := q3
  have F3 := f3.fix F2 (by decide)
  have Tp3 : Tp τ3 tp := Tp2.keep f3 rfl (fun _ => ⟨rfl, rfl⟩)
  have bB := nN_b (tp := tp) (lo := 1) (hi := 12) (by decide) (nN tp 1 12 (.ok (nbk tp p + 1))).2
  rw [← hb] at bB ⊢
  generalize (nN tp 1 12 (nN tp 1 12 (.ok (nbk tp p + 1))).2).2 = rb at W3 ⊢
  have fr3 : Fr ndX σ τ3 := ((q1.1.mono (by decide)).tr f2).tr f3
  -- the last steps
  have fin : ∀ (υ : St) (x y : Int) (rr : Except Nat Nat), Fr ndX σ υ → Wr υ tp rr → WP E m_M_readsSign (d + 3) 95 [(0, aP 42), (1, aI (letN tp p)), (2, aI a), (3, aI b), (4, aI x), (5, aI y)] [] υ (fun r τ => r = none ∧ σ.2 <+: τ.2 ∧ Fr sgX σ τ ∧ SgRes tp (match nMk tp 59 rr with | .error f => .error f | .ok q => .ok (setT T (letN tp p).toNat (a, b, (x, y)), q)) τ) := by
    intro υ x y rr g1 g2
    have hU := g1.fix hF (by decide)
    have TpU : Tp υ tp := hTp.keep g1 rfl (fun _ => ⟨rfl, rfl⟩)
    refine b_M_readsSign_95 _ _ _ _ _ hU (WMv.mono (c_M_needsMark hU TpU g2 (by decide) (by decide) (by decide)) (fun ψ pp qq => ?_))
    have fψ : Fr ndX σ ψ := g1.tr qq.1
    have sr : ψ.1 42 58 = tdN T := (fψ.2 _ _ rfl).trans hRd.2
    rw [sr]
    have fw : Fr [(78, -1), (79, -1), (80, -1), (81, -1), (42, 58)] ψ (wr (wr (wr (wr (wr ψ 78 (letN tp p) a) 79 (letN tp p) b) 80 (letN tp p) x) 81 (letN tp p) y) 42 58 ((tdN T : Int) + 1)) := ((((Fr.wr (frO_a (by decide) _)).tr (Fr.wr (frO_a (by decide) _))).tr (Fr.wr (frO_a (by decide) _))).tr (Fr.wr (frO_a (by decide) _))).tr (Fr.wr (frO_k (by decide)))
    have fall : Fr sgX σ (wr (wr (wr (wr (wr ψ 78 (letN tp p) a) 79 (letN tp p) b) 80 (letN tp p) x) 81 (letN tp p) y) 42 58 ((tdN T : Int) + 1)) := (fψ.mono (by decide)).tr (fw.mono (by decide))
    refine ⟨qq.1.fix hU (by decide), by omega, by omega, by omega, by omega, rfl, pre_eq fall.1, fall, ?_⟩
    cases hm : nMk tp 59 rr with
    | error f =>
      have W := qq.2
      rw [hm] at W
      exact ⟨(fw.2 _ _ rfl).trans W.1, (fw.2 _ _ rfl).trans W.2⟩
    | ok q =>
      have W := qq.2
      rw [hm] at W
      refine ⟨⟨(fw.2 _ _ rfl).trans W.1, W.2.keep fw ⟨rfl, rfl, rfl, rfl⟩⟩, fun l hl => ?_, ?_⟩
      · obtain ⟨r1, r2, r3, r4⟩ := hRd.1 l hl
        by_cases hll : l = (letN tp p).toNat
        · have hle : (l : Int) = letN tp p := by omega
          have es : setT T (letN tp p).toNat (a, b, (x, y)) l = (a, b, (x, y)) := by unfold setT; rw [if_pos hll]
          rw [es, hle]
          exact ⟨by rw [wr_na _ (by decide), wr_na _ (by decide), wr_na _ (by decide), wr_na _ (by decide), wr_same], by rw [wr_na _ (by decide), wr_na _ (by decide), wr_same], fun _ => by rw [wr_na _ (by decide), wr_na _ (by decide), wr_na _ (by decide), wr_same], fun _ => by rw [wr_na _ (by decide), wr_same]⟩
        · have hle : (l : Int) ≠ letN tp p := by omega
          have es : setT T (letN tp p).toNat (a, b, (x, y)) l = T l := by unfold setT; rw [if_neg hll]
          rw [es]
          refine ⟨?_, ?_, fun q => ?_, fun q => ?_⟩
          · rw [wr_na _ (by decide), wr_na _ (by decide), wr_na _ (by decide), wr_na _ (by decide), wr_nk _ hle, fψ.2 _ _ rfl]; exact r1
          · rw [wr_na _ (by decide), wr_na _ (by decide), wr_nk _ hle, wr_na _ (by decide), wr_na _ (by decide), fψ.2 _ _ rfl]; exact r2
          · rw [wr_na _ (by decide), wr_na _ (by decide), wr_na _ (by decide), wr_nk _ hle, wr_na _ (by decide), fψ.2 _ _ rfl]; exact r3 q
          · rw [wr_na _ (by decide), wr_nk _ hle, wr_na _ (by decide), wr_na _ (by decide), wr_na _ (by decide), fψ.2 _ _ rfl]; exact r4 q
      · rw [wr_same, tdN_set hL26 c2 (by show 0 < a; omega)]; omega
  cases rb with
  | error f =>
    rw [W3.1]
    refine ⟨F3, by decide, fun _ => ?_, fun q => absurd q (by decide)⟩
    exact fin τ3 0 0 (.error f) fr3 W3
  | ok q =>
    have W3' := W3
    rw [W3.1]
    refine ⟨F3, by decide, fun q => absurd rfl q, fun _ => wmi_p (c_M_isWord F3 Tp3 W3.2 (by decide)) ⟨F3, b2i_r _, fun c4 => ?_, fun c4 => ?_⟩⟩
    · rw [b2i_0] at c4
      have ec : rdCor tp a b (.ok q) = ((0, 0), .ok q) := by simp only [rdCor]; rw [if_neg c4]
      rw [ec]
      exact fin τ3 0 0 (.ok q) fr3 W3'
    · rw [b2i_n0] at c4
      have ht1 := isW_1 (by decide) c4
      have ec : rdCor tp a b (.ok q) = (((nN tp 1 a (.ok (te tp q))).1, (nN tp 1 b (nN tp 1 a (.ok (te tp q))).2).1), (nN tp 1 b (nN tp 1 a (.ok (te tp q))).2).2) := by simp only [rdCor]; rw [if_pos c4]
      rw [ec]
      refine WMv.mono (LA.go F3 Tp3 W3.2 ht1 (Or.inl rfl)) (fun τ4 p4 q4 => ?_)
      have F4 := q4.1.fix F3 (by decide)
      have Tp4 : Tp τ4 tp := Tp3.keep q4.1 rfl (fun _ => ⟨rfl, rfl⟩)
      have W4 : Wr τ4 tp (.ok (te tp q)) := ⟨(q4.1.2 _ _ rfl).trans W3'.1, q4.2⟩
      refine ⟨F4, WMi.mono (c_M_needsNumber F4 Tp4 W4 (by decide) (by omega)) (fun x τ5 p5 q5 => ?_)⟩
      obtain ⟨f5, hx, W5⟩ := q5
      have F5 := f5.fix F4 (by decide)
      have Tp5 : Tp τ5 tp := Tp4.keep f5 rfl (fun _ => ⟨rfl, rfl⟩)
      refine ⟨F5, WMi.mono (c_M_needsNumber F5 Tp5 W5 (by decide) (by omega)) (fun y τ6 p6 q6 => ?_)⟩
      obtain ⟨f6, hy, W6⟩ := q6
      rw [← hx, ← hy]
      exact fin τ6 x y _ (((fr3.tr (q4.1.mono (by decide))).tr f5).tr f6) W6
end MSgn
