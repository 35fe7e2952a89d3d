/-! words, marks, letters, numbers -/
def wdAt (tp : List Int) (b : Nat) : List Int := (tp.drop b).takeWhile isL
def isW (tp : List Int) (p k : Nat) : Bool := !glu tp (nbk tp p) && (wdAt tp (nbk tp p) == wd k)
def letN (tp : List Int) (p : Nat) : Int := if tk tp p = 1 ∧ te tp p = nbk tp p + 1 then byt tp (nbk tp p) - 97 else -1
def rdN (tp : List Int) (p : Nat) (lo hi : Int) : Option (Int × Nat) := if tk tp p = 2 ∧ lo ≤ vd tp (nbk tp p) (te tp p) ∧ vd tp (nbk tp p) (te tp p) ≤ hi then some (vd tp (nbk tp p) (te tp p), te tp p) else none
def nN (tp : List Int) (lo hi : Int) : Except Nat Nat → Int × Except Nat Nat
  | .error f => (lo, .error f)
  | .ok p => match rdN tp p lo hi with
    | none => (lo, .error (nbk tp p))
    | some v => (v.1, .ok v.2)
def nMk (tp : List Int) (c : Int) : Except Nat Nat → Except Nat Nat
  | .error f => .error f
  | .ok p => if byt tp (nbk tp p) = c then .ok (nbk tp p + 1) else .error (nbk tp p)
theorem wdAt_get {tp : List Int} {b i : Nat} (h : i < (wdAt tp b).length) : (wdAt tp b).getD i 0 = byt tp (b + i) ∧ isL (byt tp (b + i)) = true := by
  have hp := List.takeWhile_prefix isL (l := tp.drop b)
  have hl := hp.length_le
  rw [List.length_drop] at hl
  have hi : b + i < tp.length := by unfold wdAt at h; omega
  have e1 : (wdAt tp b)[i] = tp[b + i] := by
    have := List.IsPrefix.getElem hp h
    unfold wdAt
    rw [this, List.getElem_drop]
  have e2 : byt tp (b + i) = tp[b + i] := by unfold byt; rw [if_pos hi, List.getD_eq_getElem?_getD, List.getElem?_eq_getElem hi]; rfl
  refine ⟨by rw [List.getD_eq_getElem?_getD, List.getElem?_eq_getElem h, e2, ← e1]; rfl, ?_⟩
  exact tw_in _ b rfl (b + i) (by omega) (by unfold tw; unfold wdAt at h; omega)
theorem wd_pos : ∀ k, k < 6 → 0 < (wd k).length ∧ (wd k).length ≤ 4 := by decide
theorem tk_1 {tp : List Int} {p : Nat} : tk tp p = 1 ↔ nbk tp p < tp.length ∧ isL (byt tp (nbk tp p)) = true ∧ glu tp (nbk tp p) = false := by
  unfold tk
  by_cases h1 : nbk tp p < tp.length
  · rw [if_pos h1]
    by_cases h2 : isL (byt tp (nbk tp p)) = true
    · rw [if_pos h2]
      cases h3 : glu tp (nbk tp p) <;> simp [h1, h2]
    · rw [if_neg h2]
      constructor
      · intro q
        split at q
        · split at q <;> omega
        · omega
      · intro q; exact absurd q.2.1 h2
  · rw [if_neg h1]
    constructor
    · intro q; omega
    · intro q; exact absurd q.1 h1
theorem tk_3 {tp : List Int} {p : Nat} : tk tp p = 3 ↔ nbk tp p < tp.length ∧ isL (byt tp (nbk tp p)) = false ∧ isDg (byt tp (nbk tp p)) = false := by
  unfold tk
  by_cases h1 : nbk tp p < tp.length
  · rw [if_pos h1]
    by_cases h2 : isL (byt tp (nbk tp p)) = true
    · rw [if_pos h2, h2]
      constructor
      · intro q; split at q <;> omega
      · intro q; exact absurd q.2.1 (by decide)
    · rw [if_neg h2]
      by_cases h3 : isDg (byt tp (nbk tp p)) = true
      · rw [if_pos h3, h3]
        constructor
        · intro q; split at q <;> omega
        · intro q; exact absurd q.2.2 (by decide)
      · rw [if_neg h3]
        simp at h2 h3
        simp [h1, h2, h3]
  · rw [if_neg h1]
    constructor
    · intro q; omega
    · intro q; exact absurd q.1 h1
theorem tk_b (tp : List Int) (p : Nat) : tk tp p ≤ 4 := by
  unfold tk
  repeat' split
  all_goals omega
theorem isW_1 {tp : List Int} {p k : Nat} (hk : k < 6) (h : isW tp p k = true) : tk tp p = 1 := by
  unfold isW at h
  rw [Bool.and_eq_true] at h
  have h2 : wdAt tp (nbk tp p) = wd k := by simpa using h.2
  have h3 := wd_pos k hk
  have h4 := wdAt_get (tp := tp) (b := nbk tp p) (i := 0) (by rw [h2]; omega)
  have hl : nbk tp p < tp.length := by
    refine Nat.not_le.mp (fun q => ?_)
    have := h4.2
    unfold byt at this
    rw [if_neg (by omega)] at this
    exact absurd this (by decide)
  exact tk_1.mpr ⟨hl, h4.2, by simpa using h.1⟩
theorem te_1 {tp : List Int} {p : Nat} (h : tk tp p = 1) : te tp p = nbk tp p + (wdAt tp (nbk tp p)).length := by
  obtain ⟨h1, h2, -⟩ := tk_1.mp h
  unfold te
  rw [if_pos h1, if_pos h2]
  rfl
theorem te_3 {tp : List Int} {p : Nat} (h : tk tp p = 3) : te tp p = nbk tp p + 1 := by
  obtain ⟨h1, h2, h3⟩ := tk_3.mp h
  unfold te
  rw [if_pos h1, h2, h3]
  rfl
theorem letN_b {tp : List Int} {p : Nat} : letN tp p = -1 ∨ (0 ≤ letN tp p ∧ letN tp p < 26 ∧ tk tp p = 1 ∧ te tp p = nbk tp p + 1) := by
  unfold letN
  split
  · rename_i h
    right
    have h2 := of_decide_eq_true (tk_1.mp h.1).2.1
    exact ⟨by omega, by omega, h.1, h.2⟩
  · exact Or.inl rfl
/-- read up to here, or at a fault -/
def Wr (σ : St) (tp : List Int) : Except Nat Nat → Prop
  | .ok p => σ.1 42 53 = 0 ∧ LA σ tp p
  | .error f => σ.1 42 53 = 1 ∧ σ.1 42 51 = f
def ndX : List (Int × Int) := (42, 53) :: goX
theorem LA.keep {σ τ : St} {tp : List Int} {p : Nat} {X : List (Int × Int)} (h : LA σ tp p) (hf : Fr X σ τ) (h1 : frO X 42 51 = true ∧ frO X 42 49 = true ∧ frO X 42 50 = true ∧ frO X 42 52 = true) : LA τ tp p :=
  ⟨h.1, (hf.2 _ _ h1.1).trans h.2.1, (hf.2 _ _ h1.2.1).trans h.2.2.1, (hf.2 _ _ h1.2.2.1).trans h.2.2.2.1, fun q => (hf.2 _ _ h1.2.2.2).trans (h.2.2.2.2 q)⟩
section MWord
variable {E : EV} {d : Nat} {σ : St} {tp : List Int} {p : Nat}
theorem LA.go {k : Nat} (hF : Fix σ) (h : Tp σ tp) (hla : LA σ tp p) (hk : tk tp p = k) (hk3 : k = 1 ∨ k = 2 ∨ k = 3) : WMv E m_M_goesOn (d + 1) [aP 42] σ (fun τ => Fr goX σ τ ∧ LA τ tp (te tp p)) := by
  have hte := te_b hla.1
  have hl : nbk tp p < tp.length := by
    refine Nat.not_le.mp (fun q => ?_)
    unfold tk at hk
    rw [if_neg (by omega)] at hk
    omega
  refine c_M_goesOn hF h hla.2.2.1 hte.2.1 (k := tk tp p) hla.2.2.2.1 (by have := tk_b tp p; omega) ?_
  rw [glu_te hla.1 hl]
  have h1 := tk_1 (tp := tp) (p := p)
  have h3 := tk_3 (tp := tp) (p := p)
  rcases hk3 with q | q | q
  · subst q
    have := (h1.mp hk).2.1
    rw [this]; simp [hk]
  · subst q
    rw [hk]
    have : isDg (byt tp (nbk tp p)) = true := by
      unfold tk at hk
      rw [if_pos hl] at hk
      split at hk
      · split at hk <;> omega
      · split at hk
        · assumption
        · omega
    rw [this]; simp
  · subst q
    have := h3.mp hk
    rw [this.2.1, this.2.2, hk]; simp
theorem c_M_isMark {c : Int} (hF : Fix σ) (h : Tp σ tp) (hla : LA σ tp p) (hc : 33 ≤ c ∧ c ≤ 255) (h1 : isL c = false) (h2 : isDg c = false) : WMi E m_M_isMark d [aP 42, aI c] σ (fun r τ => r = b2i (byt tp (nbk tp p) = c) ∧ τ = σ) := by
  have hb := byt_b h.2.2.2 (nbk tp p)
  have hnb := nbk_b hla.1
  have h4 := h.2.2.1
  have htk := tk_b tp p
  refine e_M_isMark _ hF ?_
  rw [hla.2.2.2.1, hla.2.1]
  refine ⟨by omega, fun c2 => ri_p (b2i_f (fun q => c2 ?_)).symm, fun c2 => ?_⟩
  · have hl : nbk tp p < tp.length := by
      refine Nat.not_le.mp (fun q2 => ?_)
      unfold byt at q
      rw [if_neg (by omega)] at q
      omega
    have := tk_3.mpr ⟨hl, by rw [q]; exact h1, by rw [q]; exact h2⟩
    rw [this]; rfl
  · have hl := (tk_3.mp (show tk tp p = 3 by omega)).1
    rw [h.byt hl]
    exact ⟨by omega, by omega, by omega, fun c3 => ri_p (b2i_f c3).symm, fun c3 => ri_p (b2i_t c3).symm⟩
theorem c_M_letterHere (hF : Fix σ) (h : Tp σ tp) (hla : LA σ tp p) : WMi E m_M_letterHere d [aP 42] σ (fun r τ => r = letN tp p ∧ τ = σ) := by
  have hnb := nbk_b hla.1
  have h4 := h.2.2.1
  have htk := tk_b tp p
  have hte := te_b hla.1
  refine e_M_letterHere hF ?_
  rw [hla.2.2.2.1, hla.2.1, hla.2.2.1]
  unfold letN
  refine ⟨by omega, fun c => ri_p ?_, fun c => ⟨by omega, by omega, fun c2 => ri_p ?_, fun c2 => ?_⟩⟩
  · rw [if_neg (fun q => c (by omega))]
  · rw [if_neg (fun q => c2 (by omega))]
  · have hl := (tk_1.mp (show tk tp p = 1 by omega)).1
    rw [if_pos ⟨by omega, by omega⟩, h.byt hl]
    exact ⟨by omega, ri_p rfl⟩
theorem c_M_isWord {k : Nat} (hF : Fix σ) (h : Tp σ tp) (hla : LA σ tp p) (hk : k < 6) : WMi E m_M_isWord (d + 1) [aP 42, aI k] σ (fun r τ => r = b2i (isW tp p k = true) ∧ τ = σ) := by
  have hnb := nbk_b hla.1
  have h4 := h.2.2.1
  have htk := tk_b tp p
  have hte := te_b hla.1
  refine e_M_isWord _ hF ?_
  rw [hla.2.2.2.1]
  refine ⟨by omega, fun c => wmi_p (c_M_wordFrom hF h.2.1 hk) ?_, fun c => ri_p ?_⟩
  · have ht1 : tk tp p = 1 := by omega
    obtain ⟨hl, hL, hg⟩ := tk_1.mp ht1
    have hte1 := te_1 ht1
    have hwl := wd_pos k hk
    have hval : (isW tp p k = true) ↔ wdAt tp (nbk tp p) = wd k := by unfold isW; rw [hg]; simp
    have hwa := wd_at k hk
    have key : ∀ j : Nat, (j ≤ (wdAt tp (nbk tp p)).length ∧ j ≤ (wd k).length ∧ ∀ i, i < j → (wdAt tp (nbk tp p)).getD i 0 = (wd k).getD i 0) → WP E m_M_isWord (d + 1) 18 [(0, aP 42), (2, aI (wdF k)), (3, aI j)] [] σ (fun r τ => ∃ v, r = some (aI v) ∧ σ.2 <+: τ.2 ∧ v = b2i (isW tp p k = true) ∧ τ = σ) := by
      refine lpx (fun j => (wdAt tp (nbk tp p)).length - j) _ _ (fun j hI ih => ?_)
      obtain ⟨i1, i2, i3⟩ := hI
      obtain ⟨w1, w2, w3⟩ := hwa j (by omega)
      have hwv : σ.1 77 ((wdF k : Int) + j) = (wd k).getD j 0 := by
        have := h.2.1 (wdF k + j) (by show wdF k + j < 29; omega)
        rw [show (0 : Int) + ((wdF k + j : Nat) : Int) = (wdF k : Int) + j by omega] at this
        rw [this, w2]
      have hwb : 0 ≤ (wd k).getD j 0 ∧ (wd k).getD j 0 ≤ 127 := by
        have := (zer_step (wdF k + j) (by omega)).2.2
        rw [w2] at this
        exact this
      -- the end of the loop
      have fin : ((j = (wdAt tp (nbk tp p)).length) ∨ (j < (wdAt tp (nbk tp p)).length ∧ (wdAt tp (nbk tp p)).getD j 0 ≠ (wd k).getD j 0)) → WP E m_M_isWord (d + 1) 59 [(0, aP 42), (2, aI (wdF k)), (3, aI j)] [] σ (fun r τ => ∃ v, r = some (aI v) ∧ σ.2 <+: τ.2 ∧ v = b2i (isW tp p k = true) ∧ τ = σ) := by
        intro hcase
        refine b_M_isWord_59 _ _ hF ?_
        rw [hla.2.1, hla.2.2.1, hte1]
        refine ⟨by omega, by omega, fun c2 => ri_p ?_, fun c2 => ⟨by omega, ?_⟩⟩
        · rw [b2i_f]
          rw [hval]
          intro q
          rcases hcase with q2 | ⟨q2, q3⟩
          · omega
          · exact q3 (by rw [q])
        · rw [hwv]
          have hj : j = (wdAt tp (nbk tp p)).length := by omega
          refine ⟨by omega, fun c3 => ri_p ?_, fun c3 => ri_p ?_⟩
          · rw [b2i_f]
            rw [hval]
            intro q
            have : j = (wd k).length := by rw [hj, q]
            rw [this, List.getD_eq_getElem?_getD, List.getElem?_eq_none (Nat.le_refl _)] at c3
            exact c3 rfl
          · rw [b2i_t]
            rw [hval]
            have hjw : j = (wd k).length := by
              refine Nat.le_antisymm i2 (Nat.not_lt.mp (fun q => w3 q c3))
            refine List.ext_getElem (by omega) (fun i a1 a2 => ?_)
            have := i3 i (by omega)
            rw [List.getD_eq_getElem?_getD, List.getD_eq_getElem?_getD, List.getElem?_eq_getElem a1, List.getElem?_eq_getElem a2] at this
            exact this
      refine b_M_isWord_18 _ _ hF ?_
      rw [hla.2.1, hla.2.2.1, hte1]
      refine ⟨by omega, by omega, fun c2 => fin (Or.inl (by omega)), fun c2 => ?_⟩
      have hjl : j < (wdAt tp (nbk tp p)).length := by omega
      have hgt := wdAt_get hjl
      have hgl := of_decide_eq_true hgt.2
      have htv : σ.1 76 ((nbk tp p : Int) + j) = byt tp (nbk tp p + j) := by
        have := h.byt (i := nbk tp p + j) (by omega)
        rw [← this]
        exact cgA _ (by omega)
      rw [hwv, htv]
      refine ⟨by omega, by omega, by omega, by omega, fun c3 => fin (Or.inr ⟨hjl, ?_⟩), fun c3 => ?_⟩
      · rw [hgt.1]; exact fun q => c3 q.symm
      · have hjw : j < (wd k).length := by
          refine Nat.not_le.mp (fun q => ?_)
          rw [List.getD_eq_getElem?_getD, List.getElem?_eq_none q, Option.getD_none] at c3
          omega
        have h9 := ih (j + 1) (by omega) ⟨by omega, by omega, fun i hi => by
          by_cases hij : i = j
          · subst hij; rw [hgt.1]; exact c3.symm
          · exact i3 i (by omega)⟩
        rw [show ((j + 1 : Nat) : Int) = (j : Int) + 1 by omega] at h9
        exact h9
    exact key 0 ⟨Nat.zero_le _, Nat.zero_le _, fun i hi => absurd hi (by simp)⟩
  · rw [b2i_f]
    intro q
    have := isW_1 hk q
    omega
theorem c_M_needsNumber {lo hi : Int} {r : Except Nat Nat} (hF : Fix σ) (h : Tp σ tp) (hw : Wr σ tp r) (h1 : rI lo) (h2 : rI hi) : WMi E m_M_needsNumber (d + 2) [aP 42, aI lo, aI hi] σ (fun v τ => Fr ndX σ τ ∧ v = (nN tp lo hi r).1 ∧ Wr τ tp (nN tp lo hi r).2) := by
  refine e_M_needsNumber _ _ hF ?_
  cases r with
  | error f =>
    rw [hw.1]
    exact ⟨by decide, fun q => absurd q (by decide), fun _ => ⟨_, rfl, List.prefix_refl _, Fr.refl _ _, rfl, hw⟩⟩
  | ok p =>
    obtain ⟨w0, hla⟩ := hw
    have htk := tk_b tp p
    have bad : rdN tp p lo hi = none → WP E m_M_needsNumber (d + 2) 29 [(0, aP 42), (1, aI lo)] [] σ (fun r_1 τ => ∃ v, r_1 = some (aI v) ∧ σ.2 <+: τ.2 ∧ Fr ndX σ τ ∧ v = (nN tp lo hi (.ok p)).1 ∧ Wr τ tp (nN tp lo hi (.ok p)).2) := by
      intro hn
      have e : nN tp lo hi (.ok p) = (lo, .error (nbk tp p)) := by show (match rdN tp p lo hi with | none => _ | some v => _) = _; rw [hn]
      rw [e]
      exact b_M_needsNumber_29 _ hF ⟨_, rfl, List.prefix_refl _, Fr.wr (frO_k (by decide)), rfl, wr_same _ _ _ _, by rw [wr_nk _ (by decide)]; exact hla.2.1⟩
    rw [w0, hla.2.2.2.1]
    refine ⟨by decide, fun _ => ⟨by omega, fun c => bad ?_, fun c => ?_⟩, fun q => absurd rfl q⟩
    · unfold rdN; rw [if_neg (fun q => c (by omega))]
    · have ht2 : tk tp p = 2 := by omega
      have hnum := hla.2.2.2.2 ht2
      have hvb : 0 ≤ vd tp (nbk tp p) (te tp p) ∧ vd tp (nbk tp p) (te tp p) ≤ 99 := by
        have hl : nbk tp p < tp.length := by
          refine Nat.not_le.mp (fun q => ?_)
          unfold tk at ht2
          rw [if_neg (by omega)] at ht2
          omega
        unfold tk at ht2
        rw [if_pos hl] at ht2
        split at ht2
        · split at ht2 <;> omega
        · rename_i hnL
          split at ht2
          · rename_i hD
            split at ht2
            · omega
            · rename_i hng
              have e1 : te tp p = tw isDg tp (nbk tp p) := by unfold te; rw [if_pos hl, if_neg hnL, if_pos hD]
              have hin := tw_in (f := isDg) (tp := tp) _ (nbk tp p) rfl
              have d0 := of_decide_eq_true hD
              have hte := (te_b hla.1).2.2 hl
              simp only [Bool.or_eq_true, decide_eq_true_eq, not_or] at hng
              unfold vd
              split
              · omega
              · have d1 := of_decide_eq_true (hin (nbk tp p + 1) (by omega) (by omega))
                omega
          · omega
      rw [hnum]
      refine wmi_p (c_M_in (by omega) h1 h2) ⟨hF, b2i_r _, fun c2 => ?_, fun c2 => bad ?_⟩
      · rw [b2i_n0] at c2
        have hs : rdN tp p lo hi = some (vd tp (nbk tp p) (te tp p), te tp p) := by unfold rdN; rw [if_pos ⟨ht2, c2.1, c2.2⟩]
        have e : nN tp lo hi (.ok p) = (vd tp (nbk tp p) (te tp p), .ok (te tp p)) := by show (match rdN tp p lo hi with | none => _ | some v => _) = _; rw [hs]
        rw [e]
        exact WMv.mono (LA.go hF h hla ht2 (by omega)) (fun τ hp hq => ⟨_, rfl, hp, hq.1.mono (by decide), hnum, (hq.1.2 _ _ rfl).trans w0, hq.2⟩)
      · rw [b2i_0] at c2
        unfold rdN; rw [if_neg (fun q => c2 ⟨q.2.1, q.2.2⟩)]
theorem c_M_needsMark {c : Int} {r : Except Nat Nat} (hF : Fix σ) (h : Tp σ tp) (hw : Wr σ tp r) (hc : 33 ≤ c ∧ c ≤ 255) (h1 : isL c = false) (h2 : isDg c = false) : WMv E m_M_needsMark (d + 2) [aP 42, aI c] σ (fun τ => Fr ndX σ τ ∧ Wr τ tp (nMk tp c r)) := by
  refine e_M_needsMark _ hF ?_
  cases r with
  | error f =>
    rw [hw.1]
    exact ⟨by decide, fun q => absurd q (by decide), fun _ => ⟨rfl, List.prefix_refl _, Fr.refl _ _, hw⟩⟩
  | ok p =>
    obtain ⟨w0, hla⟩ := hw
    have e : nMk tp c (.ok p) = if byt tp (nbk tp p) = c then .ok (nbk tp p + 1) else .error (nbk tp p) := rfl
    rw [e, w0]
    refine ⟨by decide, fun _ => wmi_p (c_M_isMark hF h hla hc h1 h2) ⟨hF, b2i_r _, fun c2 => ?_, fun c2 => ?_⟩, fun q => absurd rfl q⟩
    · rw [b2i_0] at c2
      rw [if_neg c2]
      exact ⟨rfl, List.prefix_refl _, Fr.wr (frO_k (by decide)), wr_same _ _ _ _, by rw [wr_nk _ (by decide)]; exact hla.2.1⟩
    · rw [b2i_n0] at c2
      rw [if_pos c2]
      have hl : nbk tp p < tp.length := by
        refine Nat.not_le.mp (fun q2 => ?_)
        unfold byt at c2
        rw [if_neg (by omega)] at c2
        omega
      have ht3 := tk_3.mpr ⟨hl, by rw [c2]; exact h1, by rw [c2]; exact h2⟩
      rw [← te_3 ht3]
      exact WMv.mono (LA.go hF h hla ht3 (by omega)) (fun τ hp hq => ⟨rfl, hp, hq.1.mono (by decide), (hq.1.2 _ _ rfl).trans w0, hq.2⟩)
end MWord
