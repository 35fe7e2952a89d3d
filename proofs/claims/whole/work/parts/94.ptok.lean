/-! THE TEXT READ: bytes, words, numbers -/
def byt (tp : List Int) (i : Nat) : Int := if i < tp.length then tp.getD i 0 else -1
def isL (x : Int) : Bool := decide (97 ≤ x ∧ x ≤ 122)
def isDg (x : Int) : Bool := decide (48 ≤ x ∧ x ≤ 57)
/-- how far bytes of a sort go on -/
def tw (f : Int → Bool) (tp : List Int) (p : Nat) : Nat := p + ((tp.drop p).takeWhile f).length
theorem tw_ge (f : Int → Bool) (tp : List Int) (p : Nat) : p ≤ tw f tp p := Nat.le_add_right _ _
theorem tw_le (f : Int → Bool) {tp : List Int} {p : Nat} (h : p ≤ tp.length) : tw f tp p ≤ tp.length := by
  have h1 := (List.takeWhile_prefix f (l := tp.drop p)).length_le
  rw [List.length_drop] at h1
  unfold tw; omega
theorem tw_step (f : Int → Bool) (tp : List Int) (p : Nat) : tw f tp p = if p < tp.length ∧ f (byt tp p) = true then tw f tp (p + 1) else p := by
  unfold tw
  by_cases h : p < tp.length
  · rw [List.drop_eq_getElem_cons h]
    have hb : byt tp p = tp[p] := by unfold byt; rw [if_pos h, List.getD_eq_getElem?_getD, List.getElem?_eq_getElem h]; rfl
    rw [hb]
    by_cases hf : f tp[p] = true
    · rw [if_pos ⟨h, hf⟩, List.takeWhile_cons_of_pos hf, List.length_cons]; omega
    · rw [if_neg (fun q => hf q.2), List.takeWhile_cons_of_neg hf]; rfl
  · rw [if_neg (fun q => h q.1), List.drop_eq_nil_of_le (by omega)]; rfl
theorem tw_in {f : Int → Bool} {tp : List Int} : ∀ (n p : Nat), tp.length - p = n → ∀ i, p ≤ i → i < tw f tp p → f (byt tp i) = true
  | 0, p, hn, i, h1, h2 => by
    rw [tw_step, if_neg (fun q => by omega)] at h2
    omega
  | n + 1, p, hn, i, h1, h2 => by
    rw [tw_step] at h2
    split at h2
    · rename_i hc
      by_cases hi : i = p
      · subst hi; exact hc.2
      · exact tw_in n (p + 1) (by omega) i (by omega) h2
    · omega
theorem tw_end {f : Int → Bool} {tp : List Int} : ∀ (n p : Nat), tp.length - p = n → tw f tp p < tp.length → f (byt tp (tw f tp p)) = false
  | 0, p, hn, h => by
    have := tw_ge f tp p
    omega
  | n + 1, p, hn, h => by
    rw [tw_step] at h ⊢
    split at h
    · rename_i hc
      rw [if_pos hc]
      exact tw_end n (p + 1) (by omega) h
    · rename_i hc
      rw [if_neg hc]
      cases hf : f (byt tp p) with
      | false => rfl
      | true => exact absurd ⟨h, hf⟩ hc
theorem tw_one {f : Int → Bool} {tp : List Int} {p : Nat} (h : p < tp.length) (hf : f (byt tp p) = true) : tw f tp p = tw f tp (p + 1) := by rw [tw_step, if_pos ⟨h, hf⟩]
theorem tw_none {f : Int → Bool} {tp : List Int} {p : Nat} (h : ¬ (p < tp.length ∧ f (byt tp p) = true)) : tw f tp p = p := by rw [tw_step, if_neg h]
def isB (x : Int) : Bool := decide (x = 32)
def nbk (tp : List Int) (p : Nat) : Nat := tw isB tp p
/-- a word or number right ahead -/
def glu (tp : List Int) (b : Nat) : Bool := decide (0 < b) && (isL (byt tp (b - 1)) || isDg (byt tp (b - 1)))
/-- what comes next: 0 the end, 1 a word, 2 a number, 3 a mark, 4 neither -/
def tk (tp : List Int) (p : Nat) : Nat :=
  if nbk tp p < tp.length then
    if isL (byt tp (nbk tp p)) then (if glu tp (nbk tp p) then 4 else 1)
    else if isDg (byt tp (nbk tp p)) then (if glu tp (nbk tp p) || decide (2 < tw isDg tp (nbk tp p) - nbk tp p) then 4 else 2)
    else 3
  else 0
def te (tp : List Int) (p : Nat) : Nat :=
  if nbk tp p < tp.length then
    if isL (byt tp (nbk tp p)) then tw isL tp (nbk tp p)
    else if isDg (byt tp (nbk tp p)) then tw isDg tp (nbk tp p)
    else nbk tp p + 1
  else nbk tp p
def vd (tp : List Int) (b e : Nat) : Int := if e - b = 1 then byt tp b - 48 else 10 * (byt tp b - 48) + (byt tp (b + 1) - 48)
theorem nbk_b {tp : List Int} {p : Nat} (h : p ≤ tp.length) : p ≤ nbk tp p ∧ nbk tp p ≤ tp.length := ⟨tw_ge _ _ _, tw_le _ h⟩
theorem nbk_nb {tp : List Int} {p : Nat} (h : nbk tp p < tp.length) : byt tp (nbk tp p) ≠ 32 := by
  have := tw_end _ p rfl h
  exact of_decide_eq_false this
theorem te_b {tp : List Int} {p : Nat} (h : p ≤ tp.length) : nbk tp p ≤ te tp p ∧ te tp p ≤ tp.length ∧ (nbk tp p < tp.length → nbk tp p < te tp p) := by
  have hb := nbk_b h
  unfold te
  split
  · rename_i hl
    split
    · rename_i hL
      have h1 := tw_le isL (p := nbk tp p + 1) (tp := tp) (by omega)
      have h2 := tw_ge isL tp (nbk tp p + 1)
      rw [tw_one hl hL]
      omega
    · split
      · rename_i hD
        have h1 := tw_le isDg (p := nbk tp p + 1) (tp := tp) (by omega)
        have h2 := tw_ge isDg tp (nbk tp p + 1)
        rw [tw_one hl hD]
        omega
      · omega
  · omega
/-- behind what comes next, something is glued just where it is a word or a number -/
theorem glu_te {tp : List Int} {p : Nat} (h : p ≤ tp.length) (hl : nbk tp p < tp.length) : glu tp (te tp p) = (isL (byt tp (nbk tp p)) || isDg (byt tp (nbk tp p))) := by
  have ht := te_b h
  unfold glu
  rw [decide_eq_true (show 0 < te tp p by omega), Bool.true_and]
  unfold te at ht ⊢
  rw [if_pos hl] at ht ⊢
  split
  · rename_i hL
    rw [if_pos hL] at ht
    have h1 := tw_in (f := isL) (tp := tp) _ (nbk tp p) rfl (tw isL tp (nbk tp p) - 1) (by omega) (by omega)
    rw [h1, hL]; rfl
  · rename_i hL
    rw [if_neg hL] at ht
    split
    · rename_i hD
      rw [if_pos hD] at ht
      have h1 := tw_in (f := isDg) (tp := tp) _ (nbk tp p) rfl (tw isDg tp (nbk tp p) - 1) (by omega) (by omega)
      rw [h1, hD]; simp
    · rename_i hD
      rw [show nbk tp p + 1 - 1 = nbk tp p by omega]
theorem glu_nbk {tp : List Int} {p : Nat} : glu tp (nbk tp p) = (decide (nbk tp p = p) && glu tp p) := by
  by_cases h : nbk tp p = p
  · rw [h]; simp
  · have h1 := tw_ge isB tp p
    have h2 : p < nbk tp p := by unfold nbk at h ⊢; omega
    have h3 := tw_in (f := isB) (tp := tp) _ p rfl (nbk tp p - 1) (by omega) (by unfold nbk at h2 ⊢; omega)
    have h4 : byt tp (nbk tp p - 1) = 32 := of_decide_eq_true h3
    rw [decide_eq_false h, Bool.false_and]
    unfold glu
    rw [h4, show (isL 32 || isDg 32) = false by decide, Bool.and_false]
theorem tw_ext {f : Int → Bool} {tp : List Int} : ∀ (n p e : Nat), e - p = n → p ≤ e → e ≤ tp.length → (∀ i, p ≤ i → i < e → f (byt tp i) = true) → (e = tp.length ∨ f (byt tp e) = false) → tw f tp p = e
  | 0, p, e, hn, h1, h2, h3, h4 => by
    have : p = e := by omega
    subst this
    refine tw_none (fun q => ?_)
    rcases h4 with h4 | h4
    · omega
    · rw [h4] at q; exact absurd q.2 (by decide)
  | n + 1, p, e, hn, h1, h2, h3, h4 => by
    rw [tw_one (by omega) (h3 p (by omega) (by omega))]
    exact tw_ext n (p + 1) e (by omega) (by omega) h2 (fun i a b => h3 i (by omega) b) h4
/-- the tape's and the words' rows -/
def Tp (σ : St) (tp : List Int) : Prop := (σ.1 42 47 = tp.length ∧ At (σ.1 76) 0 tp) ∧ At (σ.1 77) 0 wordsL ∧ tp.length ≤ 400 ∧ ∀ x ∈ tp, 0 ≤ x ∧ x ≤ 255
theorem byt_b {tp : List Int} (h : ∀ x ∈ tp, 0 ≤ x ∧ x ≤ 255) (i : Nat) : -1 ≤ byt tp i ∧ byt tp i ≤ 255 ∧ (i < tp.length → 0 ≤ byt tp i) := by
  unfold byt
  split
  · rename_i hi
    have := h _ (List.getElem_mem hi)
    rw [List.getD_eq_getElem?_getD, List.getElem?_eq_getElem hi]
    show -1 ≤ tp[i] ∧ tp[i] ≤ 255 ∧ _
    exact ⟨by omega, by omega, fun _ => this.1⟩
  · exact ⟨by decide, by decide, fun q => by contradiction⟩
theorem Tp.byt {σ : St} {tp : List Int} (h : Tp σ tp) {i : Nat} (hi : i < tp.length) : σ.1 76 i = byt tp i := by
  have h1 := h.1.2 i hi
  rw [show (0 : Int) + (i : Int) = i by omega] at h1
  rw [h1]
  show tp.getD i 0 = if i < tp.length then tp.getD i 0 else -1
  rw [if_pos hi]
theorem Tp.keep {σ τ : St} {tp : List Int} {X : List (Int × Int)} (h : Tp σ tp) (hf : Fr X σ τ) (h1 : frO X 42 47 = true) (h2 : ∀ j, frO X 76 j = true ∧ frO X 77 j = true) : Tp τ tp :=
  ⟨⟨(hf.2 _ _ h1).trans h.1.1, h.1.2.congr (fun i _ => hf.2 _ _ (h2 _).1)⟩, h.2.1.congr (fun i _ => hf.2 _ _ (h2 _).2), h.2.2⟩
/-- what comes next stands ready -/
def LA (σ : St) (tp : List Int) (p : Nat) : Prop := p ≤ tp.length ∧ σ.1 42 51 = nbk tp p ∧ σ.1 42 49 = te tp p ∧ σ.1 42 50 = tk tp p ∧ (tk tp p = 2 → σ.1 42 52 = vd tp (nbk tp p) (te tp p))
def goX : List (Int × Int) := [(42, 49), (42, 50), (42, 51), (42, 52)]
section MTok
variable {E : EV} {d : Nat} {σ : St} {tp : List Int}
theorem c_M_here {q : Nat} (hF : Fix σ) (h : Tp σ tp) (hq : σ.1 42 49 = q) (hl : q ≤ tp.length) : WMi E m_M_here d [aP 42] σ (fun r τ => r = byt tp q ∧ τ = σ) := by
  have h4 := h.2.2.1
  refine e_M_here hF ?_
  rw [hq, h.1.1]
  refine ⟨by omega, by omega, fun c => ri_p ?_, fun c => ⟨by omega, ri_p ?_⟩⟩
  · unfold byt; rw [if_neg (by omega)]
  · exact h.byt (by omega)
theorem c_M_goesOn {q : Nat} {k : Int} (hF : Fix σ) (h : Tp σ tp) (hq : σ.1 42 49 = q) (hl : q ≤ tp.length) (hk : σ.1 42 50 = k) (hkb : 0 ≤ k ∧ k ≤ 4) (hg : (k = 1 ∨ k = 2) ↔ glu tp q = true) : WMv E m_M_goesOn (d + 1) [aP 42] σ (fun τ => Fr goX σ τ ∧ LA τ tp q) := by
  have h4 := h.2.2.1
  have hbb := byt_b h.2.2.2
  have hnb := nbk_b hl
  refine e_M_goesOn hF ?_
  rw [hk, hq]
  -- behind the blanks
  have main : ∀ υ : St, Fr goX σ υ → υ.1 42 49 = nbk tp q → υ.1 42 51 = nbk tp q → ∀ s : Int, (s = 1 ∧ glu tp (nbk tp q) = true ∨ s = 0 ∧ glu tp (nbk tp q) = false) → WP E m_M_goesOn (d + 1) 63 [(0, aP 42)] [aI s] υ (fun r τ => r = none ∧ σ.2 <+: τ.2 ∧ Fr goX σ τ ∧ LA τ tp q) := by
    intro υ f1 f2 f3 s hs
    have hU := f1.fix hF (by decide)
    have hTU : Tp υ tp := h.keep f1 rfl (fun _ => ⟨rfl, rfl⟩)
    have hb1 := hbb (nbk tp q)
    refine b_M_goesOn_63 _ hU (wmi_p (c_M_here hU hTU f2 hnb.2) ⟨hU, by omega, fun c => ?_, fun c => ?_⟩)
    · have hlt : nbk tp q < tp.length := by
        refine Nat.not_le.mp (fun q2 => c ?_)
        unfold byt; rw [if_neg (by omega)]
      refine wmi_p (c_M_in (by omega) (by decide) (by decide)) ⟨hU, b2i_r _, fun c2 => ?_, fun c2 => ?_⟩
      · rw [b2i_0] at c2
        have hnL : isL (byt tp (nbk tp q)) = false := decide_eq_false c2
        refine wmi_p (c_M_in (by omega) (by decide) (by decide)) ⟨hU, b2i_r _, fun c3 => ?_, fun c3 => ?_⟩
        · -- a mark
          rw [b2i_0] at c3
          have hnD : isDg (byt tp (nbk tp q)) = false := decide_eq_false c3
          have ek : tk tp q = 3 := by unfold tk; rw [if_pos hlt, hnL, hnD]; rfl
          have ee : te tp q = nbk tp q + 1 := by unfold te; rw [if_pos hlt, hnL, hnD]; rfl
          rw [f2]
          refine ⟨rfl, pre_eq f1.1, f1.tr ((Fr.wr (frO_k (by decide))).tr (Fr.wr (frO_k (by decide)))), hl, ?_, ?_, ?_, fun q2 => ?_⟩
          · rw [wr_nk _ (by decide), wr_nk _ (by decide)]; exact f3
          · rw [wr_same, ee]; omega
          · rw [wr_nk _ (by decide), wr_same, ek]; rfl
          · omega
        · -- a number
          rw [b2i_n0] at c3
          have hD : isDg (byt tp (nbk tp q)) = true := decide_eq_true c3
          have ee : te tp q = tw isDg tp (nbk tp q) := by unfold te; rw [if_pos hlt, hnL, if_neg (by decide), if_pos hD]
          have ek : tk tp q = if glu tp (nbk tp q) || decide (2 < tw isDg tp (nbk tp q) - nbk tp q) then 4 else 2 := by unfold tk; rw [if_pos hlt, hnL, if_neg (by decide), if_pos hD]
          have hte := te_b hl
          have key : ∀ z : Nat × St, (nbk tp q ≤ z.1 ∧ z.1 ≤ tp.length ∧ (∀ i, nbk tp q ≤ i → i < z.1 → isDg (byt tp i) = true) ∧ Fr goX σ z.2 ∧ z.2.1 42 49 = z.1 ∧ z.2.1 42 51 = nbk tp q ∧ (z.1 = nbk tp q → z.2.1 42 52 = 0) ∧ (z.1 = nbk tp q + 1 → z.2.1 42 52 = byt tp (nbk tp q) - 48) ∧ (nbk tp q + 2 ≤ z.1 → z.2.1 42 52 = 10 * (byt tp (nbk tp q) - 48) + (byt tp (nbk tp q + 1) - 48))) → WP E m_M_goesOn (d + 1) 156 [(0, aP 42), (3, aI s)] [] z.2 (fun r τ => r = none ∧ σ.2 <+: τ.2 ∧ Fr goX σ τ ∧ LA τ tp q) := by
            refine lpx (fun z => tp.length - z.1) _ _ (fun z hI ih => ?_)
            obtain ⟨a, ψ⟩ := z
            obtain ⟨i1, i2, i3, i4, i5, i6, i7, i8, i9⟩ := hI
            simp only at i1 i2 i3 i4 i5 i6 i7 i8 i9 ih ⊢
            have hP := i4.fix hF (by decide)
            have hTP : Tp ψ tp := h.keep i4 rfl (fun _ => ⟨rfl, rfl⟩)
            have hba := hbb a
            refine b_M_goesOn_156 _ hP (wmi_p (c_M_here hP hTP i5 i2) ⟨hP, wmi_p (c_M_in (by omega) (by decide) (by decide)) ⟨hP, b2i_r _, fun c4 => ?_, fun c4 => ?_⟩⟩)
            · rw [b2i_0] at c4
              have hend : tw isDg tp (nbk tp q) = a := tw_ext _ _ _ rfl i1 i2 i3 (Or.inr (decide_eq_false c4))
              have hgt : nbk tp q < a := by rw [← hend, ← ee]; exact hte.2.2 hlt
              rw [i5, i6]
              have fin : ∀ v : Int, v = tk tp q → WP E m_M_goesOn (d + 1) 238 [] [aI v, aP 42] ψ (fun r τ => r = none ∧ σ.2 <+: τ.2 ∧ Fr goX σ τ ∧ LA τ tp q) := by
                intro v hv
                refine b_M_goesOn_238 _ _ ⟨sf_42 hP, rfl, pre_eq i4.1, i4.tr (Fr.wr (frO_k (by decide))), hl, ?_, ?_, ?_, fun q2 => ?_⟩
                · rw [wr_nk _ (by decide)]; exact i6
                · rw [wr_nk _ (by decide), i5, ee, hend]
                · rw [wr_same, hv]
                · rw [wr_nk _ (by decide), ee, hend]
                  unfold vd
                  rw [q2] at ek
                  have hle2 : ¬ 2 < a - nbk tp q := by
                    intro q3
                    rw [hend, decide_eq_true q3, Bool.or_true] at ek
                    exact absurd ek (by decide)
                  by_cases h1 : a - nbk tp q = 1
                  · rw [if_pos h1]; exact i8 (by omega)
                  · rw [if_neg h1]; exact i9 (by omega)
              have a4 : (tp.length : Int) ≤ 400 := by omega
              refine ⟨by omega, fun c5 => b_M_goesOn_233 _ (fin 4 ?_), fun c5 => ⟨by omega, fun c6 => fin 2 ?_, fun c6 => b_M_goesOn_233 _ (fin 4 ?_)⟩⟩
              · have hgt2 : glu tp (nbk tp q) = true := by rcases hs with q2 | q2; exact q2.2; omega
                rw [ek, hgt2]; rfl
              · have hgt2 : glu tp (nbk tp q) = false := by rcases hs with q2 | q2; omega; exact q2.2
                rw [ek, hgt2, hend, decide_eq_false (by omega)]; rfl
              · have hgt2 : glu tp (nbk tp q) = false := by rcases hs with q2 | q2; omega; exact q2.2
                rw [ek, hgt2, hend, decide_eq_true (by omega)]; rfl
            · rw [b2i_n0] at c4
              have halt : a < tp.length := by
                refine Nat.not_le.mp (fun q2 => ?_)
                unfold byt at c4
                rw [if_neg (by omega)] at c4
                omega
              have nxt : ∀ χ : St, Fr goX σ χ → χ.1 42 49 = a → χ.1 42 51 = nbk tp q → (a + 1 = nbk tp q + 1 → χ.1 42 52 = byt tp (nbk tp q) - 48) → (nbk tp q + 2 ≤ a + 1 → χ.1 42 52 = 10 * (byt tp (nbk tp q) - 48) + (byt tp (nbk tp q + 1) - 48)) → WP E m_M_goesOn (d + 1) 202 [(0, aP 42), (3, aI s)] [] χ (fun r τ => r = none ∧ σ.2 <+: τ.2 ∧ Fr goX σ τ ∧ LA τ tp q) := by
                intro χ g1 g2 g3 g4 g5
                refine b_M_goesOn_202 _ (g1.fix hF (by decide)) ?_
                rw [g2]
                have h9 := ih (a + 1, wr χ 42 49 ((a : Int) + 1)) (by show tp.length - (a + 1) < tp.length - a; omega) ⟨by show nbk tp q ≤ a + 1; omega, by show a + 1 ≤ _; omega, fun i b1 b2 => ?_, g1.tr (Fr.wr (frO_k (by decide))), by show (wr χ 42 49 ((a : Int) + 1)).1 42 49 = ((a + 1 : Nat) : Int); rw [wr_same]; omega, by show (wr χ 42 49 ((a : Int) + 1)).1 42 51 = _; rw [wr_nk _ (by decide)]; exact g3, fun q2 => by have : a + 1 = nbk tp q := q2; omega, fun q2 => by show (wr χ 42 49 ((a : Int) + 1)).1 42 52 = _; rw [wr_nk _ (by decide)]; exact g4 q2, fun q2 => by show (wr χ 42 49 ((a : Int) + 1)).1 42 52 = _; rw [wr_nk _ (by decide)]; exact g5 q2⟩
                · exact h9
                · by_cases hia : i = a
                  · subst hia; exact decide_eq_true c4
                  · exact i3 i b1 (by have : i < a + 1 := b2; omega)
              rw [i5, i6]
              refine ⟨by omega, fun c5 => nxt ψ i4 i5 i6 (fun q2 => by omega) (fun q2 => i9 (by omega)), fun c5 => wmi_p (c_M_here hP hTP i5 i2) ⟨hP, ?_⟩⟩
              refine nxt _ (i4.tr (Fr.wr (frO_k (by decide)))) (by rw [wr_nk _ (by decide)]; exact i5) (by rw [wr_nk _ (by decide)]; exact i6) (fun q2 => ?_) (fun q2 => ?_)
              · have : a = nbk tp q := by omega
                rw [wr_same, i7 this, this]; omega
              · have : a = nbk tp q + 1 := by omega
                rw [wr_same, i8 this, this]; omega
          have h9 := key (nbk tp q, wr υ 42 52 0) ⟨Nat.le_refl _, hnb.2, fun i b1 b2 => by have : i < nbk tp q := b2; omega, f1.tr (Fr.wr (frO_k (by decide))), by show (wr υ 42 52 0).1 42 49 = _; rw [wr_nk _ (by decide)]; exact f2, by show (wr υ 42 52 0).1 42 51 = _; rw [wr_nk _ (by decide)]; exact f3, fun _ => wr_same _ _ _ _, fun q2 => by have : nbk tp q = nbk tp q + 1 := q2; omega, fun q2 => by have : nbk tp q + 2 ≤ nbk tp q := q2; omega⟩
          exact h9
      · -- a word
        rw [b2i_n0] at c2
        have hL : isL (byt tp (nbk tp q)) = true := decide_eq_true c2
        have ee : te tp q = tw isL tp (nbk tp q) := by unfold te; rw [if_pos hlt, if_pos hL]
        have ek : tk tp q = if glu tp (nbk tp q) then 4 else 1 := by unfold tk; rw [if_pos hlt, if_pos hL]
        have key : ∀ z : Nat × St, (nbk tp q ≤ z.1 ∧ z.1 ≤ tp.length ∧ (∀ i, nbk tp q ≤ i → i < z.1 → isL (byt tp i) = true) ∧ Fr goX σ z.2 ∧ z.2.1 42 49 = z.1 ∧ z.2.1 42 51 = nbk tp q) → WP E m_M_goesOn (d + 1) 96 [(0, aP 42), (3, aI s)] [] z.2 (fun r τ => r = none ∧ σ.2 <+: τ.2 ∧ Fr goX σ τ ∧ LA τ tp q) := by
          refine lpx (fun z => tp.length - z.1) _ _ (fun z hI ih => ?_)
          obtain ⟨a, ψ⟩ := z
          obtain ⟨i1, i2, i3, i4, i5, i6⟩ := hI
          simp only at i1 i2 i3 i4 i5 i6 ih ⊢
          have hP := i4.fix hF (by decide)
          have hTP : Tp ψ tp := h.keep i4 rfl (fun _ => ⟨rfl, rfl⟩)
          have hba := hbb a
          refine b_M_goesOn_96 _ hP (wmi_p (c_M_here hP hTP i5 i2) ⟨hP, wmi_p (c_M_in (by omega) (by decide) (by decide)) ⟨hP, b2i_r _, fun c4 => ?_, fun c4 => ?_⟩⟩)
          · rw [b2i_0] at c4
            have hend : tw isL tp (nbk tp q) = a := tw_ext _ _ _ rfl i1 i2 i3 (Or.inr (decide_eq_false c4))
            have fin : ∀ v : Int, v = tk tp q → WP E m_M_goesOn (d + 1) 133 [] [aI v, aP 42] ψ (fun r τ => r = none ∧ σ.2 <+: τ.2 ∧ Fr goX σ τ ∧ LA τ tp q) := by
              intro v hv
              refine b_M_goesOn_133 _ _ ⟨sf_42 hP, rfl, pre_eq i4.1, i4.tr (Fr.wr (frO_k (by decide))), hl, ?_, ?_, ?_, fun q2 => ?_⟩
              · rw [wr_nk _ (by decide)]; exact i6
              · rw [wr_nk _ (by decide), i5, ee, hend]
              · rw [wr_same, hv]
              · rw [ek] at q2; split at q2 <;> omega
            refine ⟨by omega, fun c5 => fin 1 ?_, fun c5 => fin 4 ?_⟩
            · have hgt2 : glu tp (nbk tp q) = false := by rcases hs with q2 | q2; omega; exact q2.2
              rw [ek, hgt2]; rfl
            · have hgt2 : glu tp (nbk tp q) = true := by rcases hs with q2 | q2; exact q2.2; omega
              rw [ek, hgt2]; rfl
          · rw [b2i_n0] at c4
            have halt : a < tp.length := by
              refine Nat.not_le.mp (fun q2 => ?_)
              unfold byt at c4
              rw [if_neg (by omega)] at c4
              omega
            rw [i5]
            have h9 := ih (a + 1, wr ψ 42 49 ((a : Int) + 1)) (by show tp.length - (a + 1) < tp.length - a; omega) ⟨by show nbk tp q ≤ a + 1; omega, by show a + 1 ≤ _; omega, fun i b1 b2 => ?_, i4.tr (Fr.wr (frO_k (by decide))), by show (wr ψ 42 49 ((a : Int) + 1)).1 42 49 = ((a + 1 : Nat) : Int); rw [wr_same]; omega, by show (wr ψ 42 49 ((a : Int) + 1)).1 42 51 = _; rw [wr_nk _ (by decide)]; exact i6⟩
            · exact h9
            · by_cases hia : i = a
              · subst hia; exact decide_eq_true c4
              · exact i3 i b1 (by have : i < a + 1 := b2; omega)
        exact key (nbk tp q, υ) ⟨Nat.le_refl _, hnb.2, fun i b1 b2 => by have : i < nbk tp q := b2; omega, f1, f2, f3⟩
    · -- the end
      have hlt : ¬ nbk tp q < tp.length := fun q2 => by have := hb1.2.2 q2; omega
      have ek : tk tp q = 0 := by unfold tk; rw [if_neg hlt]
      have ee : te tp q = nbk tp q := by unfold te; rw [if_neg hlt]
      refine ⟨rfl, pre_eq f1.1, f1.tr (Fr.wr (frO_k (by decide))), hl, ?_, ?_, ?_, fun q2 => ?_⟩
      · rw [wr_nk _ (by decide)]; exact f3
      · rw [wr_nk _ (by decide), ee]; exact f2
      · rw [wr_same, ek]; rfl
      · omega
  -- the blanks
  have key : ∀ z : Nat × St, (q ≤ z.1 ∧ z.1 ≤ tp.length ∧ (∀ i, q ≤ i → i < z.1 → isB (byt tp i) = true) ∧ Fr goX σ z.2 ∧ z.2.1 42 49 = z.1) → WP E m_M_goesOn (d + 1) 10 [(0, aP 42), (1, aI k), (2, aI q)] [] z.2 (fun r τ => r = none ∧ σ.2 <+: τ.2 ∧ Fr goX σ τ ∧ LA τ tp q) := by
    refine lpx (fun z => tp.length - z.1) _ _ (fun z hI ih => ?_)
    obtain ⟨a, ψ⟩ := z
    obtain ⟨i1, i2, i3, i4, i5⟩ := hI
    simp only at i1 i2 i3 i4 i5 ih ⊢
    have hP := i4.fix hF (by decide)
    have hTP : Tp ψ tp := h.keep i4 rfl (fun _ => ⟨rfl, rfl⟩)
    have hba := hbb a
    refine b_M_goesOn_10 _ _ hP (wmi_p (c_M_here hP hTP i5 i2) ⟨hP, by omega, fun c => ?_, fun c => ?_⟩)
    · have hend : nbk tp q = a := tw_ext _ _ _ rfl i1 i2 i3 (Or.inr (decide_eq_false c))
      have hgn := glu_nbk (tp := tp) (p := q)
      rw [i5]
      have f5 : Fr goX σ (wr ψ 42 51 a) := i4.tr (Fr.wr (frO_k (by decide)))
      have e5 : (wr ψ 42 51 a).1 42 49 = nbk tp q := by rw [wr_nk _ (by decide), i5, hend]
      have e6 : (wr ψ 42 51 a).1 42 51 = nbk tp q := by rw [wr_same, hend]
      refine ⟨by omega, by omega, fun c2 => b_M_goesOn_62 (main _ f5 e5 e6 0 (Or.inr ⟨rfl, ?_⟩)), fun c2 => ⟨by omega, fun c3 => b_M_goesOn_58 (main _ f5 e5 e6 1 (Or.inl ⟨rfl, ?_⟩)), fun c3 => ⟨by omega, fun c4 => b_M_goesOn_62 (main _ f5 e5 e6 0 (Or.inr ⟨rfl, ?_⟩)), fun c4 => b_M_goesOn_58 (main _ f5 e5 e6 1 (Or.inl ⟨rfl, ?_⟩))⟩⟩⟩
      · rw [hgn, decide_eq_false (by omega)]; rfl
      · rw [hgn, decide_eq_true (by omega), hg.mp (Or.inl c3)]; rfl
      · rw [hgn, decide_eq_true (by omega)]
        cases hh : glu tp q with
        | false => rfl
        | true => have := hg.mpr hh; omega
      · rw [hgn, decide_eq_true (by omega), hg.mp (Or.inr c4)]; rfl
    · have halt : a < tp.length := by
        refine Nat.not_le.mp (fun q2 => ?_)
        unfold byt at c
        rw [if_neg (by omega)] at c
        omega
      rw [i5]
      have h9 := ih (a + 1, wr ψ 42 49 ((a : Int) + 1)) (by show tp.length - (a + 1) < tp.length - a; omega) ⟨by show q ≤ a + 1; omega, by show a + 1 ≤ _; omega, fun i b1 b2 => ?_, i4.tr (Fr.wr (frO_k (by decide))), by show (wr ψ 42 49 ((a : Int) + 1)).1 42 49 = ((a + 1 : Nat) : Int); rw [wr_same]; omega⟩
      · exact h9
      · by_cases hia : i = a
        · subst hia; exact decide_eq_true c
        · exact i3 i b1 (by have : i < a + 1 := b2; omega)
  exact key (q, σ) ⟨Nat.le_refl _, hl, fun i b1 b2 => by have : i < q := b2; omega, Fr.refl _ _, hq⟩
end MTok
