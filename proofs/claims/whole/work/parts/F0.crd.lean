/-! THE READER: bytes, words, marks, numbers -/
def RT (σ : St) (tp : List Int) : Prop := σ.1 12 5 = (tp.length : Int) ∧ (∀ (i : Nat) (x : Int), tp[i]? = some x → σ.1 13 i = Int.bmod x 256) ∧ tp.length ≤ 400 ∧ ∀ x ∈ tp, 0 ≤ x ∧ x ≤ 255
def byI (tp : List Int) (i : Int) : Int := if 0 ≤ i then byt tp i.toNat else -1
theorem byI_n (tp : List Int) (i : Nat) : byI tp (i : Int) = byt tp i := by unfold byI; rw [if_pos (by omega), show ((i : Nat) : Int).toNat = i by omega]
theorem RT.keep {X : List (Int × Int)} {σ τ : St} {tp : List Int} (h : RT σ tp) (hf : Fr X σ τ) (h1 : frO X 12 5 = true) (h2 : ∀ j, frO X 13 j = true) : RT τ tp := ⟨(hf.2 _ _ h1).trans h.1, fun i x hx => (hf.2 _ _ (h2 _)).trans (h.2.1 i x hx), h.2.2⟩
def atX : List (Int × Int) := [(12, 6)]
theorem nbk_i {tp : List Int} {p : Nat} (h : p ≤ tp.length) : nbk tp (nbk tp p) = nbk tp p := by
  unfold nbk
  by_cases c : tw isB tp p < tp.length
  · refine tw_none (fun q => ?_)
    have := tw_end (f := isB) (tp := tp) _ p rfl c
    rw [this] at q
    exact absurd q.2 (by decide)
  · exact tw_none (fun q => c q.1)
section CRd
variable {E : EV} {d : Nat} {σ : St} {tp : List Int} {p : Nat}
theorem byI_b (h : RT σ tp) (i : Int) : -1 ≤ byI tp i ∧ byI tp i ≤ 255 := by
  unfold byI
  split
  · have := byt_b h.2.2.2 i.toNat; omega
  · omega
theorem c_Reader_byteAt {i : Int} (hF : Fix σ) (h : RT σ tp) (hi : rI i) : WMi E m_Reader_byteAt d [aP 12, aI i] σ (fun r τ => r = byI tp i ∧ τ = σ) := by
  have h1 := h.1
  have h3 := h.2.2.1
  refine e_Reader_byteAt _ hF ⟨hi, fun c => ri_p ?_, fun c => ⟨hi, by omega, fun c2 => ri_p ?_, fun c2 => ⟨hi, fun c3 => by omega, fun c3 => ⟨by omega, ri_p ?_⟩⟩⟩⟩
  · unfold byI; rw [if_neg (by omega)]
  · unfold byI byt; rw [if_pos (by omega), if_neg (by omega)]
  · have hlt : i.toNat < tp.length := by omega
    have h2 := h.2.1 i.toNat _ (List.getElem?_eq_getElem hlt)
    rw [show ((i.toNat : Nat) : Int) = i by omega] at h2
    have hb := h.2.2.2 _ (List.getElem_mem hlt)
    have hm : tp[i.toNat].bmod 256 % ((256 : Nat) : Int) = tp[i.toNat] % ((256 : Nat) : Int) := by first | exact Int.bmod_emod | exact Int.bmod_emod _ _ | simp
    unfold byI byt
    rw [if_pos (by omega), if_pos hlt, h2, iand_mod, List.getD_eq_getElem?_getD, List.getElem?_eq_getElem hlt]
    show tp[i.toNat].bmod 256 % ((256 : Nat) : Int) = tp[i.toNat]
    rw [hm]
    omega
theorem c_Reader_isSmallLetter {x : Int} (hx : rI x) : WMi E m_Reader_isSmallLetter d [aI x] σ (fun r τ => r = b2i (isL x = true) ∧ τ = σ) := by
  unfold isL
  refine e_Reader_isSmallLetter _ ⟨hx, fun c => ri_p (b2i_f (by simp; omega)).symm, fun c => ⟨hx, fun c2 => ri_p (b2i_f (by simp; omega)).symm, fun c2 => ri_p (b2i_t (by simp; omega)).symm⟩⟩
theorem c_Reader_isDigit {x : Int} (hx : rI x) : WMi E m_Reader_isDigit d [aI x] σ (fun r τ => r = b2i (isDg x = true) ∧ τ = σ) := by
  unfold isDg
  refine e_Reader_isDigit _ ⟨hx, fun c => ri_p (b2i_f (by simp; omega)).symm, fun c => ⟨hx, fun c2 => ri_p (b2i_f (by simp; omega)).symm, fun c2 => ri_p (b2i_t (by simp; omega)).symm⟩⟩
theorem c_Reader_next (hF : Fix σ) (h : RT σ tp) (hp : σ.1 12 6 = p) (hl : p ≤ tp.length) : WMi E m_Reader_next (d + 1) [aP 12] σ (fun r τ => r = byt tp (nbk tp p) ∧ Fr atX σ τ ∧ τ.1 12 6 = nbk tp p) := by
  have h3 := h.2.2.1
  have key : ∀ z : Nat × St, (z.1 ≤ tp.length ∧ Fr atX σ z.2 ∧ z.2.1 12 6 = z.1 ∧ nbk tp z.1 = nbk tp p) → WP E m_Reader_next (d + 1) 0 [(0, aP 12)] [] z.2 (fun r τ => ∃ v, r = some (aI v) ∧ σ.2 <+: τ.2 ∧ v = byt tp (nbk tp p) ∧ Fr atX σ τ ∧ τ.1 12 6 = nbk tp p) := by
    refine lpx (fun z => tp.length - z.1) _ _ (fun z hI ih => ?_)
    obtain ⟨k, τ⟩ := z
    obtain ⟨i1, i2, i3, i4⟩ := hI
    simp only at i1 i2 i3 i4 ih ⊢
    have hT := i2.fix hF (by decide)
    have rT := h.keep i2 rfl (fun _ => rfl)
    have h5 := rT.1
    have hb := byI_b h (k : Int)
    have fin : nbk tp k = k → WP E m_Reader_next (d + 1) 37 [(0, aP 12)] [] τ (fun r τ => ∃ v, r = some (aI v) ∧ σ.2 <+: τ.2 ∧ v = byt tp (nbk tp p) ∧ Fr atX σ τ ∧ τ.1 12 6 = nbk tp p) := by
      intro e
      refine b_Reader_next_37 hT ?_
      rw [i3]
      refine wmi_p (c_Reader_byteAt hT rT (by omega)) ⟨_, rfl, pre_eq i2.1, ?_, i2, ?_⟩
      · rw [byI_n, ← i4, e]
      · rw [i3, ← i4, e]
    refine b_Reader_next_0 hT ⟨by omega, by omega, fun c => fin ?_, fun c => ?_⟩
    · exact tw_none (fun q => by omega)
    · rw [i3]
      refine wmi_p (c_Reader_byteAt hT rT (by omega)) ⟨hT, by omega, fun c2 => fin ?_, fun c2 => ?_⟩
      · rw [byI_n] at c2
        exact tw_none (fun q => c2 (of_decide_eq_true q.2))
      · rw [byI_n] at c2
        rw [i3]
        have h9 := ih (k + 1, wr τ 12 6 ((k : Int) + 1)) (by show tp.length - (k + 1) < tp.length - k; omega) ⟨by show k + 1 ≤ _; omega, i2.tr (Fr.wr (frO_k (by decide))), by
          show (wr τ 12 6 ((k : Int) + 1)).1 12 6 = ((k + 1 : Nat) : Int)
          rw [wr_same]; omega, by
          show nbk tp (k + 1) = nbk tp p
          rw [← i4]
          exact (tw_one (by omega) (by rw [c2]; decide)).symm⟩
        exact h9
  exact s_m (key (p, σ) ⟨hl, Fr.refl _ _, hp, rfl⟩)
theorem c_Reader_isGlued (hF : Fix σ) (h : RT σ tp) (hp : σ.1 12 6 = p) (hl : p ≤ tp.length) : WMi E m_Reader_isGlued (d + 1) [aP 12] σ (fun r τ => r = b2i (glu tp p = true) ∧ τ = σ) := by
  have h3 := h.2.2.1
  have hb := byI_b h ((p : Int) - 1)
  have e : (glu tp p = true) ↔ (isL (byI tp ((p : Int) - 1)) = true ∨ isDg (byI tp ((p : Int) - 1)) = true) := by
    unfold glu
    by_cases c : 0 < p
    · rw [show (p : Int) - 1 = ((p - 1 : Nat) : Int) by omega, byI_n, decide_eq_true c]
      simp
    · have : byI tp ((p : Int) - 1) = -1 := by unfold byI; rw [if_neg (by omega)]
      rw [this, decide_eq_false c]
      simp [isL, isDg]
  refine e_Reader_isGlued hF ?_
  rw [hp]
  refine wmi_p (c_Reader_byteAt hF h (by omega)) ⟨hF, wmi_p (c_Reader_isSmallLetter (by omega)) ⟨hF, b2i_r _, fun c => ?_, fun c => ?_⟩⟩
  · rw [b2i_n0] at c
    exact ri_p (b2i_t (e.mpr (Or.inl c))).symm
  · rw [b2i_0] at c
    rw [hp]
    refine wmi_p (c_Reader_byteAt hF h (by omega)) (wmi_p (c_Reader_isDigit (by omega)) ⟨b2i_r _, fun c2 => ?_, fun c2 => ?_⟩)
    · rw [b2i_0] at c2
      exact ri_p (b2i_f (fun q => (e.mp q).elim c c2)).symm
    · rw [b2i_n0] at c2
      exact ri_p (b2i_t (e.mpr (Or.inr c2))).symm
theorem c_Reader_wordEnd (hF : Fix σ) (h : RT σ tp) (hp : σ.1 12 6 = p) (hl : p ≤ tp.length) : WMi E m_Reader_wordEnd (d + 1) [aP 12] σ (fun r τ => r = (tw isL tp p : Int) ∧ τ = σ) := by
  have h3 := h.2.2.1
  have h5 := h.1
  refine e_Reader_wordEnd hF ?_
  rw [hp]
  have key : ∀ k : Nat, (k ≤ tp.length ∧ tw isL tp k = tw isL tp p) → WP E m_Reader_wordEnd (d + 1) 5 [(0, aP 12), (1, aI k)] [] σ (fun r τ => ∃ v, r = some (aI v) ∧ σ.2 <+: τ.2 ∧ v = (tw isL tp p : Int) ∧ τ = σ) := by
    refine lpx (fun k => tp.length - k) _ _ (fun k hI ih => ?_)
    obtain ⟨i1, i2⟩ := hI
    have hb := byI_b h (k : Int)
    refine b_Reader_wordEnd_5 _ hF ⟨by omega, by omega, fun c => ri_p ?_, fun c => wmi_p (c_Reader_byteAt hF h (by omega)) (wmi_p (c_Reader_isSmallLetter (by omega)) ⟨b2i_r _, fun c2 => ri_p ?_, fun c2 => ?_⟩)⟩
    · rw [← i2, tw_none (fun q => by omega)]
    · rw [b2i_0, byI_n] at c2
      rw [← i2, tw_none (fun q => c2 q.2)]
    · rw [b2i_n0, byI_n] at c2
      have h9 := ih (k + 1) (by show tp.length - (k + 1) < tp.length - k; omega) ⟨by omega, by rw [← i2]; exact (tw_one (by omega) c2).symm⟩
      rw [show ((k + 1 : Nat) : Int) = (k : Int) + 1 by omega] at h9
      exact h9
  exact key p ⟨hl, rfl⟩
theorem c_Reader_takeMark {c : Int} (hF : Fix σ) (h : RT σ tp) (hp : σ.1 12 6 = p) (hl : p ≤ tp.length) (hc : rI c) : WMi E m_Reader_takeMark (d + 2) [aP 12, aI c] σ (fun r τ => r = b2i (byt tp (nbk tp p) = c) ∧ Fr atX σ τ ∧ τ.1 12 6 = (if byt tp (nbk tp p) = c then (nbk tp p : Int) + 1 else nbk tp p)) := by
  have hb := byt_b h.2.2.2 (nbk tp p)
  refine e_Reader_takeMark _ hF (WMi.mono (c_Reader_next hF h hp hl) (fun r τ hp' hq => ?_))
  obtain ⟨rfl, f1, e1⟩ := hq
  refine ⟨f1.fix hF (by decide), by omega, hc, fun q => ?_, fun q => ?_⟩
  · rw [if_pos q, e1]
    exact ⟨_, rfl, hp', (b2i_t q).symm, f1.tr (Fr.wr (frO_k (by decide))), wr_same _ _ _ _⟩
  · rw [if_neg q]
    exact ⟨_, rfl, hp', (b2i_f q).symm, f1, e1⟩
theorem c_Reader_nextLetter (hF : Fix σ) (h : RT σ tp) (hp : σ.1 12 6 = p) (hl : p ≤ tp.length) : WMi E m_Reader_nextLetter (d + 2) [aP 12] σ (fun r τ => r = letN tp p ∧ Fr atX σ τ ∧ τ.1 12 6 = nbk tp p) := by
  have hb := byt_b h.2.2.2 (nbk tp p)
  have hn := nbk_b hl
  have h3 := h.2.2.1
  refine e_Reader_nextLetter hF (WMi.mono (c_Reader_next hF h hp hl) (fun r τ hp' hq => ?_))
  obtain ⟨rfl, f1, e1⟩ := hq
  have hT := f1.fix hF (by decide)
  have rT := h.keep f1 rfl (fun _ => rfl)
  refine ⟨hT, wmi_p (c_Reader_isGlued hT rT e1 hn.2) ⟨hT, b2i_r _, fun c => ?_, fun c => ?_⟩⟩
  · rw [b2i_n0] at c
    refine ⟨_, rfl, hp', ?_, f1, e1⟩
    unfold letN
    rw [if_neg]
    intro q
    have := (tk_1.mp q.1).2.2
    rw [c] at this; cases this
  · rw [b2i_0] at c
    have hw := tw_ge isL tp (nbk tp p)
    have hw2 := tw_le isL hn.2
    refine wmi_p (c_Reader_wordEnd hT rT e1 hn.2) ⟨hT, ?_, fun c2 => ?_, fun c2 => ?_⟩
    · rw [e1]; omega
    · rw [e1] at c2
      refine ⟨_, rfl, hp', ?_, f1, e1⟩
      have hlt : nbk tp p < tp.length := by omega
      have hL : isL (byt tp (nbk tp p)) = true := by
        cases hh : isL (byt tp (nbk tp p)) with
        | true => rfl
        | false =>
          have := tw_none (f := isL) (tp := tp) (p := nbk tp p) (fun q => by rw [hh] at q; exact absurd q.2 (by decide))
          omega
      have t1 : tk tp p = 1 := tk_1.mpr ⟨hlt, hL, by simpa using c⟩
      unfold letN
      rw [if_pos ⟨t1, by unfold te; rw [if_pos hlt, if_pos hL]; omega⟩]
    · rw [e1] at c2
      refine ⟨_, rfl, hp', ?_, f1, e1⟩
      unfold letN
      rw [if_neg]
      intro q
      obtain ⟨k1, k2, k3⟩ := tk_1.mp q.1
      have := q.2
      unfold te at this
      rw [if_pos k1, if_pos k2] at this
      omega
theorem c_Reader_takeWord {k : Nat} {r : Int} (hS : StrE E) (hF : Fix σ) (h : RT σ tp) (hp : σ.1 12 6 = p) (hl : p ≤ tp.length) (hk : k < 6) (hr : r = -((k : Int) + 1)) : WMi E m_Reader_takeWord (d + 4) [aP 12, aP r] σ (fun v τ => v = b2i (isW tp p k = true) ∧ Fr atX σ τ ∧ τ.1 12 6 = (if isW tp p k then (te tp p : Int) else nbk tp p)) := by
  have hb := byt_b h.2.2.2 (nbk tp p)
  have hn := nbk_b hl
  have h3 := h.2.2.1
  have hw4 := wd_len k hk
  subst hr
  obtain ⟨s1, s2, s3⟩ := hS.1 k hk
  refine e_Reader_takeWord _ hF (WMi.mono (c_Reader_next hF h hp hl) (fun r τ hp' hq => ?_))
  obtain ⟨rfl, f1, e1⟩ := hq
  have hT := f1.fix hF (by decide)
  have rT := h.keep f1 rfl (fun _ => rfl)
  have no : isW tp p k = false → ∃ v, some (aI 0) = some (aI v) ∧ σ.2 <+: τ.2 ∧ v = b2i (isW tp p k = true) ∧ Fr atX σ τ ∧ τ.1 12 6 = (if isW tp p k then (te tp p : Int) else nbk tp p) := fun q => ⟨_, rfl, hp', by rw [q]; rfl, f1, by rw [q, e1]; rfl⟩
  refine ⟨hT, wmi_p (c_Reader_isGlued hT rT e1 hn.2) ⟨hT, b2i_r _, fun c => no ?_, fun c => ?_⟩⟩
  · rw [b2i_n0] at c
    unfold isW; rw [c]; rfl
  · rw [b2i_0] at c
    have c' : glu tp (nbk tp p) = false := by simpa using c
    have hw := tw_ge isL tp (nbk tp p)
    have hw2 := tw_le isL hn.2
    have hwl : (wdAt tp (nbk tp p)).length = tw isL tp (nbk tp p) - nbk tp p := by unfold wdAt tw; omega
    have eW : isW tp p k = (wdAt tp (nbk tp p) == wd k) := by unfold isW; rw [c']; rfl
    refine wmi_p (c_Reader_wordEnd hT rT e1 hn.2) ⟨hT, s1, wmi_p (s2 _ _) ⟨by rw [e1]; omega, by omega, fun c2 => ?_, fun c2 => no ?_⟩⟩
    · rw [e1] at c2
      have hlen : (wdAt tp (nbk tp p)).length = (wd k).length := by omega
      have key : ∀ j : Nat, (j ≤ (wd k).length ∧ ∀ i, i < j → (wdAt tp (nbk tp p)).getD i 0 = (wd k).getD i 0) → WP E m_Reader_takeWord (d + 4) 32 [(0, aP 12), (1, aP (-((k : Int) + 1))), (2, aI j)] [] τ (fun r υ => ∃ v, r = some (aI v) ∧ σ.2 <+: υ.2 ∧ v = b2i (isW tp p k = true) ∧ Fr atX σ υ ∧ υ.1 12 6 = (if isW tp p k then (te tp p : Int) else nbk tp p)) := by
        refine lpx (fun j => (wd k).length - j) _ _ (fun j hI ih => ?_)
        obtain ⟨i1, i2⟩ := hI
        refine b_Reader_takeWord_32 _ _ hT ⟨s1, wmi_p (s2 _ _) ⟨hT, by omega, by omega, fun c3 => ⟨s1, wmi_p (s2 _ _) ⟨hT, ?_⟩⟩, fun c3 => ?_⟩⟩
        · have hall : wdAt tp (nbk tp p) = wd k := by
            refine List.ext_getElem? (fun i => ?_)
            by_cases q : i < (wd k).length
            · have := i2 i (by omega)
              rw [List.getD_eq_getElem?_getD, List.getD_eq_getElem?_getD, List.getElem?_eq_getElem (by omega), List.getElem?_eq_getElem q] at this
              rw [List.getElem?_eq_getElem (by omega), List.getElem?_eq_getElem q]
              exact congrArg some this
            · rw [List.getElem?_eq_none (by omega), List.getElem?_eq_none (by omega)]
          have hw1 : isW tp p k = true := by rw [eW, hall]; simp
          have ht := te_1 (isW_1 hk hw1)
          refine ⟨_, rfl, hp', by rw [hw1]; rfl, f1.tr (Fr.wr (frO_k (by decide))), ?_⟩
          rw [wr_same, hw1, if_pos rfl, e1, ht, hlen]
          omega
        · have hj : j < (wd k).length := by omega
          have hjw : j < (wdAt tp (nbk tp p)).length := by omega
          have hg := wdAt_get hjw
          have hbj := byt_b h.2.2.2 (nbk tp p + j)
          rw [e1]
          refine wmi_p (c_Reader_byteAt hT rT (by omega)) ⟨s1, wmi_p (s3 j hj _ _) ⟨?_, ?_, fun c4 => ?_, fun c4 => no ?_⟩⟩
          · have := byI_b rT ((nbk tp p : Int) + j); omega
          · have : (wd k).getD j 0 ∈ wd k := by rw [List.getD_eq_getElem?_getD, List.getElem?_eq_getElem hj]; exact List.getElem_mem _
            have hwr : ∀ k, k < 6 → ∀ x ∈ wd k, 97 ≤ x ∧ x ≤ 122 := by decide
            have := hwr k hk _ this
            omega
          · rw [show (nbk tp p : Int) + (j : Int) = ((nbk tp p + j : Nat) : Int) by omega, byI_n] at c4
            have h9 := ih (j + 1) (by show (wd k).length - (j + 1) < (wd k).length - j; omega) ⟨by omega, fun i hi => by
              by_cases q : i < j
              · exact i2 i q
              · obtain rfl : i = j := by omega
                rw [hg.1, c4]⟩
            rw [show ((j + 1 : Nat) : Int) = (j : Int) + 1 by omega] at h9
            exact h9
          · rw [show (nbk tp p : Int) + (j : Int) = ((nbk tp p + j : Nat) : Int) by omega, byI_n] at c4
            rw [eW]
            cases hh : (wdAt tp (nbk tp p) == wd k) with
            | false => rfl
            | true =>
              rw [beq_iff_eq] at hh
              rw [hh] at hg
              exact absurd hg.1.symm c4
      exact key 0 ⟨Nat.zero_le _, fun i hi => by omega⟩
    · rw [e1] at c2
      rw [eW]
      cases hh : (wdAt tp (nbk tp p) == wd k) with
      | false => rfl
      | true =>
        rw [beq_iff_eq] at hh
        have := congrArg List.length hh
        omega
theorem tk_2 {tp : List Int} {p : Nat} : tk tp p = 2 ↔ nbk tp p < tp.length ∧ isDg (byt tp (nbk tp p)) = true ∧ glu tp (nbk tp p) = false ∧ tw isDg tp (nbk tp p) - nbk tp p ≤ 2 := by
  unfold tk
  by_cases h1 : nbk tp p < tp.length
  · rw [if_pos h1]
    by_cases h2 : isL (byt tp (nbk tp p)) = true
    · rw [if_pos h2]
      have h3 : isDg (byt tp (nbk tp p)) = false := by
        have := of_decide_eq_true h2
        unfold isDg; rw [decide_eq_false_iff_not]; omega
      rw [h3]
      cases glu tp (nbk tp p) <;> simp
    · rw [if_neg h2]
      by_cases h3 : isDg (byt tp (nbk tp p)) = true
      · rw [if_pos h3]
        cases hg : glu tp (nbk tp p) with
        | true => simp
        | false =>
          by_cases h4 : 2 < tw isDg tp (nbk tp p) - nbk tp p
          · simp [h4, h1, h3]; omega
          · simp [h4, h1, h3]; omega
      · rw [if_neg h3]; simp [h3]
  · rw [if_neg h1]; simp [h1]
theorem c_Reader_readNumber {lo hi : Int} (hF : Fix σ) (h : RT σ tp) (hp : σ.1 12 6 = p) (hl : p ≤ tp.length) (h1 : 0 ≤ lo ∧ lo ≤ 1000) (h2 : 0 ≤ hi ∧ hi ≤ 999) : WMi E m_Reader_readNumber (d + 2) [aP 12, aI lo, aI hi] σ (fun v τ => Fr atX σ τ ∧ ((rdN tp p lo hi = none ∧ v = -1 ∧ τ.1 12 6 = nbk tp p) ∨ ∃ w, rdN tp p lo hi = some w ∧ v = w.1 ∧ τ.1 12 6 = w.2)) := by
  have hn := nbk_b hl
  have h3 := h.2.2.1
  refine e_Reader_readNumber _ _ hF (WMi.mono (c_Reader_next hF h hp hl) (fun r τ hp' hq => ?_))
  obtain ⟨rfl, f1, e1⟩ := hq
  have hT := f1.fix hF (by decide)
  have rT := h.keep f1 rfl (fun _ => rfl)
  have h5 := rT.1
  rw [e1]
  have hw := tw_ge isDg tp (nbk tp p)
  have hw2 := tw_le isDg hn.2
  refine ⟨hT, ?_⟩
  -- behind the digits
  have fin : ∀ num : Int, (0 ≤ num ∧ num ≤ 1000) → (tw isDg tp (nbk tp p) - nbk tp p = 1 ∨ tw isDg tp (nbk tp p) - nbk tp p = 2 → num = vd tp (nbk tp p) (tw isDg tp (nbk tp p))) → WP E m_Reader_readNumber (d + 2) 60 [(0, aP 12), (1, aI lo), (2, aI hi), (3, aI (tw isDg tp (nbk tp p) : Nat)), (4, aI num)] [] τ (fun r υ => ∃ v, r = some (aI v) ∧ σ.2 <+: υ.2 ∧ Fr atX σ υ ∧ ((rdN tp p lo hi = none ∧ v = -1 ∧ υ.1 12 6 = nbk tp p) ∨ ∃ w, rdN tp p lo hi = some w ∧ v = w.1 ∧ υ.1 12 6 = w.2)) := by
    intro num hnum hvd
    have no : rdN tp p lo hi = none → ∃ v, some (aI (-1)) = some (aI v) ∧ σ.2 <+: τ.2 ∧ Fr atX σ τ ∧ ((rdN tp p lo hi = none ∧ v = -1 ∧ τ.1 12 6 = nbk tp p) ∨ ∃ w, rdN tp p lo hi = some w ∧ v = w.1 ∧ τ.1 12 6 = w.2) := fun q => ⟨_, rfl, hp', f1, Or.inl ⟨q, rfl, e1⟩⟩
    refine b_Reader_readNumber_60 _ _ _ _ hT (wmi_p (c_Reader_isGlued hT rT e1 hn.2) ⟨hT, b2i_r _, fun c => no ?_, fun c => ⟨by omega, by omega, fun c2 => no ?_, fun c2 => ⟨by omega, fun c3 => no ?_, fun c3 => ?_⟩⟩⟩)
    · rw [b2i_n0] at c
      unfold rdN
      rw [if_neg]
      intro q
      have := (tk_2.mp q.1).2.2.1
      rw [c] at this; cases this
    · unfold rdN
      rw [if_neg]
      intro q
      obtain ⟨k1, k2, k3, k4⟩ := tk_2.mp q.1
      have := tw_one k1 k2
      have := tw_ge isDg tp (nbk tp p + 1)
      omega
    · unfold rdN
      rw [if_neg]
      intro q
      obtain ⟨k1, k2, k3, k4⟩ := tk_2.mp q.1
      omega
    · rw [b2i_0] at c
      have hlt : nbk tp p < tp.length := by omega
      have hD : isDg (byt tp (nbk tp p)) = true := by
        cases hh : isDg (byt tp (nbk tp p)) with
        | true => rfl
        | false =>
          have := tw_none (f := isDg) (tp := tp) (p := nbk tp p) (fun q => by rw [hh] at q; exact absurd q.2 (by decide))
          omega
      have t2 : tk tp p = 2 := tk_2.mpr ⟨hlt, hD, by simpa using c, by omega⟩
      have hnL : ¬ isL (byt tp (nbk tp p)) = true := by
        have := of_decide_eq_true hD
        unfold isL; rw [decide_eq_true_iff]; omega
      have hte : te tp p = tw isDg tp (nbk tp p) := by unfold te; rw [if_pos hlt, if_neg hnL, if_pos hD]
      have hv := hvd (by omega)
      refine ⟨by omega, by omega, fun c4 => no ?_, fun c4 => ⟨by omega, by omega, fun c5 => ?_, fun c5 => no ?_⟩⟩
      · unfold rdN
        rw [hte, ← hv, if_neg (by omega)]
      · refine ⟨_, rfl, hp', f1.tr (Fr.wr (frO_k (by decide))), Or.inr ⟨(num, tw isDg tp (nbk tp p)), ?_, rfl, wr_same _ _ _ _⟩⟩
        unfold rdN
        rw [hte, ← hv, if_pos ⟨t2, by omega, by omega⟩]
      · unfold rdN
        rw [hte, ← hv, if_neg (by omega)]
  have key : ∀ z : Nat × Int, ((nbk tp p ≤ z.1 ∧ z.1 ≤ tp.length) ∧ (0 ≤ z.2 ∧ z.2 ≤ 1000) ∧ tw isDg tp z.1 = tw isDg tp (nbk tp p) ∧ (z.1 = nbk tp p → z.2 = 0) ∧ (z.1 = nbk tp p + 1 → z.2 = byt tp (nbk tp p) - 48) ∧ (z.1 = nbk tp p + 2 → z.2 = 10 * (byt tp (nbk tp p) - 48) + (byt tp (nbk tp p + 1) - 48)) ∧ ∀ i, nbk tp p ≤ i → i < z.1 → isDg (byt tp i) = true) → WP E m_Reader_readNumber (d + 2) 13 [(0, aP 12), (1, aI lo), (2, aI hi), (3, aI z.1), (4, aI z.2)] [] τ (fun r υ => ∃ v, r = some (aI v) ∧ σ.2 <+: υ.2 ∧ Fr atX σ υ ∧ ((rdN tp p lo hi = none ∧ v = -1 ∧ υ.1 12 6 = nbk tp p) ∨ ∃ w, rdN tp p lo hi = some w ∧ v = w.1 ∧ υ.1 12 6 = w.2)) := by
    refine lpx (fun z => tp.length - z.1) _ _ (fun z hI ih => ?_)
    obtain ⟨k, num⟩ := z
    obtain ⟨i1, i2, i3, i4, i5, i6, i7⟩ := hI
    simp only at i1 i2 i3 i4 i5 i6 i7 ih ⊢
    have done : tw isDg tp k = k → WP E m_Reader_readNumber (d + 2) 60 [(0, aP 12), (1, aI lo), (2, aI hi), (3, aI k), (4, aI num)] [] τ (fun r υ => ∃ v, r = some (aI v) ∧ σ.2 <+: υ.2 ∧ Fr atX σ υ ∧ ((rdN tp p lo hi = none ∧ v = -1 ∧ υ.1 12 6 = nbk tp p) ∨ ∃ w, rdN tp p lo hi = some w ∧ v = w.1 ∧ υ.1 12 6 = w.2)) := by
      intro e
      have h9 := fin num i2 (fun q => by
        rw [← i3, e] at q ⊢
        unfold vd
        rcases q with q | q
        · rw [if_pos q]; exact i5 (by omega)
        · rw [if_neg (by omega)]; exact i6 (by omega))
      rw [← i3, e] at h9
      exact h9
    have hb := byI_b rT (k : Int)
    refine b_Reader_readNumber_13 _ _ _ _ hT ⟨by omega, by omega, fun c => done (tw_none (fun q => by omega)), fun c => wmi_p (c_Reader_byteAt hT rT (by omega)) ⟨hT, wmi_p (c_Reader_isDigit (by omega)) ⟨hT, b2i_r _, fun c2 => done ?_, fun c2 => wmi_p (c_Reader_byteAt hT rT (by omega)) ⟨by omega, ?_⟩⟩⟩⟩
    · rw [b2i_0, byI_n] at c2
      exact tw_none (fun q => c2 q.2)
    · rw [b2i_n0, byI_n] at c2
      rw [byI_n] at hb ⊢
      have hdk := of_decide_eq_true c2
      have h9 := ih (k + 1, min 1000 (num * 10 + byt tp k - 48)) (by show tp.length - (k + 1) < tp.length - k; omega) ⟨⟨by show nbk tp p ≤ k + 1; omega, by show k + 1 ≤ _; omega⟩, by show 0 ≤ min 1000 (num * 10 + byt tp k - 48) ∧ min 1000 (num * 10 + byt tp k - 48) ≤ 1000; omega, by show tw isDg tp (k + 1) = _; rw [← i3]; exact (tw_one (by omega) c2).symm, fun q => by have q' : k + 1 = nbk tp p := q; omega, fun q => by
        have q' : k + 1 = nbk tp p + 1 := q
        have hk : k = nbk tp p := by omega
        show min 1000 (num * 10 + byt tp k - 48) = _
        rw [i4 hk, hk]
        rw [hk] at hdk
        omega, fun q => by
        have q' : k + 1 = nbk tp p + 2 := q
        have hk : k = nbk tp p + 1 := by omega
        have h10 := i7 (nbk tp p) (by omega) (by omega)
        have h11 := of_decide_eq_true h10
        show min 1000 (num * 10 + byt tp k - 48) = _
        rw [i5 hk, hk]
        rw [hk] at hdk
        omega, fun i j1 j2 => by
        have j2' : i < k + 1 := j2
        by_cases q : i < k
        · exact i7 i j1 q
        · obtain rfl : i = k := by omega
          exact c2⟩
      simp only at h9
      rw [show ((k + 1 : Nat) : Int) = (k : Int) + 1 by omega] at h9
      exact h9
  exact key (nbk tp p, 0) ⟨⟨Nat.le_refl _, hn.2⟩, by show (0 : Int) ≤ 0 ∧ (0 : Int) ≤ 1000; omega, rfl, fun _ => rfl, fun q => by have q' : nbk tp p = nbk tp p + 1 := q; omega, fun q => by have q' : nbk tp p = nbk tp p + 2 := q; omega, fun i j1 j2 => by have j2' : i < nbk tp p := j2; omega⟩
end CRd
