/-! COUNT, SIGN, LINE, COLUMN, LETTER, INSIDE, BACK -/
section CAsk
variable {E : EV} {d : Nat} {σ : St} {b : Int} {T : Tb} {M : Mo} {P : List Mo} {tp : List Int}
theorem c_S_count {w : Int} (h : CS σ b T M P tp) (hT : okTab T) (hk : okMo T M) (hw : rI w) : WMi E m_S_count (d + 5) [aP 1, aI w] σ (fun r τ => r = sp_count T M P tp w ∧ τ = σ) := by
  have hm := h.2.1.2
  refine e_S_count _ h.1.1 ⟨hw, fun c => ⟨hm.2.1, ⟨_, hm.2.2.1⟩, ri_p (by rw [c, ln_of hm.2.2.1]; rfl)⟩, fun c => ⟨hm.2.1, wmi_p (c_Moment_squares hm hk.ls) (ri_p (by rw [c]; rfl))⟩, fun c => ⟨hm.2.1, wmi_p (c_Moment_signs hm hk.ls) (ri_p (by rw [c]; rfl))⟩, fun c => ⟨h.2.1.1.2.1, wmi_p (c_Table_told h.2.1.1 hT) (ri_p (by rw [c]; rfl))⟩, fun c => ⟨hm.2.1, ri_p (by rw [c, hm.2.2.2.1.1]; rfl)⟩, fun c => ⟨hm.2.1, ri_p (by rw [c, hm.2.2.2.1.2]; rfl)⟩, fun c => ri_p (by rw [c, h.2.2.1.1]; rfl), fun c => ri_p (by rw [c, h.2.2.2.1.1]; rfl), fun c => ⟨h.2.1.1.2.1, wmi_p (c_Table_cores h.2.1.1 hT) (ri_p (by rw [c]; rfl))⟩, fun c => ri_p ?_⟩
  unfold sp_count
  rw [if_neg (by omega), if_neg (by omega), if_neg (by omega), if_neg (by omega), if_neg (by omega), if_neg (by omega), if_neg (by omega), if_neg (by omega), if_neg (by omega)]
theorem c_S_timesOf {c : Nat} (h : CS σ b T M P tp) (hk : okMo T M) (hc : c < 26) : WMi E m_S_timesOf (d + 4) [aP 1, aI c] σ (fun r τ => r = lcMo c M ∧ τ = σ) := by
  have hm := h.2.1.2
  have hsz := hk.ls.1
  refine e_S_timesOf _ ?_
  refine lpu M.2.2.length (fun k τ => ∀ n : Nat, n = ((M.2.2.take k.toNat).map (lcLn c)).sum → WP E m_S_timesOf (d + 4) 4 [(0, aP 1), (1, aI c), (2, aI n), (3, aI k)] [] τ _) (fun k τ => (0 ≤ k ∧ k ≤ M.2.2.length) ∧ τ = σ) (fun k τ hI ih n hn => ?_) 0 σ ⟨by omega, rfl⟩ 0 (by simp)
  obtain ⟨i1, rfl⟩ := hI
  refine b_S_timesOf_4 _ _ _ h.1.1 ⟨hm.2.1, ⟨_, hm.2.2.1⟩, by omega, by rw [ln_of hm.2.2.1]; omega, fun g => ri_p ?_, fun g => ⟨hm.2.1, wmr_p (c_Moment_get hm hsz (by omega)) ?_⟩⟩
  · rw [ln_of hm.2.2.1] at g
    rw [hn, List.take_of_length_le (by omega)]; rfl
  · rw [ln_of hm.2.2.1] at g
    obtain ⟨L, hL⟩ : ∃ L, M.2.2[k.toNat]? = some L := ⟨_, List.getElem?_eq_getElem (by omega)⟩
    have hl : lnAt M k = some L := by unfold lnAt; rw [if_pos i1.1]; exact hL
    have hr := rf_ln hm hl
    refine ⟨fun _ => ⟨hr.1.2.1, wmi_p (c_Line_timesOf hr.1 (hk.ls.2 L (List.mem_of_getElem? hL)) hc) (b_S_timesOf_42 _ _ _ _ ?_)⟩, fun q => absurd q hr.2⟩
    have := ih (by omega) τ ⟨by omega, rfl⟩ (n + lcLn c L) (by rw [show (k + 1).toNat = k.toNat + 1 by omega, sum_take (lcLn c) hL, hn])
    rw [show (n : Int) + (lcLn c L : Int) = ((n + lcLn c L : Nat) : Int) by omega]
    exact this
theorem c_S_sign {c w : Int} (h : CS σ b T M P tp) (hT : okTab T) (hk : okMo T M) (h1 : rI c) (h2 : rI w) : WMi E m_S_sign (d + 5) [aP 1, aI c, aI w] σ (fun r τ => r = sp_sign T M c w ∧ τ = σ) := by
  have ht := h.2.1.1
  unfold sp_sign
  refine e_S_sign _ _ h.1.1 ⟨h1, fun q => ri_p (by rw [if_neg (by omega)]), fun q1 => ⟨h1, fun q => ri_p (by rw [if_neg (by omega)]), fun q2 => ⟨h2, fun q => ri_p (by rw [if_neg (by omega)]), fun q3 => ⟨h2, fun q4 => ⟨ht.2.1, wmi_p (c_Table_has ht hT h1) ⟨h.1.1, b2i_r _, fun q5 => ?_, fun q5 => ri_p ?_⟩⟩, fun q => ri_p (by rw [if_neg (by omega)])⟩⟩⟩⟩
  · rw [b2i_n0, tb_pos] at q5
    have e : ∀ f, tb f T c = f (T c.toNat) := fun f => by unfold tb; rw [if_pos (by omega)]
    have q6 : 0 < (T c.toNat).1 := q5.2
    rw [if_pos (by omega), if_pos q6]
    refine ⟨h2, fun q => ⟨ht.2.1, wmi_p (c_Table_wideOf ht h1) (ri_p (by rw [e, if_pos q]; rfl))⟩, fun q => ⟨ht.2.1, wmi_p (c_Table_highOf ht h1) (ri_p (by rw [e, if_neg (by omega), if_pos q]; rfl))⟩, fun q => ⟨ht.2.1, wmi_p (c_Table_coreWideOf ht h1) (ri_p (by rw [e, if_neg (by omega), if_neg (by omega), if_pos q]; rfl))⟩, fun q => ⟨ht.2.1, wmi_p (c_Table_coreHighOf ht h1) (ri_p (by rw [e, if_neg (by omega), if_neg (by omega), if_neg (by omega), if_pos q]; rfl))⟩, fun q => ?_⟩
    have h9 := c_S_timesOf (E := E) (d := d) (c := c.toNat) h hk (by omega)
    rw [show ((c.toNat : Nat) : Int) = c by omega] at h9
    exact wmi_p h9 (ri_p (by rw [if_neg (by omega), if_neg (by omega), if_neg (by omega), if_neg (by omega)]))
  · rw [b2i_0, tb_pos] at q5
    have q6 : ¬ 0 < (T c.toNat).1 := fun z => q5 ⟨by omega, z⟩
    rw [if_pos (by omega), if_neg q6]
theorem c_S_line {l w : Int} (h : CS σ b T M P tp) (hk : okMo T M) (h1 : rI l) (h2 : rI w) : WMi E m_S_line (d + 5) [aP 1, aI l, aI w] σ (fun r τ => r = (match lnAt M l with | none => -1 | some L => if w = 0 then (L.2.length : Int) else if w = 1 then ((L.2.map sg).sum : Nat) else if w = 2 then (if L.1 then 1 else 0) else -1) ∧ τ = σ) := by
  refine e_S_line _ _ h.1.1 (WMr.mono (c_S_lineAt h hk h1) (fun r τ _ hq => ?_))
  obtain ⟨hq1, rfl⟩ := hq
  cases hl : lnAt M l with
  | none => rw [hl] at hq1; exact ⟨fun c => absurd hq1 c, fun c => ri_p rfl⟩
  | some L =>
    rw [hl] at hq1
    have hkL := (hk.ln hl).1.qs
    have hlv := hq1.2.2.2.2.1
    refine ⟨fun c => ⟨h2, fun q => ⟨hq1.2.2.1, wmi_p (c_Line_size hq1.2) (ri_p (if_pos q).symm)⟩, fun q => ⟨hq1.2.2.1, wmi_p (c_Line_signs hq1.2 hkL) (ri_p ?_)⟩, fun q => ⟨hq1.2.2.1, by rw [hlv]; split <;> decide, fun q2 => ri_p ?_, fun q2 => ri_p ?_⟩, fun q => ri_p ?_⟩, fun c => absurd c hq1.1⟩
    · simp only [q]; rfl
    · rw [hlv] at q2; simp only [q]; cases hb2 : L.1 <;> simp_all
    · rw [hlv] at q2; simp only [q]; cases hb2 : L.1 <;> simp_all
    · show _ = (if w = 0 then _ else _)
      rw [if_neg (by omega), if_neg (by omega), if_neg (by omega)]
theorem c_S_column {l s : Int} (h : CS σ b T M P tp) (hk : okMo T M) (h1 : rI l) (h2 : rI s) : WMi E m_S_column (d + 5) [aP 1, aI l, aI s] σ (fun r τ => r = (match lnAt M l with | none => -1 | some L => match sqIn L s with | none => -1 | some _ => if L.1 then L.2.length - 1 - s else s) ∧ τ = σ) := by
  refine e_S_column _ _ h.1.1 (WMr.mono (c_S_lineAt h hk h1) (fun r τ _ hq => ?_))
  obtain ⟨hq1, rfl⟩ := hq
  cases hl : lnAt M l with
  | none => rw [hl] at hq1; exact ⟨fun c => ri_p rfl, fun c => absurd hq1 c⟩
  | some L =>
    rw [hl] at hq1
    have hkL := (hk.ln hl).1.qs
    have hlv := hq1.2.2.2.2.1
    refine ⟨fun c => absurd c hq1.1, fun c => ⟨hq1.2.2.1, wmi_p (c_Line_has hq1.2 hkL.1 h2) ⟨b2i_r _, fun q => ?_, fun q => ri_p ?_⟩⟩⟩
    · rw [b2i_n0] at q
      have hs : ∃ t, sqIn L s = some t := ⟨_, by unfold sqIn; rw [if_pos q.1]; exact List.getElem?_eq_getElem (by omega)⟩
      obtain ⟨t, hs⟩ := hs
      refine ⟨hq1.2.2.1, by rw [hlv]; split <;> decide, fun q2 => ri_p ?_, fun q2 => ⟨hq1.2.2.1, wmi_p (c_Line_size hq1.2) (ri_p ?_)⟩⟩
      · rw [hlv] at q2; simp only [hs]; cases hb2 : L.1 <;> simp_all
      · rw [hlv] at q2; simp only [hs]; cases hb2 : L.1 <;> simp_all
    · rw [b2i_0] at q
      cases hs : sqIn L s with
      | none => simp only [hs]
      | some t => have := sqIn_some hs; omega
theorem c_S_letter {l s i : Int} (h : CS σ b T M P tp) (hk : okMo T M) (h1 : rI l) (h2 : rI s) (h3 : rI i) : WMi E m_S_letter (d + 5) [aP 1, aI l, aI s, aI i] σ (fun r τ => r = sp_letter M l s i ∧ τ = σ) := by
  refine e_S_letter _ _ _ h.1.1 (WMr.mono (c_S_squareAt h hk h1 h2) (fun r τ _ hq => ?_))
  obtain ⟨hq1, rfl⟩ := hq
  have ho := hk.oOk l s
  unfold sp_letter
  cases hs : sqAt M l s with
  | none => rw [hs] at hq1; exact ⟨fun c => absurd hq1 c, fun c => b_S_letter_23 _ _ ⟨fun _ => ri_p rfl, fun q => absurd c q⟩⟩
  | some t =>
    rw [hs] at hq1 ho
    have hcc := ho.cc
    have hsq := hq1.2
    refine ⟨fun c => ⟨hsq.2.1, wmi_p (c_Sq_place hsq.2 hcc.1 (by omega) h3) (b_S_letter_23 _ _ ⟨fun q => absurd q hq1.1, fun q => ?_⟩)⟩, fun c => absurd c hq1.1⟩
    by_cases hi : 0 ≤ i ∧ i < sg t
    · simp only [if_pos hi]
      have hpl := poC_isPl hcc.1 (n := i.toNat) (by omega)
      have hu := sgi_okw hcc.1 i.toNat (by omega)
      have hsy := sy_sign hu.1 hu.2
      have hlt := hpl.1.1
      have hr := sy_r hu.1
      refine ⟨by omega, fun q2 => ⟨hsq.2.1, wmi_p (c_Sq_symbol hsq.2 (by omega) (by omega)) ?_⟩, fun q2 => by omega⟩
      rw [if_pos (by omega), show ((poC t i.toNat : Nat) : Int).toNat = poC t i.toNat by omega, hpl.2]
      exact wmi_p (c_S_letterOf (by omega)) (ri_p hsy.2.1)
    · rw [if_neg hi]
      exact ⟨by decide, fun q2 => absurd rfl q2, fun q2 => ri_p (if_neg hi).symm⟩
theorem c_S_inside {l s i : Int} (h : CS σ b T M P tp) (hk : okMo T M) (h1 : rI l) (h2 : rI s) (h3 : rI i) : WMi E m_S_inside (d + 5) [aP 1, aI l, aI s, aI i] σ (fun r τ => r = sp_inside M l s i ∧ τ = σ) := by
  refine e_S_inside _ _ _ h.1.1 (WMr.mono (c_S_squareAt h hk h1 h2) (fun r τ _ hq' => ?_))
  obtain ⟨hq1, rfl⟩ := hq'
  have ho := hk.oOk l s
  unfold sp_inside
  cases hs : sqAt M l s with
  | none => rw [hs] at hq1; exact ⟨fun c => absurd hq1 c, fun c => b_S_inside_23 _ _ ⟨fun _ => ri_p rfl, fun q => absurd c q⟩⟩
  | some t =>
    rw [hs] at hq1 ho
    have hcc := ho.cc
    have hsq := hq1.2
    refine ⟨fun c => ⟨hsq.2.1, wmi_p (c_Sq_place hsq.2 hcc.1 (by omega) h3) (b_S_inside_23 _ _ ⟨fun q => absurd q hq1.1, fun q => ?_⟩)⟩, fun c => absurd c hq1.1⟩
    by_cases hi : 0 ≤ i ∧ i < sg t
    · simp only [if_pos hi]
      have hlt := (poC_isPl hcc.1 (n := i.toNat) (by omega)).1.1
      have hho := hq_poC hcc.1 i.toNat (-1) 0 (by omega)
      have hin := hoC_inI hcc.1 i.toNat [] [] (-1) (-2) (by omega) (Or.inl ⟨rfl, rfl⟩)
      simp only [List.nil_append, List.append_nil] at hin
      refine ⟨by omega, fun q2 => ⟨hsq.2.1, WMi.mono (c_Sq_holderOf hsq.2 hcc.1 (by omega) hlt) (fun v τ2 _ hv => ?_)⟩, fun q2 => by omega⟩
      obtain ⟨hv1, rfl⟩ := hv
      rw [hho] at hv1
      cases hv1
      have e0 : (([] : List Int).length : Int) = 0 := rfl
      have e1 : nSg [] = 0 := rfl
      rw [e0, e1] at hin
      rcases hin with ⟨g1, g2⟩ | ⟨A, B, g1, g2, g3⟩
      · rw [g1, g2]
        exact ⟨by decide, fun q3 => absurd rfl q3, fun _ => ri_p rfl⟩
      · have hl := congrArg List.length g1
        simp only [List.length_append] at hl
        rw [g2, g3]
        refine ⟨by omega, fun _ => ⟨hsq.2.1, wmi_p (c_Sq_numberAt hsq.2 (by omega) (cC_sym hcc.1) (by omega)) (ri_p ?_)⟩, fun q3 => by omega⟩
        rw [g1, show ((A.length : Nat) : Int).toNat = A.length by omega, List.take_left]
    · rw [if_neg hi]
      exact ⟨by decide, fun q2 => absurd rfl q2, fun q2 => ri_p (if_neg hi).symm⟩
theorem CS.tape {τ : St} {tp' : List Int} (h : CS σ b T M P tp) (hf : Fr [(13, -1), (12, 1)] σ τ) (h1 : τ.1 12 1 = tp'.length) (h2 : ∀ (i : Nat) (x : Int), tp'[i]? = some x → τ.1 13 i = Int.bmod x 256) : CS τ b T M P tp' := by
  obtain ⟨⟨a1, a2, a3⟩, ⟨b1, b2⟩, ⟨c1, c2⟩, -, c5⟩ := h
  have hc := hf.cf 0 0
  refine ⟨⟨hf.fix a1 (by decide), a2, by rw [hf.1]; exact a3⟩, ⟨?_, ?_⟩, ⟨?_, fun i m hm => ?_⟩, ⟨h1, h2⟩, c5.cf hc rfl (fun k q1 q2 => hf.2 32 k rfl)⟩
  · rw [hf.2 1 0 rfl]; exact b1.cf hc rfl
  · rw [hf.2 1 1 rfl]; exact b2.cf hc rfl a2
  · rw [hf.2 1 3 rfl]; exact c1
  · rw [hf.2 9 i rfl]; exact (c2 i m hm).cf hc rfl a2
theorem c_S_back {n : Int} (h : CS σ b T M P tp) (ht : tp.length ≤ 400) (hn : rI n) : WMi E m_S_back d [aP 1, aI n] σ (fun r τ => if 0 ≤ n ∧ n ≤ tp.length then r = tp.length - n ∧ Fr [(13, -1), (12, 1)] σ τ ∧ CS τ b T M P (tp.take (tp.length - n.toNat)) else r = -1 ∧ τ = σ) := by
  have h1 := h.2.2.2.1.1
  refine e_S_back _ h.1.1 ⟨hn, fun c => ⟨_, rfl, List.prefix_refl _, ?_⟩, fun c => ⟨hn, by omega, fun c2 => ⟨_, rfl, List.prefix_refl _, ?_⟩, fun c2 => ⟨_, rfl, List.prefix_refl _, ?_⟩⟩⟩
  · show (if 0 ≤ n ∧ n ≤ tp.length then _ else _)
    rw [if_neg (by omega)]; exact ⟨rfl, rfl⟩
  · show (if 0 ≤ n ∧ n ≤ tp.length then _ else _)
    rw [if_pos (by omega)]
    have hf : Fr [(13, -1), (12, 1)] σ (wr σ 12 1 (σ.1 12 1 - n)) := Fr.wr (frO_k (by decide))
    refine ⟨by omega, hf, h.tape hf ?_ (fun i x hx => ?_)⟩
    · rw [wr_same, List.length_take]; omega
    · rw [wr_na _ (by decide)]
      rw [List.getElem?_take] at hx
      split at hx
      · exact h.2.2.2.1.2 i x hx
      · cases hx
  · show (if 0 ≤ n ∧ n ≤ tp.length then _ else _)
    rw [if_neg (by omega)]; exact ⟨rfl, rfl⟩
end CAsk
