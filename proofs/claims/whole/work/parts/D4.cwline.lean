/-! A LINE, ALL -/
/-- the speller's text, where no bracket is open -/
def SpW (σ : St) (i : Int) (X : List Int) (w : Int) : Prop := ∃ B D G, SpIs σ i X w B 0 D 0 G ∧ (0 ≤ D ∧ D ≤ 100) ∧ 0 ≤ G ∧ G ≤ 100
section CWLine
variable {E : EV} {d : Nat} {σ : St} {i w : Int} {X : List Int} {T : Tb} {M : Mo} {a b : Int}
theorem c_wPart {u : Tr} {e : Nat} (hu : okw u) (hn : (cC u).length ≤ 40) (he : 100 ≤ e) (hF : Fix σ) (hc : CdB 92 σ a (cC u)) (h : SpW σ i X w) (hi : rI i) (hw : w = 0 ∨ w = 1) (hX : X.length ≤ 9000) : WMi E m_Speller_writePart e [aP 31, aP a, aI 0, aI (-1)] σ (fun _ τ => Fr spX σ τ ∧ ∃ w', (w' = 0 ∨ w' = 1) ∧ SpW τ i (X ++ ((if w = 1 ∧ lf false u = true then [32] else []) ++ tx 0 u)) w') := by
  obtain ⟨B, D, G, h1, h2, h3⟩ := h
  have hc' : CdB 92 σ a ([] ++ (cC u ++ [])) := by rw [List.nil_append, List.append_nil]; exact hc
  have hd := dcp_le hu
  have h9 := c_Speller_writePart (E := E) (a := a) hu e [] [] 0 (-1) σ i X w B 0 D 0 G (by omega) (Or.inl ⟨rfl, rfl⟩) hF hc' (by rw [List.nil_append, List.append_nil]; omega) h1 hi hw (by omega) (by omega) (by omega)
  rw [show ((([] : List Int).length : Nat) : Int) = 0 from rfl] at h9
  refine WMi.mono h9 (fun r τ hp hq => ?_)
  obtain ⟨-, hf, w', hw', hs⟩ := hq
  obtain ⟨D', eD, hD1, hD2⟩ := dpT hu 0 0 D h2.1
  rw [eD] at hs
  exact ⟨hf, w', hw', _, _, _, hs, by omega, by omega⟩
theorem SpW.mark {c : Int} (hF : Fix σ) (h : SpW σ i X w) (hi : rI i) (hX : X.length ≤ 9000) : WMv E m_Speller_writeMark (d + 1) [aP 31, aI c] σ (fun τ => Fr spX σ τ ∧ SpW τ i (X ++ [c]) 0) := by
  obtain ⟨B, D, G, h1, h2⟩ := h
  exact WMv.mono (c_Speller_writeMark hF h1 hi (by omega)) (fun τ _ hq => ⟨hq.1, B, D, G, hq.2, h2⟩)
theorem SpW.word {k : Nat} {r : Int} (hS : StrE E) (hF : Fix σ) (h : SpW σ i X w) (hi : rI i) (hX : X.length ≤ 9000) (hw : w = 0 ∨ w = 1) (hk : k < 6) (hr : r = -((k : Int) + 1)) : WMv E m_Speller_writeWord (d + 4) [aP 31, aP r] σ (fun τ => Fr spX σ τ ∧ SpW τ i (X ++ ((if w = 1 then [32] else []) ++ wd k)) 1) := by
  obtain ⟨B, D, G, h1, h2⟩ := h
  exact WMv.mono (c_Speller_writeWord hS hF h1 hi (by omega) hw hk hr) (fun τ _ hq => ⟨hq.1, B, D, G, hq.2, h2⟩)
theorem SpW.number {v : Int} (hF : Fix σ) (h : SpW σ i X 1) (hi : rI i) (hX : X.length ≤ 9000) (hv : 0 ≤ v ∧ v ≤ 99) : WMv E m_Speller_writeNumber (d + 2) [aP 31, aI v] σ (fun τ => Fr spX σ τ ∧ SpW τ i (X ++ numT v) 1) := by
  obtain ⟨B, D, G, h1, h2⟩ := h
  exact WMv.mono (c_Speller_writeNumber hF h1 hi (by omega) hv) (fun τ _ hq => ⟨hq.1, B, D, G, hq.2, h2⟩)
theorem SpW.told {l : Nat} (hl : l < 26) (hS : StrE E) (hF : Fix σ) (ht : TabC σ a T) (hT : okTab T) (h : SpW σ i X 0) (hi : rI i) (hX : X.length ≤ 9000) : WMv E m_Speller_writeTold (d + 5) [aP 31, aP a, aI l] σ (fun τ => Fr spX σ τ ∧ SpW τ i (X ++ sgT l (T l)) 0) := by
  obtain ⟨B, D, G, h1, h2⟩ := h
  exact WMv.mono (c_Speller_writeTold hl hS hF ht hT h1 hi hX) (fun τ _ hq => ⟨hq.1, B, D, G, hq.2, h2⟩)
theorem okS.len {u : Tr} (h : okS T u) : (cC u).length ≤ 19 ∧ okw u := by
  have h1 := cC_len2 h.1
  have h2 := h.2.1
  exact ⟨by omega, h.1.w⟩
theorem c_Speller_writeLine {L : Ln} (hS : StrE E) (hF : Fix σ) (hc : LnC b σ a L) (hb : 92 ≤ b) (hk : okLn T L) (h : SpW σ i X 0) (hi : rI i) (hX : X.length ≤ 5000) : WMv E m_Speller_writeLine (d + 101) [aP 31, aP a] σ (fun τ => Fr spX σ τ ∧ SpW τ i (X ++ lnT L) 0) := by
  have hp0 := (sh_len hc.2.1).1
  have hL8 := hk.1.2
  have hlT := lnT_len hk
  have hqs := hk.qs
  have w4 : (wd 4).length = 4 := rfl
  have w5 : (wd 5).length = 4 := rfl
  have lft : ltX b spX := fun p hp => by have := spX_lt p hp; omega
  -- the squares
  have key : ∀ z : Nat × St × List Int, (z.1 ≤ L.2.length ∧ Fr spX σ z.2.1 ∧ (∃ w, (w = 0 ∨ w = 1) ∧ (z.1 = 0 → w = 1) ∧ SpW z.2.1 i z.2.2 w) ∧ z.2.2 ++ (sqT z.1 (L.2.drop z.1) ++ [59]) = X ++ lnT L) → WP E m_Speller_writeLine (d + 101) 26 [(0, aP 31), (1, aP a), (2, aI z.1)] [] z.2.1 (fun r τ => r = none ∧ σ.2 <+: τ.2 ∧ Fr spX σ τ ∧ SpW τ i (X ++ lnT L) 0) := by
    refine lpx (fun z => L.2.length - z.1) _ _ (fun z hI ih => ?_)
    obtain ⟨k, τ, Y⟩ := z
    obtain ⟨i1, i2, ⟨w, hw, hw0, i3⟩, i4⟩ := hI
    simp only at i1 i2 i3 i4 hw0 ih ⊢
    have F1 := i2.fix hF (by decide)
    have c1 := hc.cf (i2.cf 0 0) lft
    have hYl : Y.length ≤ 5400 := by have := congrArg List.length i4; simp only [List.length_append] at this; omega
    refine b_Speller_writeLine_26 _ _ F1 ⟨c1.2.1, wmi_p (c_Line_size c1) ⟨F1, by omega, by omega, fun c => ?_, fun c => ?_⟩⟩
    · rw [List.drop_eq_nil_of_le (by omega)] at i4
      refine WMv.mono (SpW.mark F1 i3 hi (by omega)) (fun υ hp hq => ⟨rfl, pre_eq (i2.tr hq.1).1, i2.tr hq.1, ?_⟩)
      rw [← i4]
      exact hq.2
    · have hlt : k < L.2.length := by omega
      obtain ⟨t, ht⟩ : ∃ t, L.2[k]? = some t := ⟨_, List.getElem?_eq_getElem hlt⟩
      have hok := hk.2 t (List.mem_of_getElem? ht)
      have hln := hok.len
      have hsi : sqIn L k = some t := by unfold sqIn; rw [if_pos (by omega)]; exact ht
      have hdr : L.2.drop k = t :: L.2.drop (k + 1) := by
        rw [List.drop_eq_getElem_cons hlt]
        rw [List.getElem?_eq_getElem hlt] at ht
        rw [Option.some.inj ht]
      rw [hdr] at i4
      -- behind the mark
      have part : ∀ (υ : St) (w' : Int) (Z : List Int), Fr spX σ υ → (w' = 0 ∨ w' = 1) → SpW υ i Z w' → Z.length ≤ 5500 → Z ++ ((if w' = 1 ∧ lf false t = true then [32] else []) ++ tx 0 t) = Y ++ ((if 0 < k then [45] else if lf false t then [32] else []) ++ tx 0 t) → WP E m_Speller_writeLine (d + 101) 44 [(0, aP 31), (1, aP a), (2, aI k)] [] υ (fun r τ => r = none ∧ σ.2 <+: τ.2 ∧ Fr spX σ τ ∧ SpW τ i (X ++ lnT L) 0) := by
        intro υ w' Z hf hw' hz hZl hZ
        have F2 := hf.fix hF (by decide)
        have c2 := hc.cf (hf.cf 0 0) lft
        have hr := rf_sq c2 hsi
        refine b_Speller_writeLine_44 _ _ F2 ⟨c2.2.1, wmr_p (c_Line_get c2 hqs.1 (by omega)) ⟨F2, WMi.mono (c_wPart hln.2 (by omega) (by omega) F2 (hr.1.lo hb) hz hi hw' (by omega)) (fun r3 ω hp3 hq3 => ?_)⟩⟩
        obtain ⟨g1, w3, hw3, g2⟩ := hq3
        have h9 := ih (k + 1, ω, Z ++ ((if w' = 1 ∧ lf false t = true then [32] else []) ++ tx 0 t)) (by show L.2.length - (k + 1) < L.2.length - k; omega) ⟨by show k + 1 ≤ _; omega, hf.tr g1, ⟨w3, hw3, fun q => absurd q (by show ¬ k + 1 = 0; omega), g2⟩, by
          show Z ++ _ ++ (sqT (k + 1) (L.2.drop (k + 1)) ++ [59]) = _
          rw [hZ, ← i4]
          simp only [sqT, List.append_assoc]⟩
        simp only at h9
        rw [show ((k + 1 : Nat) : Int) = (k : Int) + 1 by omega] at h9
        exact h9
      refine ⟨by omega, fun c2 => ?_, fun c2 => WMv.mono (SpW.mark F1 i3 hi (by omega)) (fun υ hp hq => ?_)⟩
      · have hk0 : k = 0 := by omega
        refine part τ w Y i2 hw i3 (by omega) ?_
        rw [hw0 hk0, if_neg (show ¬ 0 < k by omega)]
        simp only [true_and]
      · refine part υ 0 (Y ++ [45]) (i2.tr hq.1) (Or.inl rfl) hq.2 (by rw [List.length_append]; show _ + 1 ≤ _; omega) ?_
        rw [if_neg (show ¬ ((0 : Int) = 1 ∧ lf false t = true) from fun q => absurd q.1 (by decide)), if_pos (show 0 < k by omega)]
        simp only [List.append_assoc, List.nil_append]
  have hsh := hc.2.2.2.1
  refine e_Speller_writeLine _ hF ⟨fun _ => ⟨hS.2.1.2.2.2.2.1, WMv.mono (SpW.word (k := 4) hS hF h hi (by omega) (Or.inl rfl) (by decide) (by decide)) (fun τ1 p1 q1 => ?_)⟩, fun q => by omega⟩
  rw [if_neg (show ¬ (0 : Int) = 1 by decide), List.nil_append] at q1
  have F1 := q1.1.fix hF (by decide)
  have c1 := hc.cf (q1.1.cf 0 0) lft
  have hle := c1.2.2.2.1
  have l1 : (X ++ wd 4).length = X.length + 4 := by rw [List.length_append, w4]
  refine ⟨F1, c1.2.1, by rw [hle]; split <;> decide, fun c => ?_, fun c => ⟨hS.2.1.2.2.2.2.2, WMv.mono (SpW.word (k := 5) hS F1 q1.2 hi (by omega) (Or.inr rfl) (by decide) (by decide)) (fun τ2 p2 q2 => ?_)⟩⟩
  · rw [hle] at c
    have hl0 : L.1 = false := by cases hL1 : L.1 with | false => rfl | true => rw [hL1] at c; exact absurd c (by decide)
    refine b_Speller_writeLine_24 _ (key (0, τ1, X ++ wd 4) ⟨Nat.zero_le _, q1.1, ⟨1, Or.inr rfl, fun _ => rfl, q1.2⟩, ?_⟩)
    show X ++ wd 4 ++ (sqT 0 (L.2.drop 0) ++ [59]) = _
    unfold lnT
    rw [hl0, List.drop_zero, if_neg (by decide), List.nil_append, List.append_assoc]
  · rw [hle] at c
    have hl0 : L.1 = true := by cases hL1 : L.1 with | true => rfl | false => rw [hL1] at c; exact absurd rfl c
    rw [if_pos rfl] at q2
    refine b_Speller_writeLine_24 _ (key (0, τ2, X ++ wd 4 ++ ([32] ++ wd 5)) ⟨Nat.zero_le _, q1.1.tr q2.1, ⟨1, Or.inr rfl, fun _ => rfl, q2.2⟩, ?_⟩)
    show X ++ wd 4 ++ ([32] ++ wd 5) ++ (sqT 0 (L.2.drop 0) ++ [59]) = _
    unfold lnT
    rw [hl0, List.drop_zero, if_pos rfl]
    simp only [List.append_assoc, List.cons_append, List.nil_append]
end CWLine
