/-! BOTH SIDES, CALL BY CALL -/
abbrev Dt : Type := Tb × Mo × List Mo × List Int
def CSd (σ : St) (b : Int) (D : Dt) : Prop := CS σ b D.1 D.2.1 D.2.2.1 D.2.2.2
def RSd (σ : St) (D : Dt) : Prop := RS σ D.1 D.2.1 D.2.2.1 D.2.2.2
def okDd (D : Dt) : Prop := okD D.1 D.2.1 D.2.2.1 D.2.2.2
def clX : List (Int × Int) := (1, 0) :: (1, 1) :: (1, 3) :: (9, -1) :: (12, 1) :: (13, -1) :: (tqX ++ kX)
def rfX : List (Int × Int) := [(42, -1), (43, -1), (44, -1), (45, -1), (46, -1), (47, -1), (48, -1), (49, -1), (50, -1), (51, -1), (52, -1), (53, -1), (54, -1), (55, -1), (56, -1), (57, -1), (58, -1), (59, -1), (60, -1), (61, -1), (62, -1), (63, -1), (64, -1), (65, -1), (66, -1), (67, -1), (68, -1), (69, -1), (70, -1), (71, -1), (72, -1), (73, -1), (74, -1), (75, -1), (76, -1), (77, -1), (78, -1), (79, -1), (80, -1), (81, -1), (82, -1), (83, -1), (84, -1), (85, -1), (86, -1), (87, -1), (88, -1), (89, -1), (90, -1), (91, -1), (92, -1)]
def OC (E : EV) (m : MI) (d : Nat) (as : List AV) (σ : St) (v : AV) (D : Dt) : Prop := WM E m d as σ (fun r τ => r = some v ∧ σ.2 <+: τ.2 ∧ Cf 100 2000 clX σ τ ∧ ∃ b, CSd τ b D)
def OM (E : EV) (m : MI) (d : Nat) (as : List AV) (σ : St) (v : AV) (D : Dt) : Prop := WM E m d as σ (fun r τ => r = some v ∧ σ.2 <+: τ.2 ∧ Fr rfX σ τ ∧ RSd τ D ∧ FmOK τ)
/-- one call answers alike on both sides, and leaves both with the same state -/
def Both (E : EV) (mS mM : MI) (as : List AV) (d : Nat) : Prop := ∀ (D : Dt) (b : Int) (σ : St), okDd D → CSd σ b D → ∃ (v : Int) (D' : Dt), okDd D' ∧ OC E mS d (aP 1 :: as) σ (aI v) D' ∧ ∀ τ, RSd τ D → FmOK τ → OM E mM d (aP 42 :: as) τ (aI v) D'
def BothL (E : EV) (mS mM : MI) (as : List AV) (d : Nat) : Prop := ∀ (D : Dt) (b : Int) (σ : St), okDd D → CSd σ b D → ∃ (v : Int) (D' : Dt), okDd D' ∧ OC E mS d (aP 1 :: as) σ (aL v) D' ∧ ∀ τ, RSd τ D → FmOK τ → OM E mM d (aP 42 :: as) τ (aL v) D'
theorem frO_n {X : List (Int × Int)} {a k : Int} (h : X.all (fun p => decide (p.1 ≤ 41) || decide (92 < p.1)) = true) (ha : 42 ≤ a ∧ a ≤ 92) : frO X a k = true := by
  unfold frO
  rw [List.all_eq_true] at h ⊢
  intro p hp
  have h1 := h p hp
  simp only [Bool.or_eq_true, decide_eq_true_eq] at h1
  rw [Bool.or_eq_true]
  left
  rw [bne_iff_ne]
  omega
theorem frO_r {a k : Int} (ha : a ≤ 41 ∨ 92 < a) : frO rfX a k = true := by
  have h : rfX.all (fun p => decide (42 ≤ p.1) && decide (p.1 ≤ 92)) = true := by decide
  unfold frO
  rw [List.all_eq_true] at h ⊢
  intro p hp
  have h1 := h p hp
  simp only [Bool.and_eq_true, decide_eq_true_eq] at h1
  rw [Bool.or_eq_true]
  left
  rw [bne_iff_ne]
  omega
theorem CSd.rf {σ τ : St} {b : Int} {D : Dt} (h : CSd σ b D) (hf : Fr rfX σ τ) (hF : Fix τ) : CSd τ b D := by
  obtain ⟨⟨h1, h2, h2'⟩, ⟨h3, h4⟩, ⟨h5, h6⟩, ⟨h7, h8⟩, h9⟩ := h
  have hc := hf.cf 0 0
  have e : ∀ a k : Int, a ≤ 41 → τ.1 a k = σ.1 a k := fun a k ha => hf.2 a k (frO_r (Or.inl ha))
  refine ⟨⟨hF, h2, by rw [hf.1]; exact h2'⟩, ⟨?_, ?_⟩, ⟨?_, fun i m hm => ?_⟩, ⟨?_, fun i x hx => ?_⟩, h9.cf hc rfl (fun k q1 q2 => e 32 k (by omega))⟩
  · rw [e 1 0 (by omega)]; exact h3.cf hc rfl
  · rw [e 1 1 (by omega)]; exact h4.cf hc rfl h2
  · rw [e 1 3 (by omega)]; exact h5
  · rw [e 9 i (by omega)]; exact (h6 i m hm).cf hc rfl h2
  · rw [e 12 1 (by omega)]; exact h7
  · rw [e 13 i (by omega)]; exact h8 i x hx
theorem RSd.eq {σ τ : St} {D : Dt} (h : RSd σ D) (e : ∀ a k : Int, 42 ≤ a → a ≤ 92 → τ.1 a k = σ.1 a k) (hF : Fix τ) : RSd τ D := by
  obtain ⟨⟨h1, h2, h3⟩, ⟨h4, h5⟩, ⟨h6, h7⟩, h8⟩ := h
  have f : ∀ a, 42 ≤ a → a ≤ 92 → τ.1 a = σ.1 a := fun a q1 q2 => funext (fun k => e a k q1 q2)
  refine ⟨⟨hF, fun l hl => ?_, ?_⟩, ⟨?_, ?_⟩, ⟨?_, ?_⟩, ?_⟩
  · rw [f _ (by decide) (by decide), f _ (by decide) (by decide), f _ (by decide) (by decide), f _ (by decide) (by decide)]; exact h2 l hl
  · rw [f _ (by decide) (by decide)]; exact h3
  · rw [f _ (by decide) (by decide)]; exact h4
  · rw [f _ (by decide) (by decide)]; exact h5
  · rw [f _ (by decide) (by decide)]; exact h6
  · rw [f _ (by decide) (by decide)]; exact h7
  · rw [f _ (by decide) (by decide)]; exact h8
theorem FmOK.eq {σ τ : St} (h : FmOK σ) (e : ∀ a k : Int, 42 ≤ a → a ≤ 92 → τ.1 a k = σ.1 a k) : FmOK τ := by
  have f : ∀ a, 42 ≤ a → a ≤ 92 → τ.1 a = σ.1 a := fun a q1 q2 => funext (fun k => e a k q1 q2)
  unfold FmOK FormsOK LvOK FoAt at *
  rw [f _ (by decide) (by decide), f _ (by decide) (by decide), f _ (by decide) (by decide)]
  exact h
theorem Cf.m {n m : Nat} {σ τ : St} (hf : Cf n m clX σ τ) (hl : 92 ≤ σ.2.length) : ∀ a k : Int, 42 ≤ a → a ≤ 92 → τ.1 a k = σ.1 a k := fun a k h1 h2 => hf.2.2 a k (by omega) (frO_n (by decide) ⟨h1, h2⟩)
section GBoth
variable {E : EV} {d : Nat} {σ : St} {b : Int} {T : Tb} {M : Mo} {P : List Mo} {tp : List Int}
theorem outC {m : MI} {as : List AV} {Q : Int → St → Prop} {x : Int} {D' : Dt} (hc : WMi E m d as σ Q) (f : ∀ r τ, Q r τ → r = x ∧ Cf 100 2000 clX σ τ ∧ ∃ b, CSd τ b D') : OC E m d as σ (aI x) D' := by
  refine WM.mono hc (fun r τ hr => ?_)
  obtain ⟨v, h1, h2, h3⟩ := hr
  obtain ⟨rfl, h4⟩ := f v τ h3
  exact ⟨h1, h2, h4⟩
theorem outCl {m : MI} {as : List AV} {Q : Int → St → Prop} {x : Int} {D' : Dt} (hc : WMl E m d as σ Q) (f : ∀ r τ, Q r τ → r = x ∧ Cf 100 2000 clX σ τ ∧ ∃ b, CSd τ b D') : OC E m d as σ (aL x) D' := by
  refine WM.mono hc (fun r τ hr => ?_)
  obtain ⟨v, h1, h2, h3⟩ := hr
  obtain ⟨rfl, h4⟩ := f v τ h3
  exact ⟨h1, h2, h4⟩
theorem outM {m : MI} {as : List AV} {Q : Int → St → Prop} {x : Int} {D' : Dt} (hc : WMi E m d as σ Q) (f : ∀ r τ, Q r τ → r = x ∧ Fr rfX σ τ ∧ RSd τ D' ∧ FmOK τ) : OM E m d as σ (aI x) D' := by
  refine WM.mono hc (fun r τ hr => ?_)
  obtain ⟨v, h1, h2, h3⟩ := hr
  obtain ⟨rfl, h4⟩ := f v τ h3
  exact ⟨h1, h2, h4⟩
theorem outMl {m : MI} {as : List AV} {Q : Int → St → Prop} {x : Int} {D' : Dt} (hc : WMl E m d as σ Q) (f : ∀ r τ, Q r τ → r = x ∧ Fr rfX σ τ ∧ RSd τ D' ∧ FmOK τ) : OM E m d as σ (aL x) D' := by
  refine WM.mono hc (fun r τ hr => ?_)
  obtain ⟨v, h1, h2, h3⟩ := hr
  obtain ⟨rfl, h4⟩ := f v τ h3
  exact ⟨h1, h2, h4⟩
theorem kC {n m : Nat} {τ : St} (h : CS σ b T M P tp) (hf : Cf n m cX σ τ) (hn : n ≤ 100) (hm : m ≤ 2000) : Cf 100 2000 clX σ τ ∧ ∃ b, CSd τ b (T, M, P, tp) := ⟨hf.mono hn hm (by decide), b, h.cf hf⟩
theorem kC0 {τ : St} (h : CS σ b T M P tp) (e : τ = σ) : Cf 100 2000 clX σ τ ∧ ∃ b, CSd τ b (T, M, P, tp) := by
  subst e
  exact ⟨Cf.refl _ _ _ _, b, h⟩
theorem kS {τ : St} (h : RS σ T M P tp) (hfm : FmOK σ) (hf : Fr scr σ τ) : Fr rfX σ τ ∧ RSd τ (T, M, P, tp) ∧ FmOK τ := ⟨hf.mono (by decide), h.scr hf, hfm.keep hf (fun _ => rfl) (fun _ => rfl) (fun _ => rfl)⟩
theorem op_act {mS mM : MI} {as : List AV} {o : Option Mo} (hc : WMi E mS d (aP 1 :: as) σ (CRes 12 200 σ b T M P tp o)) (hm : ∀ τ, RS τ T M P tp → FmOK τ → WMi E mM d (aP 42 :: as) τ (fun r υ => ActRes τ T M P tp o r υ)) (hk : okD T M P tp) (hC : CS σ b T M P tp) (hko : ∀ M', o = some M' → okMo T M') : ∃ (v : Int) (D' : Dt), okDd D' ∧ OC E mS d (aP 1 :: as) σ (aI v) D' ∧ ∀ τ, RSd τ (T, M, P, tp) → FmOK τ → OM E mM d (aP 42 :: as) τ (aI v) D' := by
  cases o with
  | none =>
    refine ⟨0, (T, M, P, tp), hk, outC hc (fun r τ hq => ?_), fun τ h1 h2 => outM (hm τ h1 h2) (fun r υ hq => ?_)⟩
    · exact ⟨hq.1, kC hC hq.2 (by omega) (by omega)⟩
    · exact ⟨hq.1, kS h1 h2 hq.2⟩
  | some M' =>
    have hk2 := push_ok hk.2.2.1 hk.2.1
    refine ⟨1, (T, M', push P M, tp), ⟨hk.1, hko M' rfl, hk2, hk.2.2.2⟩, outC hc (fun r τ hq => ?_), fun τ h1 h2 => outM (hm τ h1 h2) (fun r υ hq => ?_)⟩
    · exact ⟨hq.1, hq.2.1.mono (by omega) (by omega) (by decide), b, hq.2.2⟩
    · exact ⟨hq.1, hq.2.1.mono (by decide), hq.2.2, h2.keep hq.2.1 (fun _ => rfl) (fun _ => rfl) (fun _ => rfl)⟩
theorem op_ask {mS mM : MI} {as : List AV} {x : Int} (hc : WMi E mS d (aP 1 :: as) σ (fun r τ => r = x ∧ Fr cX σ τ)) (hm : ∀ τ, RS τ T M P tp → FmOK τ → WMi E mM d (aP 42 :: as) τ (fun r υ => r = x ∧ Fr scr τ υ)) (hk : okD T M P tp) (hC : CS σ b T M P tp) : ∃ (v : Int) (D' : Dt), okDd D' ∧ OC E mS d (aP 1 :: as) σ (aI v) D' ∧ ∀ τ, RSd τ (T, M, P, tp) → FmOK τ → OM E mM d (aP 42 :: as) τ (aI v) D' :=
  ⟨x, (T, M, P, tp), hk, outC hc (fun r τ hq => ⟨hq.1, kC hC (hq.2.cf 0 0) (by omega) (by omega)⟩), fun τ h1 h2 => outM (hm τ h1 h2) (fun r υ hq => ⟨hq.1, kS h1 h2 hq.2⟩)⟩
theorem op_askL {mS mM : MI} {as : List AV} {x : Int} (hc : WMl E mS d (aP 1 :: as) σ (fun r τ => r = x ∧ Fr cX σ τ)) (hm : ∀ τ, RS τ T M P tp → FmOK τ → WMl E mM d (aP 42 :: as) τ (fun r υ => r = x ∧ Fr scr τ υ)) (hk : okD T M P tp) (hC : CS σ b T M P tp) : ∃ (v : Int) (D' : Dt), okDd D' ∧ OC E mS d (aP 1 :: as) σ (aL v) D' ∧ ∀ τ, RSd τ (T, M, P, tp) → FmOK τ → OM E mM d (aP 42 :: as) τ (aL v) D' :=
  ⟨x, (T, M, P, tp), hk, outCl hc (fun r τ hq => ⟨hq.1, kC hC (hq.2.cf 0 0) (by omega) (by omega)⟩), fun τ h1 h2 => outMl (hm τ h1 h2) (fun r υ hq => ⟨hq.1, kS h1 h2 hq.2⟩)⟩
/-- what is known of the class's table of ways -/
def WaysE (E : EV) : Prop := ∀ (d : Nat) (σ : St) (n : Nat), n ≤ 10 → WMi E m_Arranger_waysOf d [aI n] σ (fun r τ => r = (if n ≤ 6 then (cN n : Int) else -2) ∧ τ = σ)
theorem fF_2 : ∀ n : Fin 7, 2 ≤ n.val → 2 * (fF n.val).length = cN n.val := by decide +kernel
theorem c_S_ways {l s : Int} (hW : WaysE E) (h : CS σ b T M P tp) (hk : okMo T M) (h1 : rI l) (h2 : rI s) : WMi E m_S_ways (d + 20) [aP 1, aI l, aI s] σ (fun r τ => r = sp_ways M l s ∧ τ = σ) := by
  have ho := hk.oOk l s
  refine e_S_ways _ _ h.1.1 (WMr.mono (c_S_squareAt h hk h1 h2) (fun r τ _ hq => ?_))
  obtain ⟨hq1, rfl⟩ := hq
  unfold sp_ways
  cases hs : sqAt M l s with
  | none => rw [hs] at hq1; exact ⟨fun c => absurd hq1 c, fun _ => ⟨_, rfl, List.prefix_refl _, rfl, rfl⟩⟩
  | some t =>
    rw [hs] at hq1 ho
    have hc := ho.cc
    have hso := so_le t
    have h10 := ho.2.1
    have hp := so_pos ho.1
    dsimp only
    refine ⟨fun _ => ⟨hq1.2.2.1, wmi_p (c_Sq_outerSigns hq1.2.2 hc.1 (by omega)) (wmi_p (hW _ _ (so t) (by omega)) ⟨_, rfl, List.prefix_refl _, ?_, rfl⟩)⟩, fun c => absurd c hq1.1⟩
    by_cases h6 : so t ≤ 6
    · rw [if_pos h6, if_pos h6]
      by_cases q : so t = 1
      · rw [if_pos q, q]; rfl
      · rw [if_neg q]
        have := fF_2 ⟨so t, by omega⟩ (by show 2 ≤ so t; omega)
        have e : 2 * (fF (so t)).length = cN (so t) := this
        omega
    · rw [if_neg h6, if_neg h6]
theorem op_exchange {l s i c : Int} (hl : rI l) (hs : rI s) (hi : rI i) (hc : rI c) : Both E m_S_exchange m_M_exchange [aI l, aI s, aI i, aI c] (d + 115) := by
  intro D b σ hk hC
  obtain ⟨T, M, P, tp⟩ := D
  refine op_act (o := sp_exchange T M l s i c) (c_S_exchange hC hk.1 hk.2.1 hk.2.2.1.1 hl hs hi hc) (fun τ h1 h2 => WMi.mono (c_M_exchange h1 hk hl hs hi hc) (fun r υ _ hq => ?_)) hk hC (fun M' q => k_exchange hk.2.1 q)
  unfold sp_exchange
  cases hl : lnAt M l with
  | none => simp only [hl] at hq; exact hq
  | some L =>
    simp only [hl] at hq
    cases hs : sqIn L s with
    | none => simp only [hs] at hq ⊢; exact hq
    | some t =>
      simp only [hs] at hq ⊢
      split at hq
      · rename_i q; rw [if_pos q]; exact hq
      · rename_i q; rw [if_neg q]; exact hq
theorem op_turn {l s : Int} (hl : rI l) (hs : rI s) : Both E m_S_turn m_M_turn [aI l, aI s] (d + 115) := by
  intro D b σ hk hC
  obtain ⟨T, M, P, tp⟩ := D
  exact op_act (c_S_turn hC hk.2.1 hk.2.2.1.1 hl hs) (fun τ h1 h2 => c_M_turn h1 hk hl hs) hk hC (fun M' q => k_turn hk.2.1 q)
theorem op_join {l s : Int} (hl : rI l) (hs : rI s) : Both E m_S_join m_M_join [aI l, aI s] (d + 115) := by
  intro D b σ hk hC
  obtain ⟨T, M, P, tp⟩ := D
  exact op_act (c_S_join hC hk.2.1 hk.2.2.1.1 hl hs) (fun τ h1 h2 => c_M_join h1 hk hl hs) hk hC (fun M' q => k_join hk.2.1 q)
theorem op_part {l s : Int} (hl : rI l) (hs : rI s) : Both E m_S_part m_M_part [aI l, aI s] (d + 115) := by
  intro D b σ hk hC
  obtain ⟨T, M, P, tp⟩ := D
  exact op_act (c_S_part hC hk.2.1 hk.2.2.1.1 hl hs) (fun τ h1 h2 => c_M_part h1 hk hl hs) hk hC (fun M' q => k_part hk.2.1 q)
theorem op_swap {l s i c : Int} (hl : rI l) (hs : rI s) (hi : rI i) (hc : rI c) : Both E m_S_swap m_M_swap [aI l, aI s, aI i, aI c] (d + 115) := by
  intro D b σ hk hC
  obtain ⟨T, M, P, tp⟩ := D
  exact op_act (c_S_swap hC hk.2.1 hk.2.2.1.1 hl hs hi hc) (fun τ h1 h2 => c_M_swap h1 hk hl hs hi hc) hk hC (fun M' q => k_swap hk.2.1 q)
theorem op_insert {l s i : Int} (hl : rI l) (hs : rI s) (hi : rI i) : Both E m_S_insert m_M_insert [aI l, aI s, aI i] (d + 115) := by
  intro D b σ hk hC
  obtain ⟨T, M, P, tp⟩ := D
  exact op_act (c_S_insert hC hk.1 hk.2.1 hk.2.2.1.1 hl hs hi) (fun τ h1 h2 => c_M_insert h1 hk hl hs hi) hk hC (fun M' q => k_insert hk.2.1 q)
theorem op_release {l s i : Int} (hl : rI l) (hs : rI s) (hi : rI i) : Both E m_S_release m_M_release [aI l, aI s, aI i] (d + 115) := by
  intro D b σ hk hC
  obtain ⟨T, M, P, tp⟩ := D
  exact op_act (c_S_release hC hk.2.1 hk.2.2.1.1 hl hs hi) (fun τ h1 h2 => c_M_release h1 hk hl hs hi) hk hC (fun M' q => k_release hk.2.1 q)
theorem op_move {l s i : Int} (hl : rI l) (hs : rI s) (hi : rI i) : Both E m_S_move m_M_move [aI l, aI s, aI i] (d + 115) := by
  intro D b σ hk hC
  obtain ⟨T, M, P, tp⟩ := D
  exact op_act (c_S_move hC hk.2.1 hk.2.2.1.1 hl hs hi) (fun τ h1 h2 => c_M_move h1 hk hl hs hi) hk hC (fun M' q => k_move hk.2.1 q)
theorem op_mirror {l : Int} (hl : rI l) : Both E m_S_mirror m_M_mirror [aI l] (d + 115) := by
  intro D b σ hk hC
  obtain ⟨T, M, P, tp⟩ := D
  exact op_act (c_S_mirror hC hk.2.1 hk.2.2.1.1 hl) (fun τ h1 h2 => c_M_mirror h1 hk hl) hk hC (fun M' q => k_mirror hk.2.1 q)
theorem op_sign {l s : Int} (hl : rI l) (hs : rI s) : Both E m_S_sign m_M_sign [aI l, aI s] (d + 115) := by
  intro D b σ hk hC
  obtain ⟨T, M, P, tp⟩ := D
  exact op_ask (WMi.mono (c_S_sign hC hk.1 hk.2.1 hl hs) (fun r τ _ hq => ⟨hq.1, by rw [hq.2]; exact Fr.refl _ _⟩)) (fun τ h1 h2 => WMi.mono (c_M_sign h1 hk hl hs) (fun r υ _ hq => ⟨hq.1, hq.2.mono (by decide)⟩)) hk hC
theorem op_line {l s : Int} (hl : rI l) (hs : rI s) : Both E m_S_line m_M_line [aI l, aI s] (d + 115) := by
  intro D b σ hk hC
  obtain ⟨T, M, P, tp⟩ := D
  exact op_ask (WMi.mono (c_S_line hC hk.2.1 hl hs) (fun r τ _ hq => ⟨hq.1, by rw [hq.2]; exact Fr.refl _ _⟩)) (fun τ h1 h2 => WMi.mono (c_M_line h1 hk.2.1 hl hs) (fun r υ _ hq => ⟨hq.1, by rw [hq.2]; exact Fr.refl _ _⟩)) hk hC
theorem op_square {l s i : Int} (hl : rI l) (hs : rI s) (hi : rI i) : Both E m_S_square m_M_square [aI l, aI s, aI i] (d + 115) := by
  intro D b σ hk hC
  obtain ⟨T, M, P, tp⟩ := D
  exact op_ask (WMi.mono (c_S_square hC hk.1 hk.2.1 hl hs hi) (fun r τ _ hq => ⟨hq.1, hq.2⟩)) (fun τ h1 h2 => WMi.mono (c_M_square h1 hk hl hs hi) (fun r υ _ hq => ⟨hq.1, hq.2⟩)) hk hC
theorem op_scale {l s i : Int} (hl : rI l) (hs : rI s) (hi : rI i) : Both E m_S_scale m_M_scale [aI l, aI s, aI i] (d + 115) := by
  intro D b σ hk hC
  obtain ⟨T, M, P, tp⟩ := D
  exact op_ask (WMi.mono (c_S_scale hC hk.1 hk.2.1 hl hs hi) (fun r τ _ hq => ⟨hq.1, hq.2⟩)) (fun τ h1 h2 => WMi.mono (c_M_scale h1 hk hl hs hi) (fun r υ _ hq => ⟨hq.1, hq.2.mono (by decide)⟩)) hk hC
theorem op_letter {l s i : Int} (hl : rI l) (hs : rI s) (hi : rI i) : Both E m_S_letter m_M_letter [aI l, aI s, aI i] (d + 115) := by
  intro D b σ hk hC
  obtain ⟨T, M, P, tp⟩ := D
  exact op_ask (WMi.mono (c_S_letter hC hk.2.1 hl hs hi) (fun r τ _ hq => ⟨hq.1, by rw [hq.2]; exact Fr.refl _ _⟩)) (fun τ h1 h2 => WMi.mono (c_M_letter h1 hk.2.1 hl hs hi) (fun r υ _ hq => ⟨hq.1, hq.2.mono (by decide)⟩)) hk hC
theorem op_inside {l s i : Int} (hl : rI l) (hs : rI s) (hi : rI i) : Both E m_S_inside m_M_inside [aI l, aI s, aI i] (d + 115) := by
  intro D b σ hk hC
  obtain ⟨T, M, P, tp⟩ := D
  exact op_ask (WMi.mono (c_S_inside hC hk.2.1 hl hs hi) (fun r τ _ hq => ⟨hq.1, by rw [hq.2]; exact Fr.refl _ _⟩)) (fun τ h1 h2 => WMi.mono (c_M_inside h1 hk.2.1 hl hs hi) (fun r υ _ hq => ⟨hq.1, hq.2.mono (by decide)⟩)) hk hC
theorem op_box {l s i c e : Int} (hl : rI l) (hs : rI s) (hi : rI i) (hc : rI c) (he : rI e) : BothL E m_S_box m_M_box [aI l, aI s, aI i, aI c, aI e] (d + 115) := by
  intro D b σ hk hC
  obtain ⟨T, M, P, tp⟩ := D
  exact op_askL (WMl.mono (c_S_box hC hk.1 hk.2.1 hl hs hi hc he) (fun r τ _ hq => ⟨hq.1, hq.2⟩)) (fun τ h1 h2 => WMl.mono (c_M_box h1 hk hl hs hi hc he) (fun r υ _ hq => ⟨hq.1, hq.2⟩)) hk hC
theorem op_at {l s i c e : Int} (hl : rI l) (hs : rI s) (hi : rI i) (hc : rI c) (he : rI e) : Both E m_S_at m_M_at [aI l, aI s, aI i, aI c, aI e] (d + 115) := by
  intro D b σ hk hC
  obtain ⟨T, M, P, tp⟩ := D
  exact op_ask (WMi.mono (c_S_at hC hk.1 hk.2.1 hl hs hi hc he) (fun r τ _ hq => ⟨hq.1, hq.2⟩)) (fun τ h1 h2 => WMi.mono (c_M_at h1 hk hl hs hi hc he) (fun r υ _ hq => ⟨hq.1, hq.2⟩)) hk hC
theorem op_column {l s : Int} (hl : rI l) (hs : rI s) : Both E m_S_column m_M_column [aI l, aI s] (d + 115) := by
  intro D b σ hk hC
  obtain ⟨T, M, P, tp⟩ := D
  exact op_ask (WMi.mono (c_S_column hC hk.2.1 hl hs) (fun r τ _ hq => ⟨hq.1, by rw [hq.2]; exact Fr.refl _ _⟩)) (fun τ h1 h2 => WMi.mono (c_M_column h1 hk.2.1 hl hs) (fun r υ _ hq => ⟨hq.1, by rw [hq.2]; exact Fr.refl _ _⟩)) hk hC
theorem op_covered {l s i : Int} (hl : rI l) (hs : rI s) (hi : rI i) : BothL E m_S_covered m_M_covered [aI l, aI s, aI i] (d + 115) := by
  intro D b σ hk hC
  obtain ⟨T, M, P, tp⟩ := D
  exact op_askL (WMl.mono (c_S_covered hC hk.1 hk.2.1 hl hs hi) (fun r τ _ hq => ⟨hq.1, hq.2⟩)) (fun τ h1 h2 => WMl.mono (c_M_covered h1 hk hl hs hi) (fun r υ _ hq => ⟨hq.1, hq.2.mono (by decide)⟩)) hk hC
theorem op_smallest {l s : Int} (hl : rI l) (hs : rI s) : Both E m_S_smallest m_M_smallest [aI l, aI s] (d + 115) := by
  intro D b σ hk hC
  obtain ⟨T, M, P, tp⟩ := D
  exact op_ask (WMi.mono (c_S_smallest hC hk.1 hk.2.1 hl hs) (fun r τ _ hq => ⟨hq.1, hq.2⟩)) (fun τ h1 h2 => WMi.mono (c_M_smallest h1 hk hl hs) (fun r υ _ hq => ⟨hq.1, hq.2⟩)) hk hC
theorem op_same {l s i c : Int} (hl : rI l) (hs : rI s) (hi : rI i) (hc : rI c) : Both E m_S_same m_M_same [aI l, aI s, aI i, aI c] (d + 115) := by
  intro D b σ hk hC
  obtain ⟨T, M, P, tp⟩ := D
  exact op_ask (WMi.mono (c_S_same hC hk.2.1 hl hs hi hc) (fun r τ _ hq => ⟨hq.1, by rw [hq.2]; exact Fr.refl _ _⟩)) (fun τ h1 h2 => WMi.mono (c_M_same h1 hk.2.1 hl hs hi hc) (fun r υ _ hq => ⟨hq.1, by rw [hq.2]; exact Fr.refl _ _⟩)) hk hC
theorem op_tightest {l : Int} (hl : rI l) : Both E m_S_tightest m_M_tightest [aI l] (d + 115) := by
  intro D b σ hk hC
  obtain ⟨T, M, P, tp⟩ := D
  exact op_ask (WMi.mono (c_S_tightest hC hk.1 hk.2.1 hl) (fun r τ _ hq => ⟨hq.1, hq.2⟩)) (fun τ h1 h2 => WMi.mono (c_M_tightest h1 hk hl) (fun r υ _ hq => ⟨hq.1, hq.2.mono (by decide)⟩)) hk hC
theorem op_least {l s : Int} (hl : rI l) (hs : rI s) : Both E m_S_least m_M_least [aI l, aI s] (d + 115) := by
  intro D b σ hk hC
  obtain ⟨T, M, P, tp⟩ := D
  exact op_ask (WMi.mono (c_S_least hC hk.1 hk.2.1 hl hs) (fun r τ _ hq => ⟨hq.1, hq.2⟩)) (fun τ h1 h2 => WMi.mono (c_M_least h1 hk hl hs) (fun r υ _ hq => ⟨hq.1, hq.2.mono (by decide)⟩)) hk hC
theorem op_spell {l s i : Int} (hS : StrE E) (hl : rI l) (hs : rI s) (hi : rI i) : Both E m_S_spell m_M_spell [aI l, aI s, aI i] (d + 115) := by
  intro D b σ hk hC
  obtain ⟨T, M, P, tp⟩ := D
  exact op_ask (WMi.mono (c_S_spell hS hC hk hl hs hi) (fun r τ _ hq => ⟨hq.1, hq.2.mono (by decide)⟩)) (fun τ h1 h2 => WMi.mono (c_M_spell h1 hk hl hs hi) (fun r υ _ hq => ⟨hq.1, hq.2.mono (by decide)⟩)) hk hC
theorem op_count {l : Int} (hl : rI l) : Both E m_S_count m_M_count [aI l] (d + 115) := by
  intro D b σ hk hC
  obtain ⟨T, M, P, tp⟩ := D
  exact op_ask (WMi.mono (c_S_count hC hk.1 hk.2.1 hl) (fun r τ _ hq => ⟨hq.1, by rw [hq.2]; exact Fr.refl _ _⟩)) (fun τ h1 h2 => WMi.mono (c_M_count h1 hk hl) (fun r υ _ hq => ⟨hq.1, by rw [hq.2]; exact Fr.refl _ _⟩)) hk hC
theorem op_ways {l s : Int} (hW : WaysE E) (hl : rI l) (hs : rI s) : Both E m_S_ways m_M_ways [aI l, aI s] (d + 115) := by
  intro D b σ hk hC
  obtain ⟨T, M, P, tp⟩ := D
  refine ⟨(sp_ways M l s), (T, M, P, tp), hk, outC (c_S_ways hW hC hk.2.1 hl hs) (fun r τ hq => ⟨hq.1, kC0 hC hq.2⟩), fun τ h1 h2 => outM (c_M_ways h1 hk h2 hl hs) (fun r υ hq => ⟨hq.1, hq.2.1.mono (by decide), RS.lb h1 hq.2.1, hq.2.2⟩)⟩
theorem op_best {l s i : Int} (hl : rI l) (hs : rI s) (hi : rI i) : Both E m_S_best m_M_best [aI l, aI s, aI i] (d + 115) := by
  intro D b σ hk hC
  obtain ⟨T, M, P, tp⟩ := D
  refine ⟨(sp_best T M l s i), (T, M, P, tp), hk, outC (c_S_best hC hk.1 hk.2.1 hl hs hi) (fun r τ hq => ⟨hq.1, hq.2.1.mono (by omega) (by omega) (by decide), b, hq.2.2⟩), fun τ h1 h2 => outM (c_M_best h1 hk h2 hl hs hi) (fun r υ hq => ⟨hq.1, hq.2.1.mono (by decide), RS.lb h1 hq.2.1, hq.2.2⟩)⟩
theorem op_bestText {l s i : Int} (hl : rI l) (hs : rI s) (hi : rI i) : Both E m_S_bestText m_M_bestText [aI l, aI s, aI i] (d + 115) := by
  intro D b σ hk hC
  obtain ⟨T, M, P, tp⟩ := D
  refine ⟨(sp_bestText T M l s i), (T, M, P, tp), hk, outC (c_S_bestText hC hk.1 hk.2.1 hl hs hi) (fun r τ hq => ⟨hq.1, hq.2.1.mono (by omega) (by omega) (by decide), b, hq.2.2⟩), fun τ h1 h2 => outM (c_M_bestText h1 hk h2 hl hs hi) (fun r υ hq => ⟨hq.1, hq.2.1.mono (by decide), RS.lb h1 hq.2.1, hq.2.2⟩)⟩
theorem op_joined {l s i : Int} (hl : rI l) (hs : rI s) (hi : rI i) : Both E m_S_joined m_M_joined [aI l, aI s, aI i] (d + 115) := by
  intro D b σ hk hC
  obtain ⟨T, M, P, tp⟩ := D
  refine ⟨(sp_joined T M l s i), (T, M, P, tp), hk, outC (c_S_joined hC hk.1 hk.2.1 hl hs hi) (fun r τ hq => ⟨hq.1, kC hC hq.2 (by omega) (by omega)⟩), fun τ h1 h2 => outM (c_M_joined h1 hk hl hs hi) (fun r υ hq => ⟨hq.1, kS h1 h2 hq.2⟩)⟩
theorem op_arrange {l s : Int} (hl : rI l) (hs : rI s) : Both E m_S_arrange m_M_arrange [aI l, aI s] (d + 115) := by
  intro D b σ hk hC
  obtain ⟨T, M, P, tp⟩ := D
  have cc := c_S_arrange (E := E) (d := d + 95) hC hk.1 hk.2.1 hk.2.2.1.1 hl hs
  have cm := fun τ h1 h2 => c_M_arrange (E := E) (d := d + 110) (σ := τ) (T := T) (M := M) (P := P) (tp := tp) (l := l) (s := s) h1 hk h2 hl hs
  cases ho : sp_arrange T M l s with
  | none =>
    simp only [ho] at cc cm
    refine ⟨0, (T, M, P, tp), hk, outC cc (fun r τ hq => ⟨hq.1, hq.2.1.mono (by omega) (by omega) (by decide), b, hq.2.2⟩), fun τ h1 h2 => outM (cm τ h1 h2) (fun r υ hq => ⟨hq.1.1, hq.1.2.mono (by decide), RS.lb h1 hq.1.2, hq.2⟩)⟩
  | some M' =>
    simp only [ho] at cc cm
    refine ⟨1, (T, M', push P M, tp), ⟨hk.1, k_arrange hk.2.1 ho, push_ok hk.2.2.1 hk.2.1, hk.2.2.2⟩, outC cc (fun r τ hq => ⟨hq.1, hq.2.1.mono (by omega) (by omega) (by decide), b, hq.2.2⟩), fun τ h1 h2 => outM (cm τ h1 h2) (fun r υ hq => ⟨hq.1.1, hq.1.2.1.mono (by decide), hq.1.2.2, hq.2⟩)⟩
theorem op_side {l : Int} (hl : rI l) : Both E m_S_side m_M_side [aI l] (d + 115) := by
  intro D b σ hk hC
  obtain ⟨T, M, P, tp⟩ := D
  have cc := c_S_side (E := E) (d := d + 113) hC hk.2.1 hk.2.2.1.1 hl
  have cm := fun τ h1 => c_M_side (E := E) (d := d + 113) (σ := τ) (T := T) (M := M) (P := P) (tp := tp) (x := l) h1 hk hl
  by_cases q : (1 ≤ l ∧ l ≤ 24) ∧ l ≠ M.1
  · simp only [if_pos q] at cc cm
    refine ⟨M.1, (T, (l, M.2.1, M.2.2), push P M, tp), ⟨hk.1, ⟨q.1, hk.2.1.2⟩, push_ok hk.2.2.1 hk.2.1, hk.2.2.2⟩, outC cc (fun r τ hq => ⟨hq.1, hq.2.1.mono (by omega) (by omega) (by decide), b, hq.2.2⟩), fun τ h1 h2 => outM (cm τ h1) (fun r υ hq => ⟨hq.1, hq.2.1.mono (by decide), hq.2.2, h2.keep hq.2.1 (fun _ => rfl) (fun _ => rfl) (fun _ => rfl)⟩)⟩
  · simp only [if_neg q] at cc cm
    refine ⟨(-1), (T, M, P, tp), hk, outC cc (fun r τ hq => ⟨hq.1, kC0 hC hq.2⟩), fun τ h1 h2 => outM (cm τ h1) (fun r υ hq => ⟨hq.1, kS h1 h2 (by rw [hq.2]; exact Fr.refl _ _)⟩)⟩
theorem op_gap {l : Int} (hl : rI l) : Both E m_S_gap m_M_gap [aI l] (d + 115) := by
  intro D b σ hk hC
  obtain ⟨T, M, P, tp⟩ := D
  have cc := c_S_gap (E := E) (d := d + 113) hC hk.2.1 hk.2.2.1.1 hl
  have cm := fun τ h1 => c_M_gap (E := E) (d := d + 113) (σ := τ) (T := T) (M := M) (P := P) (tp := tp) (x := l) h1 hk hl
  by_cases q : (0 ≤ l ∧ l ≤ 3) ∧ l ≠ M.2.1
  · simp only [if_pos q] at cc cm
    refine ⟨M.2.1, (T, (M.1, l, M.2.2), push P M, tp), ⟨hk.1, ⟨hk.2.1.1, q.1, hk.2.1.2.2⟩, push_ok hk.2.2.1 hk.2.1, hk.2.2.2⟩, outC cc (fun r τ hq => ⟨hq.1, hq.2.1.mono (by omega) (by omega) (by decide), b, hq.2.2⟩), fun τ h1 h2 => outM (cm τ h1) (fun r υ hq => ⟨hq.1, hq.2.1.mono (by decide), hq.2.2, h2.keep hq.2.1 (fun _ => rfl) (fun _ => rfl) (fun _ => rfl)⟩)⟩
  · simp only [if_neg q] at cc cm
    refine ⟨(-1), (T, M, P, tp), hk, outC cc (fun r τ hq => ⟨hq.1, kC0 hC hq.2⟩), fun τ h1 h2 => outM (cm τ h1) (fun r υ hq => ⟨hq.1, kS h1 h2 (by rw [hq.2]; exact Fr.refl _ _)⟩)⟩
theorem op_undo : Both E m_S_undo m_M_undo [] (d + 115) := by
  intro D b σ hk hC
  obtain ⟨T, M, P, tp⟩ := D
  rcases List.eq_nil_or_concat P with rfl | ⟨P', m, rfl⟩
  · refine ⟨(-1), (T, M, [], tp), hk, outC (c_S_undo0 hC) (fun r τ hq => ⟨hq.1, kC0 hC hq.2⟩), fun τ h1 h2 => outM (c_M_undo0 h1) (fun r υ hq => ⟨hq.1, kS h1 h2 (by rw [hq.2]; exact Fr.refl _ _)⟩)⟩
  · have hk' : okD T M (P' ++ [m]) tp := by simpa [okDd] using hk
    have hC' : CS σ b T M (P' ++ [m]) tp := by simpa [CSd] using hC
    refine ⟨P'.length, (T, m, P', tp), ⟨hk'.1, hk'.2.2.1.2 m (by simp), ⟨by have := hk'.2.2.1.1; simp at this; show P'.length ≤ 12; omega, fun x hx => hk'.2.2.1.2 x (by simp [hx])⟩, hk'.2.2.2⟩, outC (c_S_undo1 hC' hk'.2.2.1.1) (fun r τ hq => ⟨hq.1, (hq.2.1.cf 0 0).mono (by omega) (by omega) (by decide), b, hq.2.2⟩), fun τ h1 h2 => ?_⟩
    have h1' : RS τ T M (P' ++ [m]) tp := by simpa [RSd] using h1
    exact outM (c_M_undo1 h1' hk') (fun r υ hq => ⟨hq.1, hq.2.1.mono (by decide), hq.2.2, h2.keep hq.2.1 (fun _ => rfl) (fun _ => rfl) (fun _ => rfl)⟩)
theorem op_feed {l s i c e : Int} : Both E m_S_feed m_M_feed [aI l, aI s, aI i, aI c, aI e] (d + 115) := by
  intro D b σ hk hC
  obtain ⟨T, M, P, tp⟩ := D
  have cc := c_S_feed (E := E) (d := d + 114) (a1 := l) (a2 := s) (a3 := i) (a4 := c) (a5 := e) hC hk.2.2.2.1
  have cm := fun τ h1 => c_M_feed (E := E) (d := d + 115) (σ := τ) (T := T) (M := M) (P := P) (tp := tp) (a := l) (b := s) (c := i) (e := c) (f := e) h1 hk
  by_cases q : tp.length + 20 ≤ 400
  · simp only [if_pos q] at cc cm
    refine ⟨((tp.length : Int) + 20), (T, M, P, tp ++ fed l s i c e), ⟨hk.1, hk.2.1, hk.2.2.1, by show (tp ++ fed l s i c e).length ≤ 400; simp [fed]; omega, fun x hx => (List.mem_append.mp hx).elim (hk.2.2.2.2 x) (fed_b l s i c e x)⟩, outC cc (fun r τ hq => ⟨hq.1, (hq.2.1.cf 0 0).mono (by omega) (by omega) (by decide), b, hq.2.2⟩), fun τ h1 h2 => outM (cm τ h1) (fun r υ hq => ⟨hq.1, hq.2.1.mono (by decide), hq.2.2, h2.keep hq.2.1 (fun _ => rfl) (fun _ => rfl) (fun _ => rfl)⟩)⟩
  · simp only [if_neg q] at cc cm
    refine ⟨(-1), (T, M, P, tp), hk, outC cc (fun r τ hq => ⟨hq.1, kC0 hC hq.2⟩), fun τ h1 h2 => outM (cm τ h1) (fun r υ hq => ⟨hq.1, kS h1 h2 (by rw [hq.2]; exact Fr.refl _ _)⟩)⟩
theorem op_back {l : Int} (hl : rI l) : Both E m_S_back m_M_back [aI l] (d + 115) := by
  intro D b σ hk hC
  obtain ⟨T, M, P, tp⟩ := D
  have cc := c_S_back (E := E) (d := d + 115) (n := l) hC hk.2.2.2.1 hl
  have cm := fun τ h1 => c_M_back (E := E) (d := d + 114) (σ := τ) (T := T) (M := M) (P := P) (tp := tp) (n := l) h1 hk hl
  by_cases q : 0 ≤ l ∧ l ≤ tp.length
  · simp only [if_pos q] at cc cm
    refine ⟨((tp.length : Int) - l), (T, M, P, tp.take (tp.length - l.toNat)), ⟨hk.1, hk.2.1, hk.2.2.1, by have := hk.2.2.2.1; show (tp.take (tp.length - l.toNat)).length ≤ 400; rw [List.length_take]; have h4 : tp.length ≤ 400 := this; omega, fun x hx => hk.2.2.2.2 x (List.mem_of_mem_take hx)⟩, outC cc (fun r τ hq => ⟨hq.1, (hq.2.1.cf 0 0).mono (by omega) (by omega) (by decide), b, hq.2.2⟩), fun τ h1 h2 => outM (cm τ h1) (fun r υ hq => ⟨hq.1, hq.2.1.mono (by decide), hq.2.2, h2.keep hq.2.1 (fun _ => rfl) (fun _ => rfl) (fun _ => rfl)⟩)⟩
  · simp only [if_neg q] at cc cm
    refine ⟨(-1), (T, M, P, tp), hk, outC cc (fun r τ hq => ⟨hq.1, kC0 hC hq.2⟩), fun τ h1 h2 => outM (cm τ h1) (fun r υ hq => ⟨hq.1, kS h1 h2 (by rw [hq.2]; exact Fr.refl _ _)⟩)⟩
theorem op_text (hS : StrE E) : Both E m_S_text m_M_text [] (d + 115) := by
  intro D b σ hk hC
  obtain ⟨T, M, P, tp⟩ := D
  have cc := c_S_text (E := E) (d := d + 74) hS hC hk
  have cm := fun τ h1 => c_M_text (E := E) (d := d + 107) (σ := τ) (T := T) (M := M) (P := P) (tp := tp) h1 hk
  cases ho : rdText tp with
  | error f =>
    simp only [ho] at cc cm
    refine ⟨(-4 - (f : Int)), (T, M, P, []), ⟨hk.1, hk.2.1, hk.2.2.1, by show (0 : Nat) ≤ 400; omega, fun x hx => by simp at hx⟩, outC cc (fun r τ hq => ⟨hq.2.1, hq.1.mono (by omega) (by omega) (by decide), b, hq.2.2⟩), fun τ h1 h2 => outM (cm τ h1) (fun r υ hq => ⟨hq.2.1, hq.1.mono (by decide), hq.2.2, h2.keep hq.1 (fun _ => rfl) (fun _ => rfl) (fun _ => rfl)⟩)⟩
  | ok s =>
    simp only [ho] at cc cm
    have hr : okR s := rdAll_ok (tp.length + 1) (T00, 12, 1, []) 0 s (Nat.zero_le _) okR_0 ho
    refine ⟨(s.2.2.2.length : Int), (s.1, s.2, [], []), ⟨hr.1, hr.2.2, ⟨by show (0 : Nat) ≤ 12; omega, fun x hx => by simp at hx⟩, by show (0 : Nat) ≤ 400; omega, fun x hx => by simp at hx⟩, outC cc (fun r τ hq => ⟨hq.2.1, hq.1.mono (by omega) (by omega) (by decide), _, hq.2.2⟩), fun τ h1 h2 => outM (cm τ h1) (fun r υ hq => ⟨hq.2.1, hq.1.mono (by decide), hq.2.2, h2.keep hq.1 (fun _ => rfl) (fun _ => rfl) (fun _ => rfl)⟩)⟩
end GBoth
