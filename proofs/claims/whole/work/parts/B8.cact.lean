/-! ACTS: what they share -/
def aX : List (Int × Int) := [(1, 1), (1, 3), (9, -1)]
def caX : List (Int × Int) := (1, 1) :: (1, 3) :: (9, -1) :: cX
section CAct
variable {E : EV} {d : Nat} {σ : St} {b : Int} {T : Tb} {M M' : Mo} {P P' : List Mo} {tp : List Int}
theorem CS.upd {τ : St} (h : CS σ b T M P tp) (hf : Fr aX σ τ) (hm : MoC b τ (τ.1 1 1) M') (hp : τ.1 1 3 = P'.length ∧ ∀ (i : Nat) (m : Mo), P'[i]? = some m → MoC b τ (τ.1 9 i) m) : CS τ b T M' P' tp := by
  obtain ⟨⟨h1, h2, h2'⟩, ⟨h3, h4⟩, ⟨h5, h6⟩, ⟨h7, h8⟩, h9⟩ := h
  have hc := hf.cf 0 0
  refine ⟨⟨hf.fix h1 (by decide), h2, by rw [hf.1]; exact h2'⟩, ⟨?_, hm⟩, hp, ⟨?_, fun i x hx => ?_⟩, h9.cf hc rfl (fun k q1 q2 => hf.2 32 k rfl)⟩
  · rw [hf.2 1 0 rfl]; exact h3.cf hc rfl
  · rw [hf.2 12 1 rfl]; exact h7
  · rw [hf.2 13 i rfl]; exact h8 i x hx
theorem c_S_act {x : Int} (h : CS σ b T M P tp) (hP : P.length ≤ 12) (hx : MoC b σ x M') : WMv E m_S_act d [aP 1, aP x] σ (fun τ => Fr aX σ τ ∧ CS τ b T M' (push P M) tp) := by
  have hF := h.1.1
  have hb := h.1.2.1
  have h13 := h.2.2.1.1
  have second : ∀ (Q : List Mo) (τ : St), Q.length < 12 → Fr aX σ τ → τ.1 1 3 = Q.length → τ.1 1 1 = σ.1 1 1 → (∀ (i : Nat) (m : Mo), Q[i]? = some m → MoC b σ (τ.1 9 i) m) → WP E m_S_act d 43 [(0, aP 1), (1, aP x)] [] τ (fun r υ => r = none ∧ σ.2 <+: υ.2 ∧ Fr aX σ υ ∧ CS υ b T M' (Q ++ [M]) tp) := by
    intro Q τ hQ hf h3 h1 hm
    have hT := hf.fix hF (by decide)
    have hms : sh τ (τ.1 1 1) = some (4, 3) := by
      rw [h1]; exact sh_pre (pre_eq hf.1) h.2.1.2.2.1
    refine b_S_act_43 _ hT ⟨by omega, Or.inr hms, rfl, pre_eq hf.1, ?_⟩
    have hf2 : Fr aX σ (wr (wr (wr τ 9 (τ.1 1 3) (τ.1 1 1)) 1 3 (τ.1 1 3 + 1)) 1 1 x) := ((hf.tr (Fr.wr (frO_a (by decide) _))).tr (Fr.wr (frO_k (by decide)))).tr (Fr.wr (frO_k (by decide)))
    have hc2 := hf2.cf 0 0
    refine ⟨hf2, h.upd hf2 ?_ ⟨?_, fun i m hi => ?_⟩⟩
    · rw [wr_same]; exact hx.cf hc2 rfl hb
    · rw [wr_nk _ (by decide), wr_same, h3]; simp
    · rw [wr_na _ (by decide), wr_na _ (by decide), wr_at]
      by_cases c : i < Q.length
      · rw [List.getElem?_append_left c] at hi
        rw [if_neg (by omega)]
        exact (hm i m hi).cf hc2 rfl hb
      · have hi' : i = Q.length := by
          have := (List.getElem?_eq_some_iff.mp hi).1
          simp at this; omega
        subst hi'
        rw [List.getElem?_append_right (Nat.le_refl _)] at hi
        simp at hi
        subst hi
        rw [if_pos ⟨rfl, by omega⟩]
        have hmm := MoC.cf (X := aX) h.2.1.2 hc2 rfl hb
        rw [← h1] at hmm
        exact hmm
  refine e_S_act _ hF ⟨by omega, fun c => ?_, fun c => ?_⟩
  · have := second P σ (by omega) (Fr.refl _ _) h13 rfl h.2.2.1.2
    unfold push
    rw [if_neg (by omega)]
    exact this
  · have hP12 : P.length = 12 := by omega
    unfold push
    rw [if_pos hP12]
    refine lpu 12 (fun k τ => WP E m_S_act d 11 [(0, aP 1), (1, aP x), (2, aI k)] [] τ _) (fun k τ => (1 ≤ k ∧ k ≤ 12) ∧ Fr aX σ τ ∧ τ.1 1 1 = σ.1 1 1 ∧ (∀ j : Int, 0 ≤ j → j < k - 1 → τ.1 9 j = σ.1 9 (j + 1)) ∧ ∀ j : Int, k - 1 ≤ j → τ.1 9 j = σ.1 9 j) (fun k τ hI ih => ?_) 1 σ ⟨by omega, Fr.refl _ _, rfl, fun j q1 q2 => by omega, fun _ _ => rfl⟩
    obtain ⟨i1, i2, i3, i4, i5⟩ := hI
    have hT := i2.fix hF (by decide)
    refine b_S_act_11 _ _ hT ⟨by omega, fun c2 => ?_, fun c2 => ?_⟩
    · refine second P.tail _ (by simp; omega) (i2.tr (Fr.wr (frO_k (by decide)))) ?_ ?_ (fun i m hi => ?_)
      · rw [wr_same]; simp; omega
      · rw [wr_nk _ (by decide)]; exact i3
      · rw [wr_na _ (by decide)]
        rw [List.getElem?_tail] at hi
        have := (List.getElem?_eq_some_iff.mp hi).1
        rw [i4 _ (by omega) (by omega), show (i : Int) + 1 = ((i + 1 : Nat) : Int) by omega]
        exact h.2.2.1.2 _ _ hi
    · refine ⟨by omega, by omega, Or.inr ?_, ih (by omega) _ ⟨by omega, i2.tr (Fr.wr (frO_a (by decide) _)), ?_, fun j q1 q2 => ?_, fun j q1 => ?_⟩⟩
      · rw [i5 _ (by omega)]
        obtain ⟨m, hm⟩ : ∃ m, P[k.toNat]? = some m := ⟨_, List.getElem?_eq_getElem (by omega)⟩
        have := h.2.2.1.2 _ _ hm
        rw [show ((k.toNat : Nat) : Int) = k by omega] at this
        exact sh_pre (pre_eq i2.1) this.2.1
      · rw [wr_na _ (by decide)]; exact i3
      · rw [wr_at]
        by_cases q3 : j = k - 1
        · rw [if_pos ⟨rfl, q3⟩, i5 _ (by omega), q3, show k - 1 + 1 = k by omega]
        · rw [if_neg (fun z => q3 z.2)]; exact i4 j q1 (by omega)
      · rw [wr_nk _ (by omega)]; exact i5 j (by omega)
/-- what an act of the class answers and leaves -/
def CRes (n m : Nat) (σ : St) (b : Int) (T : Tb) (M : Mo) (P : List Mo) (tp : List Int) (o : Option Mo) (r : Int) (τ : St) : Prop := match o with
  | none => r = 0 ∧ Cf n m cX σ τ
  | some M' => r = 1 ∧ Cf n m caX σ τ ∧ CS τ b T M' (push P M) tp
theorem c_S_replaceLine {l x : Int} {L' : Ln} (h : CS σ b T M P tp) (hk : okMo T M) (hP : P.length ≤ 12) (h1 : rI l) (hl : (lnAt M l).isSome = true) (hx : LnC b σ x L') : WMi E m_S_replaceLine (d + 3) [aP 1, aI l, aP x] σ (fun r τ => r = 1 ∧ Cf 2 10 caX σ τ ∧ CS τ b T (setLn M l L') (push P M) tp) := by
  have hF := h.1.1
  have hb := h.1.2.1
  have hn := hk.2.2.1
  refine e_S_replaceLine _ _ hF ⟨h.2.1.2.2.1, WMr.mono (c_Moment_with h.2.1.2 hb hk.ls.1 h1 hx.2.1) (fun r τ hp hq => ?_)⟩
  obtain ⟨hq1, hq2⟩ := hq
  have hl0 := h.1.1.len
  have hc : Cf 2 7 cX σ τ := hq1.1.mono (by omega) (by omega) rfl
  have hS := h.cf hc
  have hlt : 0 ≤ l ∧ l < M.2.2.length := by
    cases e : lnAt M l with
    | none => rw [e] at hl; cases hl
    | some L => have := lnAt_some e; omega
  have hmo : MoC b τ r (setLn M l L') := by
    have hq1' : New2 25 4 3 σ (setLn M l L').2.2.length (fun k => if k = l then x else rf σ (σ.1 1 1) M.2.2.length k) r τ := by
      have : (setLn M l L').2.2.length = M.2.2.length := by simp [setLn]
      rw [this]; exact hq1
    refine hq1'.mo hq2 hl0 (fun s L hs => ?_)
    simp only [setLn, List.getElem?_set] at hs
    by_cases c : (s : Int) = l
    · rw [if_pos c]
      rw [if_pos (by omega), if_pos (by omega)] at hs
      cases hs
      exact hx
    · rw [if_neg c]
      rw [if_neg (by omega)] at hs
      have := (List.getElem?_eq_some_iff.mp hs).1
      unfold rf
      rw [if_pos (by omega)]
      exact h.2.1.2.2.2.2.2 s L hs
  refine ⟨hS.1.1, WMv.mono (c_S_act hS hP hmo) (fun υ hp2 hq3 => ⟨_, rfl, hp.trans hp2, rfl, ?_, hq3.2⟩)⟩
  exact (hc.mono (Nat.le_refl _) (Nat.le_refl _) (by decide)).tr ((hq3.1.cf 0 3).mono (Nat.le_refl _) (Nat.le_refl _) (by decide))
theorem c_S_become {l s x : Int} {L : Ln} {t t' : Tr} (h : CS σ b T M P tp) (hk : okMo T M) (hP : P.length ≤ 12) (h1 : rI l) (h2 : rI s) (hl : lnAt M l = some L) (hs : sqIn L s = some t) (hx : SqC b σ x t') : WMi E m_S_become (d + 4) [aP 1, aI l, aI s, aP x] σ (fun r τ => r = 1 ∧ Cf 4 20 caX σ τ ∧ CS τ b T (setSq M l s L t') (push P M) tp) := by
  have hF := h.1.1
  have hb := h.1.2
  have hL := hk.ln hl
  have hL8 := hL.1.1.2
  have hsi := sqIn_some hs
  refine e_S_become _ _ _ hF (WMr.mono (c_S_lineAt h hk h1) (fun r τ hp hq => ?_))
  obtain ⟨hq1, rfl⟩ := hq
  rw [hl] at hq1
  refine ⟨hF, fun c => absurd c hq1.1, fun c => ⟨hq1.2.2.1, WMr.mono (c_Line_with hq1.2 hL.1.qs.1 h2 hx.2.1) (fun r2 τ2 hp2 hq2 => ?_)⟩⟩
  have hc : Cf 2 10 cX τ τ2 := hq2.1.1.mono (Nat.le_refl _) (by omega) rfl
  have hS := h.cf hc
  have hln : LnC b τ2 r2 (L.1, L.2.set s.toNat t') := by
    have e : New2 24 3 2 τ (L.2.set s.toNat t').length (fun k => if k = s then x else rf τ r L.2.length k) r2 τ2 := by
      rw [List.length_set]; exact hq2.1
    refine e.ln hq2.2 hb.2 (fun j u hu => ?_)
    rw [List.getElem?_set] at hu
    by_cases c : (j : Int) = s
    · rw [if_pos c]
      rw [if_pos (by omega), if_pos (by omega)] at hu
      cases hu
      exact hx
    · rw [if_neg c]
      rw [if_neg (by omega)] at hu
      have := (List.getElem?_eq_some_iff.mp hu).1
      unfold rf
      rw [if_pos (by omega)]
      exact hq1.2.2.2.2.2 j u hu
  refine ⟨hS.1.1, WMi.mono (c_S_replaceLine hS hk hP h1 (by rw [hl]; rfl) hln) (fun r3 τ3 hp3 hq3 => ?_)⟩
  obtain ⟨rfl, hq4, hq5⟩ := hq3
  exact ⟨by decide, fun c => by omega, fun c => ⟨_, rfl, hp.trans (hp2.trans hp3), rfl, (hc.mono (Nat.le_refl _) (Nat.le_refl _) (by decide)).tr hq4, hq5⟩⟩
theorem Fix.dr (h : Fix σ) : DrS σ 10 11 := ⟨by decide, sf_10 h, h.2 (10, 0, 11) (by decide), sf_11 h⟩
theorem Fix.dr2 (h : Fix σ) : DrS σ 14 15 := ⟨by decide, sf_14 h, h.2 (14, 0, 15) (by decide), sf_15 h⟩
/-- a part of a square's code as a square of its own -/
theorem c_S_slice {s from_ to : Int} {A B : List Int} {t : Tr} (h : Fix σ) (ht : okw t) (hn : (cC t).length < 24) (hc : CdB 92 σ s (A ++ (cC t ++ B))) (hL : (A ++ (cC t ++ B)).length ≤ 1000) (h1 : from_ = A.length) (h2 : to = A.length + (cC t).length) : WMr E m_S_slice (d + 3) [aP 1, aP s, aI from_, aI to] σ (fun r τ => Cf 2 25 cX σ τ ∧ SqC σ.2.length τ r t) := by
  refine e_S_slice _ _ _ h (WMv.mono (c_Draft_clear h.dr) (fun τ hp hq => ?_))
  have hF1 := hq.1.fix h (by decide)
  have hc1 := hc.cf (hq.1.cf 0 0) (dX_lt (by decide))
  refine ⟨hF1, WMv.mono (c_Draft_putAll hq.2 hc1 (cC_sym ht) hL h1 h2 (by simp; omega)) (fun τ2 hp2 hq2 => ?_)⟩
  have hF2 := hq2.1.fix hF1 (by decide)
  rw [List.nil_append] at hq2
  refine ⟨hF2, WMr.mono (c_Draft_made hq2.2 hn) (fun r τ3 hp3 hq3 => ⟨_, rfl, hp.trans (hp2.trans hp3), ?_, ?_⟩)⟩
  · have c1 := ((hq.1.tr hq2.1).cf 0 0).mono (Y := cX) (Nat.le_refl _) (Nat.le_refl _) (by decide)
    have c2 := hq3.2.1.mono (Y := cX) (Nat.le_refl _) (show 1 + (cC t).length ≤ 25 by omega) rfl
    exact (c1.tr c2).mono (by omega) (by omega) (by decide)
  · have e : τ2.2.length = σ.2.length := by rw [hq2.1.1, hq.1.1]
    have := hq3.2.2
    rw [e] at this
    exact this
end CAct
