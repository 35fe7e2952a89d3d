/-! TEXTS -/
def TxIs (σ : St) (X : List Int) : Prop := σ.1 42 29 = X.length ∧ At (σ.1 64) 0 X
def txX : List (Int × Int) := [(64, -1), (42, 29)]
/-- a tree as a text; k 1: beside others -/
def tx : Nat → Tr → List Int
  | _, .var l => [97 + (vN l : Int)]
  | _, .pow t l => (97 + (l : Int)) :: 60 :: (tx 0 t ++ [62])
  | _, .mul a b => tx 1 a ++ (42 :: tx 1 b)
  | k, .add a b => if k = 1 then 40 :: (tx 2 a ++ (58 :: (tx 2 b ++ [41]))) else tx 2 a ++ (58 :: tx 2 b)
  | _, _ => []
theorem tx_len {t : Tr} (h : ok t) : ∀ k, 1 ≤ (tx k t).length ∧ (tx k t).length + 3 ≤ 4 * sg t := by
  induction t with
  | var l => intro k; simp [tx, sg]
  | pow t l ih => intro k; have := ih h.1 0; simp [tx, sg]; omega
  | mul a b iha ihb => intro k; have h1 := iha h.1 1; have h2 := ihb h.2.1 1; simp [tx, sg]; omega
  | add a b iha ihb => intro k; have h1 := iha h.1 2; have h2 := ihb h.2.1 2; simp only [tx, sg]; split <;> simp <;> omega
  | _ => exact absurd h (by simp [ok])
def wdF (k : Nat) : Nat := [0, 5, 9, 14, 19, 24].getD k 0
def wd (k : Nat) : List Int := [[115, 105, 100, 101], [103, 97, 112], [115, 105, 103, 110], [99, 111, 114, 101], [108, 105, 110, 101], [108, 101, 102, 116]].getD k []
def zer : List Int → Nat
  | [] => 0
  | x :: K => (if x = 0 then 1 else 0) + zer K
theorem zer_step : ∀ f, f < 29 → zer (wordsL.take (f + 1)) = zer (wordsL.take f) + (if wordsL.getD f 0 = 0 then 1 else 0) ∧ (wordsL.getD f 0 = 0 → zer (wordsL.take (f + 1)) ≤ 5 → f + 1 = wdF (zer (wordsL.take (f + 1)))) ∧ 0 ≤ wordsL.getD f 0 ∧ wordsL.getD f 0 ≤ 127 := by decide
theorem wd_at : ∀ k, k < 6 → ∀ j, j < (wd k).length + 1 → wdF k + j < 29 ∧ wordsL.getD (wdF k + j) 0 = (wd k).getD j 0 ∧ (j < (wd k).length → (wd k).getD j 0 ≠ 0) := by decide
/-- a number after a blank -/
def numT (v : Int) : List Int := if 9 < v then [32, 48 + v / 10, 48 + v % 10] else [32, 48 + v % 10]
section MText
variable {E : EV} {d : Nat} {σ : St} {T : Tb} {M : Mo} {P : List Mo} {tp : List Int} {X : List Int}
theorem c_M_writes {c : Int} (hF : Fix σ) (h : TxIs σ X) (hn : X.length < 2600) : WMv E m_M_writes d [aP 42, aI c] σ (fun τ => Fr txX σ τ ∧ TxIs τ (X ++ [c])) := by
  refine e_M_writes _ hF ⟨by rw [h.1]; omega, rfl, List.prefix_refl _, (Fr.wr (frO_a (by decide) _)).tr (Fr.wr (frO_k (by decide))), ?_, ?_⟩
  · rw [wr_same, h.1, List.length_append]; simp
  · refine h.2.push ?_ ?_
    · rw [wr_na _ (by decide), wr_at, if_pos ⟨rfl, h.1.symm⟩]
    · intro i hi
      rw [wr_na _ (by decide), wr_nk _ (by rw [h.1]; exact hi)]
theorem c_M_told {i : Int} (hF : Fix σ) (h : TxIs σ X) (hn : X.length ≤ 2600) (hi : rI i) (h1 : -1 ≤ i) : WMi E m_M_told d [aP 42, aI i] σ (fun r τ => r = (if i = -1 then (X.length : Int) else if i < X.length then X.getD i.toNat 0 else -1) ∧ τ = σ) := by
  refine e_M_told _ hF ⟨hi, fun c => ⟨hi, by rw [h.1]; omega, fun c2 => ri_p ?_, fun c2 => ⟨by rw [h.1] at c2; omega, ri_p ?_⟩⟩, fun c => ri_p ?_⟩
  · rw [h.1] at c2
    rw [if_neg c, if_neg (by omega)]
  · rw [h.1] at c2
    rw [if_neg c, if_pos (by omega), h.2.get (by omega) (by omega), show (i - 0).toNat = i.toNat by omega]
  · rw [if_pos c]; exact h.1
theorem c_M_wordFrom {k : Nat} (hF : Fix σ) (hw : At (σ.1 77) 0 wordsL) (hk : k < 6) : WMi E m_M_wordFrom d [aP 42, aI k] σ (fun r τ => r = wdF k ∧ τ = σ) := by
  refine e_M_wordFrom _ ?_
  have key : ∀ z : Nat × Nat, (zer (wordsL.take z.1) + z.2 = k ∧ z.1 ≤ 29 ∧ (z.2 = 0 → z.1 = wdF k)) → WP E m_M_wordFrom d 4 [(0, aP 42), (2, aI z.1), (3, aI z.2)] [] σ (fun r τ => ∃ v, r = some (aI v) ∧ σ.2 <+: τ.2 ∧ v = wdF k ∧ τ = σ) := by
    refine lpx (fun z => 29 - z.1) _ _ (fun z hI ih => ?_)
    obtain ⟨f, l⟩ := z
    obtain ⟨i1, i2, i3⟩ := hI
    simp only at i1 i2 i3 ih ⊢
    refine b_M_wordFrom_4 _ _ hF ⟨by omega, fun c => ri_p (by rw [i3 (by omega)]), fun c => ?_⟩
    have hf : f < 29 := by
      refine Nat.lt_of_le_of_ne i2 (fun q => ?_)
      subst q
      have : zer (wordsL.take 29) = 6 := by decide
      omega
    obtain ⟨z1, z2, z3⟩ := zer_step f hf
    have e1 := hw.get (k := f) (by omega) (by show (f : Int) < 0 + ((29 : Nat) : Int); omega)
    rw [show ((f : Int) - 0).toNat = f by omega] at e1
    rw [e1]
    refine ⟨by omega, by omega, fun c2 => b_M_wordFrom_20 _ _ ?_, fun c2 => b_M_wordFrom_20 _ _ ?_⟩
    · rw [if_neg c2] at z1
      exact ih (f + 1, l) (by show 29 - (f + 1) < 29 - f; omega) ⟨by show zer (wordsL.take (f + 1)) + l = k; omega, by show f + 1 ≤ 29; omega, fun q => by have q2 : l = 0 := q; omega⟩
    · rw [if_pos c2] at z1
      have h9 := ih (f + 1, l - 1) (by show 29 - (f + 1) < 29 - f; omega) ⟨by show zer (wordsL.take (f + 1)) + (l - 1) = k; omega, by show f + 1 ≤ 29; omega, fun q => by
        have q2 : l - 1 = 0 := q
        have h5 := z2 c2 (by omega)
        rw [show zer (wordsL.take (f + 1)) = k by omega] at h5
        exact h5⟩
      simp only at h9
      rw [show ((l - 1 : Nat) : Int) = (l : Int) + -1 by omega] at h9
      exact h9
  exact key (0, k) ⟨by show zer (wordsL.take 0) + k = k; simp [zer], by show (0 : Nat) ≤ 29; omega, fun q => by have q2 : k = 0 := q; subst q2; rfl⟩
theorem c_M_writesWord {k : Nat} (hF : Fix σ) (hw : At (σ.1 77) 0 wordsL) (h : TxIs σ X) (hk : k < 6) (hn : X.length + 4 < 2600) : WMv E m_M_writesWord (d + 1) [aP 42, aI k] σ (fun τ => Fr txX σ τ ∧ TxIs τ (X ++ wd k)) := by
  have hl4 : ∀ k, k < 6 → (wd k).length ≤ 4 := by decide
  have hl := hl4 k hk
  refine e_M_writesWord _ hF (wmi_p (c_M_wordFrom hF hw hk) ?_)
  have key : ∀ z : Nat × St, (z.1 ≤ (wd k).length ∧ Fr txX σ z.2 ∧ TxIs z.2 (X ++ (wd k).take z.1)) → WP E m_M_writesWord (d + 1) 6 [(0, aP 42), (2, aI ((wdF k + z.1 : Nat)))] [] z.2 (fun r τ => r = none ∧ σ.2 <+: τ.2 ∧ Fr txX σ τ ∧ TxIs τ (X ++ wd k)) := by
    refine lpx (fun z => (wd k).length - z.1) _ _ (fun z hI ih => ?_)
    obtain ⟨j, τ⟩ := z
    obtain ⟨i1, i2, i3⟩ := hI
    simp only at i1 i2 i3 ih ⊢
    have hT := i2.fix hF (by decide)
    obtain ⟨w1, w2, w3⟩ := wd_at k hk j (by omega)
    have hw' : At (τ.1 77) 0 wordsL := hw.congr (fun i hi => i2.2 _ _ rfl)
    have e1 := hw'.get (k := (wdF k + j : Nat)) (by omega) (by show ((wdF k + j : Nat) : Int) < 0 + ((29 : Nat) : Int); omega)
    rw [show (((wdF k + j : Nat) : Int) - 0).toNat = wdF k + j by omega] at e1
    have z3 := (zer_step _ w1).2.2
    refine b_M_writesWord_6 _ hT ⟨by omega, by rw [e1]; omega, fun c => ?_, fun c => ⟨by omega, ?_⟩⟩
    · rw [e1, w2] at c
      have : j = (wd k).length := by
        refine Nat.le_antisymm i1 (Nat.not_lt.mp (fun q => w3 q c))
      subst this
      rw [List.take_length] at i3
      exact ⟨rfl, pre_eq i2.1, i2, i3⟩
    · rw [e1, w2] at c ⊢
      have hjl : j < (wd k).length := by
        refine Nat.lt_of_le_of_ne i1 (fun q => c ?_)
        rw [q, List.getD_eq_getElem?_getD, List.getElem?_eq_none (Nat.le_refl _)]; rfl
      refine WMv.mono (c_M_writes hT i3 (by rw [List.length_append, List.length_take]; omega)) (fun υ hp hq => ?_)
      have h9 := ih (j + 1, υ) (by show (wd k).length - (j + 1) < (wd k).length - j; omega) ⟨by show j + 1 ≤ _; omega, i2.tr hq.1, by
        show TxIs υ (X ++ (wd k).take (j + 1))
        rw [take_succ_getD hjl, ← List.append_assoc]
        exact hq.2⟩
      simp only at h9
      rw [show ((wdF k + (j + 1) : Nat) : Int) = ((wdF k + j : Nat) : Int) + 1 by omega] at h9
      exact h9
  exact key (0, σ) ⟨Nat.zero_le _, Fr.refl _ _, by simpa using h⟩
theorem c_M_writesNumber {v : Int} (hF : Fix σ) (h : TxIs σ X) (hv : 0 ≤ v ∧ v ≤ 99) (hn : X.length + 3 < 2600) : WMv E m_M_writesNumber (d + 1) [aP 42, aI v] σ (fun τ => Fr txX σ τ ∧ TxIs τ (X ++ numT v)) := by
  refine e_M_writesNumber _ hF (WMv.mono (c_M_writes hF h (by omega)) (fun τ hp hq => ⟨hq.1.fix hF (by decide), by omega, fun c => ?_, fun c => ⟨by omega, ?_⟩⟩))
  · have hT := hq.1.fix hF (by decide)
    refine b_M_writesNumber_23 _ hT ⟨by omega, WMv.mono (c_M_writes hT hq.2 (by simp; omega)) (fun υ hp2 hq2 => ⟨rfl, hp.trans hp2, hq.1.tr hq2.1, ?_⟩)⟩
    unfold numT
    rw [if_neg (by omega)]
    simpa using hq2.2
  · have hT := hq.1.fix hF (by decide)
    refine WMv.mono (c_M_writes hT hq.2 (by simp; omega)) (fun υ hp2 hq2 => ?_)
    have hU := hq2.1.fix hT (by decide)
    refine b_M_writesNumber_23 _ hU ⟨by omega, WMv.mono (c_M_writes hU hq2.2 (by simp; omega)) (fun ω hp3 hq3 => ⟨rfl, (hp.trans hp2).trans hp3, (hq.1.tr hq2.1).tr hq3.1, ?_⟩)⟩
    unfold numT
    rw [if_pos (by omega)]
    simpa using hq3.2
/-- a count over the text -/
def bra : List Int → Nat
  | [] => 0
  | x :: K => (if x = 40 then 1 else 0) + bra K
theorem bra_app (K L : List Int) : bra (K ++ L) = bra K + bra L := by
  induction K with
  | nil => simp [bra]
  | cons x K ih => simp only [List.cons_append, bra, ih]; omega
theorem c_M_bracketsInText (hF : Fix σ) (h : TxIs σ X) (hn : X.length ≤ 2600) (hx : ∀ x ∈ X, 0 ≤ x ∧ x ≤ 255) : WMi E m_M_bracketsInText d [aP 42] σ (fun r τ => r = bra X ∧ τ = σ) := by
  refine e_M_bracketsInText ?_
  have key : ∀ k : Nat, k ≤ X.length → WP E m_M_bracketsInText d 4 [(0, aP 42), (1, aI (bra (X.take k) : Nat)), (2, aI k)] [] σ (fun r τ => ∃ v, r = some (aI v) ∧ σ.2 <+: τ.2 ∧ v = bra X ∧ τ = σ) := by
    refine lpx (fun k => X.length - k) _ _ (fun k hI ih => ?_)
    refine b_M_bracketsInText_4 _ _ hF ⟨by omega, by rw [h.1]; omega, fun c => ri_p ?_, fun c => ?_⟩
    · rw [h.1] at c
      rw [show k = X.length by omega, List.take_length]
    · rw [h.1] at c
      have hkl : k < X.length := by omega
      have e1 := h.2.get (k := k) (by omega) (by omega)
      rw [show ((k : Int) - 0).toNat = k by omega] at e1
      have e2 : 0 ≤ X.getD k 0 ∧ X.getD k 0 ≤ 255 := by
        rw [List.getD_eq_getElem?_getD, List.getElem?_eq_getElem hkl]
        exact hx _ (List.getElem_mem hkl)
      have h9 := ih (k + 1) (by omega) (by omega)
      rw [take_succ_getD hkl, bra_app, ← e1] at h9
      refine ⟨by omega, by omega, fun c2 => b_M_bracketsInText_26 _ _ ?_, fun c2 => b_M_bracketsInText_26 _ _ ?_⟩
      · simp only [bra, if_neg c2] at h9
        exact h9
      · simp only [bra, if_pos c2] at h9
        exact h9
  exact key 0 (Nat.zero_le _)
end MText
