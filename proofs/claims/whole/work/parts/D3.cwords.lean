/-! WORDS, NUMBERS, SIGNS TOLD -/
/-- what is known of the texts that the class names -/
def StrE (E : EV) : Prop := (∀ k : Nat, k < 6 → XR E (-((k : Int) + 1)) "java/lang/String" ∧ (∀ (d : Nat) (σ : St), WMi E m_String_length (d + 1) [aP (-((k : Int) + 1))] σ (fun r τ => r = (wd k).length ∧ τ = σ)) ∧ ∀ i : Nat, i < (wd k).length → ∀ (d : Nat) (σ : St), WMi E m_String_charAt (d + 3) [aP (-((k : Int) + 1)), aI i] σ (fun r τ => r = (wd k).getD i 0 ∧ τ = σ)) ∧ (XS E "SignSquares$Speller" 40 1 ∧ XS E "SignSquares$Speller" 57 2 ∧ XS E "SignSquares$Speller" 83 3 ∧ XS E "SignSquares$Speller" 98 4 ∧ XS E "SignSquares$Speller" 106 5 ∧ XS E "SignSquares$Speller" 113 6) ∧ XS E "SignSquares$Reader" 81 1 ∧ XS E "SignSquares$Reader" 89 2 ∧ XS E "SignSquares$Reader" 90 3 ∧ XS E "SignSquares$Reader" 118 4 ∧ XS E "SignSquares$Reader" 96 5 ∧ XS E "SignSquares$Reader" 127 6
theorem wd_len : ∀ k, k < 6 → (wd k).length ≤ 4 := by decide
theorem tb_nat {f : Int × Int × Int × Int → Int} {T : Tb} {l : Nat} (hl : l < 26) : tb f T (l : Int) = f (T l) := by
  unfold tb
  rw [if_pos (by omega), show ((l : Nat) : Int).toNat = l by omega]
section CWords
variable {E : EV} {d : Nat} {σ : St} {i w B O D C G : Int} {X : List Int} {T : Tb} {a : Int}
theorem c_Speller_writeWord {k : Nat} {r : Int} (hS : StrE E) (hF : Fix σ) (h : SpIs σ i X w B O D C G) (hi : rI i) (hX : X.length ≤ 10000) (hw : w = 0 ∨ w = 1) (hk : k < 6) (hr : r = -((k : Int) + 1)) : WMv E m_Speller_writeWord (d + 4) [aP 31, aP r] σ (fun τ => Fr spX σ τ ∧ SpIs τ i (X ++ ((if w = 1 then [32] else []) ++ wd k)) 1 B O D C G) := by
  have hl := wd_len k hk
  subst hr
  obtain ⟨s1, s2, s3⟩ := hS.1 k hk
  have hbl : ((if w = 1 then [32] else [] : List Int)).length ≤ 1 := by split <;> simp
  have h0 := c_Speller_beginWord (E := E) (d := d + 2) hF h hi (by omega) hw
  generalize (if w = 1 then [32] else [] : List Int) = bl at hbl h0 ⊢
  refine e_Speller_writeWord _ hF (WMv.mono h0 (fun τ hp hq => ?_))
  have key : ∀ z : Nat × St, (z.1 ≤ (wd k).length ∧ Fr spX σ z.2 ∧ SpIs z.2 i (X ++ (bl ++ (wd k).take z.1)) 1 B O D C G) → WP E m_Speller_writeWord (d + 4) 6 [(0, aP 31), (1, aP (-((k : Int) + 1))), (2, aI z.1)] [] z.2 (fun r τ => r = none ∧ σ.2 <+: τ.2 ∧ Fr spX σ τ ∧ SpIs τ i (X ++ (bl ++ wd k)) 1 B O D C G) := by
    refine lpx (fun z => (wd k).length - z.1) _ _ (fun z hI ih => ?_)
    obtain ⟨j, υ⟩ := z
    obtain ⟨i1, i2, i3⟩ := hI
    simp only at i1 i2 i3 ih ⊢
    have F2 := i2.fix hF (by decide)
    refine b_Speller_writeWord_6 _ _ F2 ⟨s1, wmi_p (s2 _ _) ⟨F2, by omega, by omega, fun c => ?_, fun c => ⟨s1, wmi_p (s3 j (by omega) _ _) ⟨F2, ?_⟩⟩⟩⟩
    · have : j = (wd k).length := by omega
      subst this
      rw [List.take_length] at i3
      exact ⟨rfl, pre_eq i2.1, i2, i3⟩
    · have lt : (X ++ (bl ++ (wd k).take j)).length ≤ 20000 := by rw [List.length_append, List.length_append, List.length_take]; omega
      refine WMv.mono (c_Speller_put F2 i3 hi (by omega)) (fun ω hp2 hq2 => ?_)
      have h9 := ih (j + 1, ω) (by show (wd k).length - (j + 1) < (wd k).length - j; omega) ⟨by show j + 1 ≤ _; omega, i2.tr hq2.1, by
        show SpIs ω i (X ++ (bl ++ (wd k).take (j + 1))) 1 B O D C G
        rw [take_succ_getD (by omega), ← List.append_assoc, ← List.append_assoc, List.append_assoc X]
        exact hq2.2⟩
      simp only at h9
      rw [show ((j + 1 : Nat) : Int) = (j : Int) + 1 by omega] at h9
      exact h9
  exact key (0, τ) ⟨Nat.zero_le _, hq.1, by simpa using hq.2⟩
theorem c_Speller_writeNumber {v : Int} (hF : Fix σ) (h : SpIs σ i X 1 B O D C G) (hi : rI i) (hX : X.length ≤ 10000) (hv : 0 ≤ v ∧ v ≤ 99) : WMv E m_Speller_writeNumber (d + 2) [aP 31, aI v] σ (fun τ => Fr spX σ τ ∧ SpIs τ i (X ++ numT v) 1 B O D C G) := by
  refine e_Speller_writeNumber _ hF (WMv.mono (c_Speller_beginWord hF h hi (by omega) (Or.inr rfl)) (fun τ hp hq => ?_))
  rw [if_pos rfl] at hq
  have F1 := hq.1.fix hF (by decide)
  have l1 : (X ++ [32]).length = X.length + 1 := by simp
  refine ⟨F1, by omega, fun c => ?_, fun c => ⟨by omega, WMv.mono (c_Speller_put F1 hq.2 hi (by omega)) (fun υ hp2 hq2 => ?_)⟩⟩
  · refine b_Speller_writeNumber_21 _ F1 ⟨by omega, WMv.mono (c_Speller_put F1 hq.2 hi (by omega)) (fun υ hp2 hq2 => ⟨rfl, hp.trans hp2, hq.1.tr hq2.1, ?_⟩)⟩
    have e : X ++ numT v = X ++ [32] ++ [48 + v % 10] := by unfold numT; rw [if_neg (by omega), List.append_assoc]; rfl
    rw [e]
    exact hq2.2
  · have F2 := hq2.1.fix F1 (by decide)
    have l2 : (X ++ [32] ++ [48 + v / 10]).length = X.length + 2 := by simp
    refine b_Speller_writeNumber_21 _ F2 ⟨by omega, WMv.mono (c_Speller_put F2 hq2.2 hi (by omega)) (fun ω hp3 hq3 => ⟨rfl, (hp.trans hp2).trans hp3, (hq.1.tr hq2.1).tr hq3.1, ?_⟩)⟩
    have e : X ++ numT v = X ++ [32] ++ [48 + v / 10] ++ [48 + v % 10] := by unfold numT; rw [if_pos (by omega), List.append_assoc, List.append_assoc]; rfl
    rw [e]
    exact hq3.2
theorem c_Speller_writeTold {l : Nat} (hl : l < 26) (hS : StrE E) (hF : Fix σ) (ht : TabC σ a T) (hT : okTab T) (h : SpIs σ i X 0 B O D C G) (hi : rI i) (hX : X.length ≤ 9000) : WMv E m_Speller_writeTold (d + 5) [aP 31, aP a, aI l] σ (fun τ => Fr spX σ τ ∧ SpIs τ i (X ++ sgT l (T l)) 0 B O D C G) := by
  have hr := hT.r l hl
  have n1 := numT_len (T l).1
  have n2 := numT_len (T l).2.1
  have n3 := numT_len (T l).2.2.1
  have n4 := numT_len (T l).2.2.2
  have w2 : (wd 2).length = 4 := rfl
  have w3 : (wd 3).length = 4 := rfl
  have lI : rI (l : Int) := by omega
  refine e_Speller_writeTold _ _ hF ⟨hS.2.1.2.2.1, WMv.mono (c_Speller_writeWord (k := 2) hS hF h hi (by omega) (Or.inl rfl) (by decide) (by decide)) (fun τ1 p1 q1 => ?_)⟩
  have f1 := q1.1
  have F1 := f1.fix hF (by decide)
  rw [if_neg (show ¬ (0 : Int) = 1 by decide), List.nil_append] at q1
  have l1 : (X ++ wd 2).length = X.length + 4 := by rw [List.length_append, w2]
  refine ⟨F1, WMv.mono (c_Speller_writeLetter F1 q1.2 hi (by omega) (Or.inr rfl)) (fun τ2 p2 q2 => ?_)⟩
  have f2 := f1.tr q2.1
  have F2 := f2.fix hF (by decide)
  have t2 := ht.cf (f2.cf 0 0) rfl
  rw [if_pos rfl] at q2
  obtain ⟨X2, hX2⟩ : ∃ X2, X2 = X ++ wd 2 ++ ([32] ++ [97 + (l : Int)]) := ⟨_, rfl⟩
  have l2 : X2.length = X.length + 6 := by rw [hX2, List.length_append, l1]; rfl
  rw [← hX2] at q2
  refine ⟨F2, t2.2.1, wmi_p (c_Table_wideOf t2 lI) ?_⟩
  rw [show tb tW T (l : Int) = (T l).1 from tb_nat hl]
  refine ⟨F2, WMv.mono (c_Speller_writeNumber F2 q2.2 hi (by omega) (by omega)) (fun τ3 p3 q3 => ?_)⟩
  have f3 := f2.tr q3.1
  have F3 := f3.fix hF (by decide)
  have t3 := ht.cf (f3.cf 0 0) rfl
  have l3 : (X2 ++ numT (T l).1).length = X2.length + (numT (T l).1).length := List.length_append
  refine ⟨F3, t3.2.1, wmi_p (c_Table_highOf t3 lI) ?_⟩
  rw [show tb tH T (l : Int) = (T l).2.1 from tb_nat hl]
  refine ⟨F3, WMv.mono (c_Speller_writeNumber F3 q3.2 hi (by omega) (by omega)) (fun τ4 p4 q4 => ?_)⟩
  have f4 := f3.tr q4.1
  have F4 := f4.fix hF (by decide)
  have t4 := ht.cf (f4.cf 0 0) rfl
  have l4 : (X2 ++ numT (T l).1 ++ numT (T l).2.1).length = X2.length + (numT (T l).1).length + (numT (T l).2.1).length := by rw [List.length_append, l3]
  refine ⟨F4, t4.2.1, wmi_p (c_Table_hasCore t4 hT lI) ?_⟩
  rw [show tb tU T (l : Int) = (T l).2.2.1 from tb_nat hl]
  refine ⟨F4, b2i_r _, fun c => ?_, fun c => ⟨hS.2.1.2.2.2.1, WMv.mono (c_Speller_writeWord (k := 3) hS F4 q4.2 hi (by omega) (Or.inr rfl) (by decide) (by decide)) (fun τ5 p5 q5 => ?_)⟩⟩
  · rw [b2i_0] at c
    refine b_Speller_writeTold_61 F4 (WMv.mono (c_Speller_writeMark F4 q4.2 hi (by omega)) (fun τ5 p5 q5 => ⟨rfl, pre_eq (f4.tr q5.1).1, f4.tr q5.1, ?_⟩))
    have e : X ++ sgT l (T l) = X2 ++ numT (T l).1 ++ numT (T l).2.1 ++ [59] := by
      rw [hX2]
      unfold sgT
      rw [if_neg c]
      simp only [List.append_assoc, List.nil_append]
    rw [e]
    exact q5.2
  · rw [b2i_n0] at c
    rw [if_pos rfl] at q5
    have f5 := f4.tr q5.1
    have F5 := f5.fix hF (by decide)
    have t5 := ht.cf (f5.cf 0 0) rfl
    have l5 : (X2 ++ numT (T l).1 ++ numT (T l).2.1 ++ ([32] ++ wd 3)).length = X2.length + (numT (T l).1).length + (numT (T l).2.1).length + 5 := by rw [List.length_append, l4]; rfl
    refine ⟨F5, t5.2.1, wmi_p (c_Table_coreWideOf t5 lI) ?_⟩
    rw [show tb tU T (l : Int) = (T l).2.2.1 from tb_nat hl]
    refine ⟨F5, WMv.mono (c_Speller_writeNumber F5 q5.2 hi (by omega) (by omega)) (fun τ6 p6 q6 => ?_)⟩
    have f6 := f5.tr q6.1
    have F6 := f6.fix hF (by decide)
    have t6 := ht.cf (f6.cf 0 0) rfl
    have l6 : (X2 ++ numT (T l).1 ++ numT (T l).2.1 ++ ([32] ++ wd 3) ++ numT (T l).2.2.1).length = X2.length + (numT (T l).1).length + (numT (T l).2.1).length + 5 + (numT (T l).2.2.1).length := by rw [List.length_append, l5]
    refine ⟨F6, t6.2.1, wmi_p (c_Table_coreHighOf t6 lI) ?_⟩
    rw [show tb tV T (l : Int) = (T l).2.2.2 from tb_nat hl]
    refine ⟨F6, WMv.mono (c_Speller_writeNumber F6 q6.2 hi (by omega) (by omega)) (fun τ7 p7 q7 => ?_)⟩
    have f7 := f6.tr q7.1
    have F7 := f7.fix hF (by decide)
    refine b_Speller_writeTold_61 F7 (WMv.mono (c_Speller_writeMark F7 q7.2 hi (by rw [List.length_append, l6]; omega)) (fun τ8 p8 q8 => ⟨rfl, pre_eq (f7.tr q8.1).1, f7.tr q8.1, ?_⟩))
    have e : X ++ sgT l (T l) = X2 ++ numT (T l).1 ++ numT (T l).2.1 ++ ([32] ++ wd 3) ++ numT (T l).2.2.1 ++ numT (T l).2.2.2 ++ [59] := by
      rw [hX2]
      unfold sgT
      rw [if_pos c]
      simp only [List.append_assoc]
    rw [e]
    exact q8.2
end CWords
