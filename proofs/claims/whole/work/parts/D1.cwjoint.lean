/-! WRITEPART: joints -/
section CWJoint
variable {E : EV} {a : Int}
/-- from the first part on: k' how the parts stand, mk the mark between them, q whether a bracket closes behind -/
theorem l_joint {u x z : Tr} {y' mk : Int} {k' : Nat} (hu : okw u) (hx : okw x) (hz : okw z) (hcu : cC u = y' :: (cC x ++ cC z)) (hy : (k' = 1 ∧ y' = 64 ∧ mk = 42) ∨ (k' = 2 ∧ y' = 65 ∧ mk = 58)) (ihx : WrP E a x) (ihz : WrP E a z)
    (e : Nat) (A Bk : List Int) (σ : St) (i : Int) (X : List Int) (w B O D C G q : Int) (he : 2 * (cC u).length + 4 ≤ e + 1) (hF : Fix σ) (hc : CdB 92 σ a (A ++ (cC u ++ Bk))) (hl : (A ++ (cC u ++ Bk)).length ≤ 1000) (h : SpIs σ i X w B O D C G) (hi : rI i) (hw : w = 0 ∨ w = 1) (hX : X.length + 4 * (cC u).length ≤ 10001) (hO : 0 ≤ O ∧ O ≤ D ∧ D ≤ 1000 ∧ O + (cC u).length ≤ 1001) (hC : (0 ≤ C ∧ C ≤ G) ∧ C + (cC u).length ≤ 1000 ∧ G ≤ 1000) (hq : q = 0 ∨ q = 1) :
    WP E m_Speller_writePart (e + 1) 82 [(0, aP 31), (1, aP a), (2, aI A.length), (4, aI y'), (5, aI q)] [] σ (fun r τ => ∃ v, r = some (aI v) ∧ σ.2 <+: τ.2 ∧ v = A.length + (cC u).length ∧ Fr spX σ τ ∧ ∃ w', (w' = 0 ∨ w' = 1) ∧ SpIs τ i (X ++ ((if w = 1 ∧ lf (k' == 1) x = true then [32] else []) ++ tx k' x) ++ [mk] ++ tx k' z ++ (if q = 0 then [] else [41])) w' (B + bra (tx k' x) + bra (tx k' z)) (if q = 0 then O else O - 1) (dpF (O, D) (tx k' x ++ mk :: tx k' z)).2 C (max (max G (C + dcp x)) (C + dcp z))) := by
  have hlu : (cC u).length = (cC x).length + (cC z).length + 1 := by rw [hcu]; simp
  have px := cC_pos hx
  have pz := cC_pos hz
  have tx1 := txl hx k'
  have tz1 := txl hz k'
  have dx := dcp_le hx
  have dz := dcp_le hz
  have hky : (k' = 0 ∧ y' = -1) ∨ (k' = 1 ∧ y' = 64) ∨ (k' = 2 ∧ y' = 65) := by omega
  obtain ⟨e', rfl⟩ : ∃ e', e = e' + 2 := ⟨e - 2, by omega⟩
  have e1 : A ++ (cC u ++ Bk) = (A ++ [y']) ++ (cC x ++ (cC z ++ Bk)) := by rw [hcu]; simp
  have e2 : A ++ (cC u ++ Bk) = (A ++ y' :: cC x) ++ (cC z ++ Bk) := by rw [hcu]; simp
  have hc1 : CdB 92 σ a ((A ++ [y']) ++ (cC x ++ (cC z ++ Bk))) := by rw [← e1]; exact hc
  have h9 := ihx (e' + 2) (A ++ [y']) (cC z ++ Bk) k' y' σ i X w B O D C G (by omega) hky hF hc1 (by rw [← e1]; exact hl) h hi hw (by omega) (by omega) (by omega)
  rw [show ((A ++ [y']).length : Int) = (A.length : Int) + 1 by simp] at h9
  refine b_Speller_writePart_82 _ _ _ _ hF (WMi.mono h9 (fun r τ1 p1 q1 => ?_))
  obtain ⟨rfl, f1, w1, hw1, s1⟩ := q1
  have F1 := f1.fix hF (by decide)
  obtain ⟨D1, eD1, gD1, gD1'⟩ := dpT hx k' O D hO.2.1
  rw [eD1] at s1
  have hb1 : ((if w = 1 ∧ lf (k' == 1) x = true then [32] else [] : List Int)).length ≤ 1 := by split <;> simp
  have tail : WP E m_Speller_writePart (e' + 2 + 1) 109 [(0, aP 31), (1, aP a), (4, aI y'), (5, aI q), (6, aI ((A.length : Int) + 1 + (cC x).length))] [aI mk, aP 31] τ1 (fun r τ => ∃ v, r = some (aI v) ∧ σ.2 <+: τ.2 ∧ v = A.length + (cC u).length ∧ Fr spX σ τ ∧ ∃ w', (w' = 0 ∨ w' = 1) ∧ SpIs τ i (X ++ ((if w = 1 ∧ lf (k' == 1) x = true then [32] else []) ++ tx k' x) ++ [mk] ++ tx k' z ++ (if q = 0 then [] else [41])) w' (B + bra (tx k' x) + bra (tx k' z)) (if q = 0 then O else O - 1) (dpF (O, D) (tx k' x ++ mk :: tx k' z)).2 C (max (max G (C + dcp x)) (C + dcp z))) := by
    refine b_Speller_writePart_109 _ _ _ _ _ _ F1 ⟨sf_31 F1, WMv.mono (c_Speller_writeMark F1 s1 hi (by simp only [List.length_append]; omega)) (fun τ2 p2 q2 => ?_)⟩
    have f2 := f1.tr q2.1
    have F2 := f2.fix hF (by decide)
    have c2 := hc.cf (f2.cf 0 0) spX_lt
    rw [e2] at c2
    have h8 := ihz (e' + 2) (A ++ y' :: cC x) Bk k' y' τ2 i _ 0 _ O D1 C (max G (C + dcp x)) (by omega) hky F2 c2 (by rw [← e2]; exact hl) q2.2 hi (Or.inl rfl) (by simp only [List.length_append, List.length_cons, List.length_nil]; omega) (by omega) (by omega)
    rw [show ((A ++ y' :: cC x).length : Int) = (A.length : Int) + 1 + (cC x).length by simp; omega] at h8
    refine ⟨F2, WMi.mono h8 (fun r3 τ3 p3 q3 => ?_)⟩
    obtain ⟨rfl, f3, w3, hw3, s3⟩ := q3
    have f3' := f2.tr f3
    have F3 := f3'.fix hF (by decide)
    obtain ⟨D2, eD2, gD2, gD2'⟩ := dpT hz k' O D1 (by omega)
    rw [eD2, if_neg (show ¬ ((0 : Int) = 1 ∧ lf (k' == 1) z = true) by omega), List.nil_append] at s3
    have hmk : ¬ (mk = 40 ∨ mk = 60) ∧ ¬ (mk = 41 ∨ mk = 62) := by omega
    have eDD : (dpF (O, D) (tx k' x ++ mk :: tx k' z)).2 = D2 := by
      rw [dpF_app, eD1, dpF_cons, dst_let (by omega) hmk, eD2]
    rw [eDD]
    refine ⟨F3, by omega, fun g => ⟨_, rfl, pre_eq f3'.1, by omega, f3', w3, hw3, ?_⟩, fun g => ?_⟩
    · rw [if_pos g, if_pos g, List.append_nil]
      exact s3
    · refine WMv.mono (c_Speller_writeClosing F3 s3 hi (by simp only [List.length_append, List.length_cons, List.length_nil]; omega)) (fun τ4 p4 q4 => ⟨_, rfl, pre_eq (f3'.tr q4.1).1, by omega, f3'.tr q4.1, 0, Or.inl rfl, ?_⟩)
      rw [if_neg g, if_neg g]
      exact q4.2
  refine ⟨by omega, fun g => ?_, fun g => ?_⟩
  · have : mk = 42 := by omega
    rw [this] at tail ⊢
    exact tail
  · have : mk = 58 := by omega
    rw [this] at tail ⊢
    exact tail
end CWJoint
