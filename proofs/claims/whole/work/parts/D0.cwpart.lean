/-! WRITEPART, BY RECURSION -/
theorem txl {u : Tr} (h : okw u) : ∀ k, (tx k u).length + 1 ≤ 4 * (cC u).length := by
  induction u with
  | var l => intro k; simp [tx, cC]
  | pow t l ih => intro k; have := ih h.1 0; simp [tx, cC]; omega
  | mul a b iha ihb => intro k; have h1 := iha h.1 1; have h2 := ihb h.2 1; simp [tx, cC]; omega
  | add a b iha ihb => intro k; have h1 := iha h.1 2; have h2 := ihb h.2 2; simp only [tx, cC]; split <;> simp <;> omega
  | _ => exact absurd h (by simp [okw])
theorem dcp_le {u : Tr} (h : okw u) : dcp u + 1 ≤ (cC u).length := by
  induction u with
  | var l => simp [dcp, cC]
  | pow t l ih => have := ih h.1; simp [dcp, cC]; omega
  | mul a b iha ihb => have h1 := iha h.1; have h2 := ihb h.2; simp [dcp, cC]; omega
  | add a b iha ihb => have h1 := iha h.1; have h2 := ihb h.2; simp [dcp, cC]; omega
  | _ => exact absurd h (by simp [okw])
/-- what is due of a part that is written -/
def WrP (E : EV) (a : Int) (u : Tr) : Prop := ∀ (e : Nat) (A Bk : List Int) (k : Nat) (y : Int) (σ : St) (i : Int) (X : List Int) (w B O D C G : Int), 2 * (cC u).length + 4 ≤ e → ((k = 0 ∧ y = -1) ∨ (k = 1 ∧ y = 64) ∨ (k = 2 ∧ y = 65)) → Fix σ → CdB 92 σ a (A ++ (cC u ++ Bk)) → (A ++ (cC u ++ Bk)).length ≤ 1000 → SpIs σ i X w B O D C G → rI i → (w = 0 ∨ w = 1) → X.length + 4 * (cC u).length ≤ 10000 → (0 ≤ O ∧ O ≤ D ∧ D ≤ 1000 ∧ O + (cC u).length ≤ 1000) → ((0 ≤ C ∧ C ≤ G) ∧ C + (cC u).length ≤ 1000 ∧ G ≤ 1000) →
  WMi E m_Speller_writePart e [aP 31, aP a, aI A.length, aI y] σ (fun r τ => r = A.length + (cC u).length ∧ Fr spX σ τ ∧ ∃ w', (w' = 0 ∨ w' = 1) ∧ SpIs τ i (X ++ ((if w = 1 ∧ lf (k == 1) u = true then [32] else []) ++ tx k u)) w' (B + bra (tx k u)) O (dpF (O, D) (tx k u)).2 C (max G (C + dcp u)))
section CWPart
variable {E : EV} {a : Int}
theorem spX_lt : ltX 92 spX := by intro p hp; simp [spX] at hp; subst hp; decide
/-- a sign that is written, with what is inside -/
theorem l_sign {u : Tr} (hu : okw u) (hs : isS u = true) (ih : ∀ t l, u = .pow t l → WrP E a t) (e : Nat) (A Bk : List Int) (σ : St) (i : Int) (X : List Int) (w B O D C G : Int) (he : 2 * (cC u).length + 3 ≤ e) (hF : Fix σ) (hc : CdB 92 σ a (A ++ (cC u ++ Bk))) (hl : (A ++ (cC u ++ Bk)).length ≤ 1000) (h : SpIs σ i X w B O D C G) (hi : rI i) (hw : w = 0 ∨ w = 1) (hX : X.length + 4 * (cC u).length ≤ 10000) (hO : 0 ≤ O ∧ O ≤ D ∧ D ≤ 1000 ∧ O + (cC u).length ≤ 1000) (hC : (0 ≤ C ∧ C ≤ G) ∧ C + (cC u).length ≤ 1000 ∧ G ≤ 1000) :
    WMi E m_Speller_writeSign e [aP 31, aP a, aI A.length] σ (fun r τ => r = A.length + (cC u).length ∧ Fr spX σ τ ∧ ∃ w', (w' = 0 ∨ w' = 1) ∧ SpIs τ i (X ++ ((if w = 1 then [32] else []) ++ tx 0 u)) w' (B + bra (tx 0 u)) O (dpF (O, D) (tx 0 u)).2 C (max G (C + dcp u))) := by
  have hp := cC_pos hu
  obtain ⟨e', rfl⟩ : ∃ e', e = e' + 4 := ⟨e - 4, by omega⟩
  have hlA : (A ++ (cC u ++ Bk)).length = A.length + ((cC u).length + Bk.length) := by simp
  have hsym : (A ++ (cC u ++ Bk)).getD (A.length : Int).toNat 0 = sy u := by
    rw [cC_sy hu, show ((A.length : Nat) : Int).toNat = A.length by omega]; simp [List.getD_eq_getElem?_getD]
  have hr := sy_r hu
  have hsy := sy_sign hu hs
  have hbl : ((if w = 1 then [32] else [] : List Int)).length ≤ 1 := by split <;> simp
  refine e_Speller_writeSign _ _ hF ⟨hc.2.1, wmi_p (c_Sq_symbol hc.2 hl (by omega)) ⟨hF, ?_⟩⟩
  rw [if_pos (by omega), hsym]
  refine wmi_p (c_S_letterOf (by omega)) ⟨hF, ?_⟩
  rw [hsy.2.1]
  refine WMv.mono (c_Speller_writeLetter hF h hi (by omega) hw) (fun τ1 p1 q1 => ?_)
  have F1 := q1.1.fix hF (by decide)
  refine ⟨F1, wmi_p (c_S_holds (by omega)) ⟨F1, b2i_r _, fun g => ?_, fun g => ?_⟩⟩
  · rw [b2i_n0, hsy.2.2.1] at g
    cases u with
    | pow t l =>
      have hlen : (cC (.pow t l)).length = (cC t).length + 1 := by simp [cC]
      have b7 := q1.2.2.2.2.2.2.1
      have b8 := q1.2.2.2.2.2.2.2
      have hdt := dcp_le hu.1
      rw [b7, b8]
      have s1 := ((q1.2.set_ (C + 1)).2.2.2.2.1.set_ (max G (C + 1))).2.2.2.2.2
      have f1 := (q1.1.tr (fr_sp τ1 7 (C + 1))).tr (fr_sp _ 8 (max G (C + 1)))
      have F2 := f1.fix hF (by decide)
      refine ⟨by omega, by omega, WMv.mono (c_Speller_writeOpening F2 s1 hi (by simp only [List.length_append, List.length_cons, List.length_nil]; omega) (by omega) (by omega)) (fun τ3 p3 q3 => ?_)⟩
      have f3 := f1.tr q3.1
      have F3 := f3.fix hF (by decide)
      have c3 := hc.cf (f3.cf 0 0) spX_lt
      have e1 : A ++ (cC (.pow t l) ++ Bk) = (A ++ [(l : Int) + 32]) ++ (cC t ++ Bk) := by simp [cC]
      rw [e1] at c3 hl
      have h9 := ih t l rfl (e' + 3) (A ++ [(l : Int) + 32]) Bk 0 (-1) τ3 i _ 0 B (O + 1) (max D (O + 1)) (C + 1) (max G (C + 1)) (by omega) (Or.inl ⟨rfl, rfl⟩) F3 c3 hl q3.2 hi (Or.inl rfl) (by simp only [List.length_append, List.length_cons, List.length_nil]; omega) (by omega) (by omega)
      rw [show ((A ++ [(l : Int) + 32]).length : Int) = (A.length : Int) + 1 by simp] at h9
      refine ⟨F3, WMi.mono h9 (fun r τ4 p4 q4 => ?_)⟩
      obtain ⟨rfl, f4, w', hw', s4⟩ := q4
      have F4 := f4.fix F3 (by decide)
      obtain ⟨D', eD, hD1, hD2⟩ := dpT hu.1 0 (O + 1) (max D (O + 1)) (by omega)
      rw [eD] at s4
      have htl := txl hu.1 0
      refine ⟨F4, WMv.mono (c_Speller_writeClosing F4 s4 hi (by simp only [List.length_append, List.length_cons, List.length_nil]; split <;> simp <;> omega)) (fun τ5 p5 q5 => ?_)⟩
      have f5 := (f3.tr f4).tr q5.1
      have F5 := f5.fix hF (by decide)
      have b75 := q5.2.2.2.2.2.2.1
      rw [b75]
      refine ⟨F5, _, rfl, pre_eq f5.1, by rw [hlen]; omega, f5.tr (fr_sp _ _ _), 0, Or.inl rfl, ?_⟩
      have s5 := (q5.2.set_ (C + 1 - 1)).2.2.2.2.1
      have eX : X ++ ((if w = 1 then [32] else []) ++ [97 + (lett (.pow t l) : Int)]) ++ [60] ++ ((if (0 : Int) = 1 ∧ lf ((0 : Nat) == 1) t = true then [32] else []) ++ tx 0 t) ++ [62] = X ++ ((if w = 1 then [32] else []) ++ tx 0 (.pow t l)) := by
        rw [if_neg (show ¬ ((0 : Int) = 1 ∧ lf ((0 : Nat) == 1) t = true) by omega)]
        simp [tx, lett]
      have eB : B + (bra (tx 0 t) : Int) = B + (bra (tx 0 (.pow t l)) : Int) := by
        have h2 := hu.2
        simp only [tx, bra, bra_app]
        rw [if_neg (by omega)]
        simp
      have eD2 : (dpF (O, D) (tx 0 (.pow t l))).2 = D' := by
        have h2 := hu.2
        simp only [tx]
        rw [dpF_cons, dst_let hO.2.1 (by omega), dpF_cons, dst_op (by omega), dpF_app, eD, dpF_one, dst_cl (by omega) (by omega)]
      have eG : max (max G (C + 1)) (C + 1 + (dcp t : Int)) = max G (C + (dcp (.pow t l) : Int)) := by simp only [dcp]; omega
      rw [eX, eB, eG, show C + 1 - 1 = C by omega, show O + 1 - 1 = O by omega] at s5
      rw [eD2, show C + 1 - 1 = C by omega]
      exact s5
    | _ => simp [holdsT] at g
  · rw [b2i_0, hsy.2.2.1] at g
    cases u with
    | var l =>
      have h2 : vN l < 26 := hu
      refine ⟨_, rfl, p1, rfl, q1.1, 1, Or.inr rfl, ?_⟩
      have eB : B + (bra (tx 0 (.var l)) : Int) = B := by simp only [tx, bra]; rw [if_neg (by omega)]; simp
      have eD2 : (dpF (O, D) (tx 0 (.var l))).2 = D := by simp only [tx]; rw [dpF_one, dst_let hO.2.1 (by omega)]
      have eG : max G (C + (dcp (.var l) : Int)) = G := by simp only [dcp]; omega
      rw [eB, eD2, eG]
      exact q1.2
    | pow t l => simp [holdsT] at g
    | _ => simp [isS] at hs
theorem wrp_sign (u : Tr) (hu : okw u) (hs : isS u = true) (ih : ∀ t l, u = .pow t l → WrP E a t) : WrP E a u := by
  intro e A Bk k y σ i X w B O D C G he hk hF hc hl h hi hw hX hO hC
  obtain ⟨e', rfl⟩ : ∃ e', e = e' + 1 := ⟨e - 1, by omega⟩
  obtain ⟨e2, rfl⟩ : ∃ e2, e' = e2 + 1 := ⟨e' - 1, by omega⟩
  have hp := cC_pos hu
  have hlA : (A ++ (cC u ++ Bk)).length = A.length + ((cC u).length + Bk.length) := by simp
  have hsym : (A ++ (cC u ++ Bk)).getD (A.length : Int).toNat 0 = sy u := by
    rw [cC_sy hu, show ((A.length : Nat) : Int).toNat = A.length by omega]; simp [List.getD_eq_getElem?_getD]
  have hr := sy_r hu
  have ha := (sh_len hc.2.1).1
  have hj : jt (sy u) = false := by rw [jt_isS hu, hs]; rfl
  have htx : tx k u = tx 0 u := by cases u <;> first | rfl | simp [isS] at hs
  have hlf : lf (k == 1) u = true := by cases u <;> first | rfl | simp [isS] at hs
  refine e_Speller_writePart _ _ _ hF ⟨fun q => by omega, fun _ => ⟨by omega, fun q => by omega, fun _ => ⟨hc.2.1, wmi_p (c_Sq_length hc.2) ⟨hF, by omega, by omega, fun _ => ⟨hc.2.1, wmi_p (c_Sq_symbol hc.2 hl (by omega)) ⟨hF, ?_⟩⟩, fun q => by omega⟩⟩⟩⟩
  rw [if_pos (by omega), hsym]
  refine wmi_p (c_S_isJoint (by omega)) ⟨hF, b2i_r _, fun q => ?_, fun q => WMi.mono (l_sign hu hs ih (e2 + 1) A Bk σ i X w B O D C G (by omega) hF hc hl h hi hw hX hO hC) (fun r τ p q2 => ⟨_, rfl, p, ?_⟩)⟩
  · rw [b2i_n0, hj] at q; cases q
  · rw [htx]
    simp only [hlf, and_true]
    exact q2
end CWPart
