/-! WRITEPART -/
theorem WP.mono {E : EV} {M : MI} {d pc : Nat} {ls : List (Nat × AV)} {st : List AV} {σ : St} {Q Q' : Option AV → St → Prop} (h : WP E M d pc ls st σ Q) (hq : ∀ r σ', Q r σ' → Q' r σ') : WP E M d pc ls st σ Q' := by
  obtain ⟨r, σ', h1, h2⟩ := h
  exact ⟨r, σ', h1, hq _ _ h2⟩
section CWAll
variable {E : EV} {a : Int}
/-- how a joint's writing begins -/
theorem wrp_head {u : Tr} {R : Int → St → Prop} (hu : okw u) (hj : jt (sy u) = true) (e : Nat) (A Bk : List Int) (y : Int) (σ : St) (hy : rI y) (hF : Fix σ) (hc : CdB 92 σ a (A ++ (cC u ++ Bk))) (hl : (A ++ (cC u ++ Bk)).length ≤ 1000)
    (k0 : ¬ (sy u = 65 ∧ y = 64) → WP E m_Speller_writePart (e + 2) 82 [(0, aP 31), (1, aP a), (2, aI A.length), (4, aI (sy u)), (5, aI 0)] [] σ (fun r τ => ∃ v, r = some (aI v) ∧ σ.2 <+: τ.2 ∧ R v τ))
    (k1 : sy u = 65 → y = 64 → WMv E m_Speller_writeOpening (e + 1) [aP 31, aI 40] (wr σ 31 4 (σ.1 31 4 + 1)) (fun σ2 => WP E m_Speller_writePart (e + 2) 82 [(0, aP 31), (1, aP a), (2, aI A.length), (4, aI (sy u)), (5, aI 1)] [] σ2 (fun r τ => ∃ v, r = some (aI v) ∧ σ.2 <+: τ.2 ∧ R v τ))) :
    WMi E m_Speller_writePart (e + 2) [aP 31, aP a, aI A.length, aI y] σ R := by
  have hp := cC_pos hu
  have hlA : (A ++ (cC u ++ Bk)).length = A.length + ((cC u).length + Bk.length) := by simp
  have hsym : (A ++ (cC u ++ Bk)).getD (A.length : Int).toNat 0 = sy u := by
    rw [cC_sy hu, show ((A.length : Nat) : Int).toNat = A.length by omega]; simp [List.getD_eq_getElem?_getD]
  have hr := sy_r hu
  have ha := (sh_len hc.2.1).1
  refine e_Speller_writePart _ _ _ hF ⟨fun q => by omega, fun _ => ⟨by omega, fun q => by omega, fun _ => ⟨hc.2.1, wmi_p (c_Sq_length hc.2) ⟨hF, by omega, by omega, fun _ => ⟨hc.2.1, wmi_p (c_Sq_symbol hc.2 hl (by omega)) ⟨hF, ?_⟩⟩, fun q => by omega⟩⟩⟩⟩
  rw [if_pos (by omega), hsym]
  refine wmi_p (c_S_isJoint (by omega)) ⟨hF, b2i_r _, fun _ => ⟨by omega, fun q => ?_, fun q => ⟨hy, fun q2 => ?_, fun q2 => ?_⟩⟩, fun q => by rw [b2i_0] at q; exact absurd hj q⟩
  · exact b_Speller_writePart_58 _ _ _ (b_Speller_writePart_59 _ _ _ _ hF ⟨by decide, fun _ => k0 (fun z => q z.1), fun q3 => absurd rfl q3⟩)
  · exact b_Speller_writePart_58 _ _ _ (b_Speller_writePart_59 _ _ _ _ hF ⟨by decide, fun _ => k0 (fun z => q2 z.2), fun q3 => absurd rfl q3⟩)
  · exact b_Speller_writePart_59 _ _ _ _ hF ⟨by decide, fun q3 => absurd q3 (by decide), fun _ => k1 q q2⟩
theorem wrp_mul {u x z : Tr} (hu : okw u) (hx : okw x) (hz : okw z) (hsy : sy u = 64) (hcu : cC u = sy u :: (cC x ++ cC z)) (hdc : dcp u = max (dcp x) (dcp z)) (htx : ∀ k, tx k u = tx 1 x ++ 42 :: tx 1 z) (hlf : ∀ b, lf b u = lf true x) (ihx : WrP E a x) (ihz : WrP E a z) : WrP E a u := by
  intro e A Bk k y σ i X w B O D C G he hk hF hc hl h hi hw hX hO hC
  have hp := cC_pos hu
  obtain ⟨e', rfl⟩ : ∃ e', e = e' + 2 := ⟨e - 2, by omega⟩
  have hj : jt (sy u) = true := by rw [hsy]; rfl
  have hry : rI y := by omega
  refine wrp_head hu hj e' A Bk y σ hry hF hc hl (fun _ => ?_) (fun q => by omega)
  have h9 := l_joint (E := E) (k' := 1) (mk := 42) hu hx hz hcu (Or.inl ⟨rfl, hsy, rfl⟩) ihx ihz (e' + 1) A Bk σ i X w B O D C G 0 (by omega) hF hc hl h hi hw (by omega) (by omega) hC (Or.inl rfl)
  refine WP.mono h9 (fun r τ hq => ?_)
  obtain ⟨v, g1, g2, g3, g4, w', g5, g6⟩ := hq
  refine ⟨v, g1, g2, g3, g4, w', g5, ?_⟩
  have e1 : ((1 : Nat) == 1) = true := rfl
  have e2 : B + ((bra (tx 1 x ++ 42 :: tx 1 z) : Nat) : Int) = B + bra (tx 1 x) + bra (tx 1 z) := by
    rw [bra_app, bra_cons, if_neg (by decide)]
    omega
  have e3 : max (max G (C + (dcp x : Int))) (C + (dcp z : Int)) = max G (C + ((max (dcp x) (dcp z) : Nat) : Int)) := by omega
  have e4 : (X ++ ((if w = 1 ∧ lf true x = true then [32] else []) ++ tx 1 x) ++ [42] ++ tx 1 z ++ ([] : List Int)) = X ++ ((if w = 1 ∧ lf true x = true then [32] else []) ++ (tx 1 x ++ 42 :: tx 1 z)) := by simp only [List.append_assoc, List.append_nil, List.cons_append, List.nil_append]
  rw [e1, if_pos rfl, if_pos rfl, e3, e4] at g6
  rw [htx, hlf, hdc, e2]
  exact g6
theorem wrp_add {u x z : Tr} (hu : okw u) (hx : okw x) (hz : okw z) (hsy : sy u = 65) (hcu : cC u = sy u :: (cC x ++ cC z)) (hdc : dcp u = max (dcp x) (dcp z)) (htx : tx 1 u = 40 :: (tx 2 x ++ (58 :: (tx 2 z ++ [41])))) (htx2 : ∀ k, k ≠ 1 → tx k u = tx 2 x ++ 58 :: tx 2 z) (hlf : lf true u = false) (hlf2 : lf false u = lf false x) (ihx : WrP E a x) (ihz : WrP E a z) : WrP E a u := by
  intro e A Bk k y σ i X w B O D C G he hk hF hc hl h hi hw hX hO hC
  have hp := cC_pos hu
  obtain ⟨e', rfl⟩ : ∃ e', e = e' + 3 := ⟨e - 3, by omega⟩
  have hj : jt (sy u) = true := by rw [hsy]; rfl
  have hry : rI y := by omega
  have e3 : max (max G (C + (dcp x : Int))) (C + (dcp z : Int)) = max G (C + ((max (dcp x) (dcp z) : Nat) : Int)) := by omega
  refine wrp_head hu hj (e' + 1) A Bk y σ hry hF hc hl (fun q => ?_) (fun q1 q2 => ?_)
  · have hk1 : k ≠ 1 := by omega
    have h9 := l_joint (E := E) (k' := 2) (mk := 58) hu hx hz hcu (Or.inr ⟨rfl, hsy, rfl⟩) ihx ihz (e' + 2) A Bk σ i X w B O D C G 0 (by omega) hF hc hl h hi hw (by omega) (by omega) hC (Or.inl rfl)
    refine WP.mono h9 (fun r τ hq => ?_)
    obtain ⟨v, g1, g2, g3, g4, w', g5, g6⟩ := hq
    refine ⟨v, g1, g2, g3, g4, w', g5, ?_⟩
    have e1 : ((2 : Nat) == 1) = false := rfl
    have e0 : (k == 1) = false := by simp [hk1]
    have e2 : B + ((bra (tx 2 x ++ 58 :: tx 2 z) : Nat) : Int) = B + bra (tx 2 x) + bra (tx 2 z) := by
      rw [bra_app, bra_cons, if_neg (by decide)]
      omega
    have e4 : (X ++ ((if w = 1 ∧ lf false x = true then [32] else []) ++ tx 2 x) ++ [58] ++ tx 2 z ++ ([] : List Int)) = X ++ ((if w = 1 ∧ lf false x = true then [32] else []) ++ (tx 2 x ++ 58 :: tx 2 z)) := by simp only [List.append_assoc, List.append_nil, List.cons_append, List.nil_append]
    rw [e1, if_pos rfl, if_pos rfl, e3, e4] at g6
    rw [htx2 k hk1, e0, hlf2, hdc, e2]
    exact g6
  · obtain rfl : k = 1 := by omega
    have b4 := h.2.2.1
    rw [b4]
    have s1 := (h.set_ (B + 1)).2.1
    have f1 := fr_sp σ 4 (B + 1)
    have F1 := f1.fix hF (by decide)
    refine WMv.mono (c_Speller_writeOpening F1 s1 hi (by omega) (by omega) (by omega)) (fun τ2 p2 r2 => ?_)
    have f2 := f1.tr r2.1
    have F2 := f2.fix hF (by decide)
    have c2 := hc.cf (f2.cf 0 0) spX_lt
    have hX1 : (X ++ [40]).length = X.length + 1 := by simp
    have h9 := l_joint (E := E) (k' := 2) (mk := 58) hu hx hz hcu (Or.inr ⟨rfl, hsy, rfl⟩) ihx ihz (e' + 2) A Bk τ2 i (X ++ [40]) 0 (B + 1) (O + 1) (max D (O + 1)) C G 1 (by omega) F2 c2 hl r2.2 hi (Or.inl rfl) (by omega) (by omega) hC (Or.inr rfl)
    refine WP.mono h9 (fun r τ hq => ?_)
    obtain ⟨v, g1, g2, g3, g4, w', g5, g6⟩ := hq
    refine ⟨v, g1, (pre_eq f2.1).trans g2, g3, f2.tr g4, w', g5, ?_⟩
    obtain ⟨D1, eD1, gD1, gD1'⟩ := dpT hx 2 (O + 1) (max D (O + 1)) (by omega)
    obtain ⟨D2, eD2, gD2, gD2'⟩ := dpT hz 2 (O + 1) D1 (by omega)
    have eT : (dpF (O + 1, max D (O + 1)) (tx 2 x ++ 58 :: tx 2 z)).2 = D2 := by
      rw [dpF_app, eD1, dpF_cons, dst_let (by omega) (by decide), eD2]
    have eU : (dpF (O, D) (40 :: (tx 2 x ++ (58 :: (tx 2 z ++ [41]))))).2 = D2 := by
      rw [dpF_cons, dst_op (Or.inl rfl), dpF_app, eD1, dpF_cons, dst_let (by omega) (by decide), dpF_app, eD2, dpF_one, dst_cl (by omega) (Or.inl rfl)]
    have e2 : B + ((bra (40 :: (tx 2 x ++ (58 :: (tx 2 z ++ [41])))) : Nat) : Int) = B + 1 + bra (tx 2 x) + bra (tx 2 z) := by
      rw [bra_cons, if_pos rfl, bra_app, bra_cons, if_neg (by decide), bra_app]
      have : bra [41] = 0 := rfl
      omega
    have e4 : (X ++ [40] ++ (([] : List Int) ++ tx 2 x) ++ [58] ++ tx 2 z ++ [41]) = X ++ (([] : List Int) ++ (40 :: (tx 2 x ++ (58 :: (tx 2 z ++ [41]))))) := by simp only [List.append_assoc, List.append_nil, List.cons_append, List.nil_append]
    have e5 : ((1 : Nat) == 1) = true := rfl
    rw [if_neg (show ¬ ((0 : Int) = 1 ∧ lf ((2 : Nat) == 1) x = true) from fun z => absurd z.1 (by decide)), if_neg (show ¬ (1 : Int) = 0 by decide), if_neg (show ¬ (1 : Int) = 0 by decide), e3, e4, eT, show O + 1 - 1 = O by omega] at g6
    rw [htx, e5, hlf, if_neg (show ¬ (w = 1 ∧ false = true) from fun z => absurd z.2 (by decide)), hdc, e2, eU]
    exact g6
theorem c_Speller_writePart {u : Tr} (hu : okw u) : WrP E a u := by
  induction u with
  | var l => exact wrp_sign _ hu rfl (fun t l q => by cases q)
  | pow t l ih => exact wrp_sign _ hu rfl (fun t' l' q => by cases q; exact ih hu.1)
  | mul x z ihx ihz => exact wrp_mul hu hu.1 hu.2 rfl rfl rfl (fun _ => rfl) (fun _ => rfl) (ihx hu.1) (ihz hu.2)
  | add x z ihx ihz => exact wrp_add hu hu.1 hu.2 rfl rfl rfl rfl (fun k hk => by simp only [tx]; rw [if_neg hk]) rfl rfl (ihx hu.1) (ihz hu.2)
  | _ => exact absurd hu (by simp [okw])
end CWAll
