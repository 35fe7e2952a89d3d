/-! ON THE MACHINE: System.arraycopy, Arrays.copyOf -/
theorem Enc_upd {E : EV} {σ : St} {H H1 : Heap} {a : Int} {k n : Nat} {f : Int → Int} (hE : Enc E σ H) (hs : sh σ a = some (k, n)) (hz : H1.size = H.size) (ho : ∀ q, q ≠ eA E a → H1[q]? = H[q]?) (hc : cellOK E k n (eA E a) f H1) : Enc E (fun b j => if b = a then f j else σ.1 b j, σ.2) H1 := by
  obtain ⟨h0, h1⟩ := sh_pos hs
  obtain ⟨e1, e2, e3⟩ := hE
  refine ⟨by rw [hz]; exact e1, fun q hq => ?_, fun i' k' n' h' => ?_⟩
  · rw [ho q (by unfold eA; omega)]
    exact e2 q hq
  · have h'' : σ.2[i']? = some (k', n') := h'
    by_cases hi : i' = (a - 1).toNat
    · subst hi
      rw [h1] at h''
      cases h''
      have e4 : (((a - 1).toNat : Nat) : Int) + 1 = a := by omega
      simp only [e4]
      exact hc
    · have h4 := (e3 i' k' n' h'').kept (H1 := H1) (ho _ (by unfold eA; omega))
      have e5 : ¬ ((i' : Int) + 1 = a) := by omega
      simp only [e5]
      exact h4
def cpy (σ : St) (a c : Int) (n : Nat) : St := (fun b j => if b = c then (if 0 ≤ j ∧ j < n then σ.1 a j else σ.1 c j) else σ.1 b j, σ.2)
section CMach
variable {E : EV} {M : MI} {d pc : Nat} {ls : List (Nat × AV)} {st : List AV} {σ : St} {Q : Option AV → St → Prop}
theorem s_arraycopy {a c : Int} {n na nc idx : Nat} (hd : decode M.2.1 pc = .ok (.invokestatic idx, 3)) (w0 : Cond.methodLink M.1.cls idx arraycopyName ∈ lw_tbl) (w1 : Cond.native arraycopyName ∈ lw_tbl) (w2 : Cond.static arraycopyName ∈ lw_tbl) (w3 : Cond.initialized "java/lang/System" ∈ lw_tbl)
    (hs : sh σ a = some (21, na)) (hc : sh σ c = some (21, nc)) (h1 : n ≤ na) (h2 : n ≤ nc) (h3 : n ≤ 1000) (hf : ∀ i : Nat, i < n → -128 ≤ σ.1 a i ∧ σ.1 a i ≤ 127) (hW : (st.map (fun a => if a.1 = 1 then 2 else 1)).sum ≤ 8) (k : WP E M (d + 1) (pc + 3) ls st (cpy σ a c n) Q) : WP E M (d + 1) pc ls (aI n :: aI 0 :: aP c :: aI 0 :: aP a :: st) σ Q := by
  obtain ⟨r, σ', ⟨k1, k2⟩, k3⟩ := k
  refine ⟨r, σ', ⟨k1, fun σ0 hp p e s m args below meth cc hM H locs lsA hE hlo hl => ?_⟩, k3⟩
  have k4 := fun H1 locs1 hE1 hlo1 => k2 σ0 hp p e s m args below meth cc hM H1 locs1 lsA hE1 hlo1 hl
  obtain ⟨hx, hb, hml, hr, hown, hts, hlk, hnam, hEn⟩ := hM
  show W p E.1 e _ s m args below meth cc H locs _ _ _ (F0 m pc lsA (.int (Int32.ofInt n) :: .int (Int32.ofInt 0) :: eR E c :: .int (Int32.ofInt 0) :: eR E a :: eS E st))
  rw [eR_pos E (sh_pos hs).1, eR_pos E (sh_pos hc).1]
  intro T hT X
  have c0 := hE.arr hs (by decide)
  have c1 := hE.arr hc (by decide)
  have en : (Int32.ofInt (n : Int)).toNatClampNeg = n := by rw [tN (by omega) (by omega)]; omega
  have e0 : (Int32.ofInt 0).toNatClampNeg = 0 := by rw [tN (by omega) (by omega)]; rfl
  obtain ⟨-, q0, hq0, cm0, hk0⟩ := (hEn.2.1 21 (by decide) (by decide)).1 na (fun j => eV E (vtag 21 j, σ.1 a j))
  obtain ⟨-, q1, hq1, cm1, hk1⟩ := (hEn.2.1 21 (by decide) (by decide)).1 nc (fun j => eV E (vtag 21 j, σ.1 c j))
  obtain ⟨vm', X', step⟩ := X.arraycopy hx hown (hts _ (lg_mem w0 rfl)) (hts _ (lg_mem w1 rfl)) (hts _ (lg_mem w2 rfl)) (hts _ (lg_mem w3 rfl)) (src := eA E a) (dst := eA E c) (srcPos := Int32.ofInt 0) (destPos := Int32.ofInt 0) (n := Int32.ofInt n) (by rw [hT]; exact c0) (by rw [hT]; exact c1)
    (fun _ h => by cases h) (fun _ h => by cases h) (fun h => by cases h) (fun h => by cases h) hq0 hq1 hk0 hk1 (by decide) (by decide) (by decide) (by rw [z0, ltI ⟨by omega, by omega⟩ r0]; omega)
    (by rw [tI r0, tI ⟨by omega, by omega⟩, arrV_size]; omega)
    (by rw [tI r0, tI ⟨by omega, by omega⟩, arrV_size]; omega)
    (fun vm₁ _ i hi => by
      rw [en] at hi
      have e : (arrV (E.2.2.2.2.1 21) na (fun j => eV E (vtag 21 j, σ.1 a j))).slots.getD ((Int32.ofInt 0).toNatClampNeg + i) .null = .int (Int32.ofInt (σ.1 a i)) := by
        rw [e0, Array.getD_eq_getD_getElem?, arrV_read _ _ (by omega), Nat.zero_add]
        rfl
      rw [e]
      refine ⟨?_, trivial⟩
      have hb2 := hf i hi
      show (decide (-128 ≤ Int32.ofInt (σ.1 a i)) && decide (Int32.ofInt (σ.1 a i) ≤ 127)) = true
      have g1 : (-128 : Int32) ≤ Int32.ofInt (σ.1 a i) := Int32.le_iff_toInt_le.mpr (by rw [tI ⟨by omega, by omega⟩]; exact hb2.1)
      have g2 : Int32.ofInt (σ.1 a i) ≤ (127 : Int32) := Int32.le_iff_toInt_le.mpr (by rw [tI ⟨by omega, by omega⟩]; exact hb2.2)
      simp [g1, g2])
    (g := F0 m pc lsA (.int (Int32.ofInt n) :: .int (Int32.ofInt 0) :: .ref (eA E c) :: .int (Int32.ofInt 0) :: .ref (eA E a) :: eS E st)) rfl (by rw [hml]; exact hl.1) (rest := eS E st) rfl (by rw [hb]; exact hd) (by show 1 ≤ d + 1; omega)
    (by
      rw [eS_cat]
      have hnw : nativeFrameWords "java/lang/System" "arraycopy" 5 + 11 ≤ 72 := by decide
      show 2 * 0 + _ + _ ≤ 80 * (d + 1)
      omega)
  have hcp : copied (arrV (E.2.2.2.2.1 21) na (fun j => eV E (vtag 21 j, σ.1 a j))) (arrV (E.2.2.2.2.1 21) nc (fun j => eV E (vtag 21 j, σ.1 c j))) (Int32.ofInt 0) (Int32.ofInt 0) (Int32.ofInt n) = arrV (E.2.2.2.2.1 21) nc (fun j => eV E (vtag 21 j, (fun i : Int => if 0 ≤ i ∧ i < n then σ.1 a i else σ.1 c i) j)) := by
    have h9 := va_copied (n0 := na) (n1 := nc) (sp := 0) (dp := 0) (n := n) (fun v : Int => Value.int (Int32.ofInt v)) (E.2.2.2.2.1 21) (E.2.2.2.2.1 21) (fun j => σ.1 a j) (fun j => σ.1 c j) (by omega)
    show Cell.storeRun _ _ _ = _
    rw [en, e0]
    refine Eq.trans h9 ?_
    congr 1
    funext j
    show Value.int (Int32.ofInt (va_cpy _ _ 0 0 n j)) = Value.int (Int32.ofInt _)
    congr 2
    unfold va_cpy
    show (if 0 ≤ j ∧ j < 0 + n then σ.1 a ((0 + (j - 0) : Nat) : Int) else σ.1 c j) = (if 0 ≤ (j : Int) ∧ (j : Int) < n then σ.1 a j else σ.1 c j)
    by_cases hj : j < n
    · rw [if_pos (by omega), if_pos (by omega)]; simp
    · rw [if_neg (by omega), if_neg (by omega)]
  rw [hcp] at X' step
  have hl1 : eA E c < H.size := (Array.getElem?_eq_some_iff.mp c1).1
  have hheap : ∀ cell, ((T.setVm vm').setCell (eA E c) cell).heap = H.setIfInBounds (eA E c) cell := fun cell => by rw [← hT]; rfl
  obtain ⟨t, a1, b1⟩ := k4 _ _ (Enc_upd hE hc (by rw [Array.size_setIfInBounds]) (fun q hq => by simp [Array.getElem?_setIfInBounds, Ne.symm hq]) (show cellOK E 21 nc (eA E c) (fun i : Int => if 0 ≤ i ∧ i < n then σ.1 a i else σ.1 c i) (H.setIfInBounds (eA E c) (arrV (E.2.2.2.2.1 21) nc (fun j => eV E (vtag 21 j, (fun i : Int => if 0 ≤ i ∧ i < n then σ.1 a i else σ.1 c i) j)))) by
    unfold cellOK
    rw [if_neg (by decide)]
    simp [Array.getElem?_setIfInBounds, hl1])) (fun q hq => by
      rcases List.mem_append.mp hq with h | h
      · exact hlo q h
      · obtain ⟨z, -, hz⟩ := List.mem_map.mp h
        rw [← hz]
        exact Nat.le_add_right _ _) _ (hheap _) X'
  exact ⟨t, step t a1, b1⟩
end CMach
theorem lk_Arrays_150 : Cond.methodLink "java/util/Arrays" 150 arraycopyName ∈ lw_tbl := tm_3 (List.mem_of_getElem? (i := 34) rfl)
theorem lk_ac_s : Cond.static arraycopyName ∈ lw_tbl := tm_3 (List.mem_of_getElem? (i := 35) rfl)
theorem lk_ac_n : Cond.native arraycopyName ∈ lw_tbl := tm_3 (List.mem_of_getElem? (i := 36) rfl)
theorem lk_System_i : Cond.initialized "java/lang/System" ∈ lw_tbl := tm_1 (List.mem_of_getElem? (i := 17) rfl)
theorem lm_Arrays_304 : Cond.methodLink "java/util/Arrays" 304 Lib.Math.min.name ∈ lw_tbl := tm_3 (List.mem_of_getElem? (i := 33) rfl)
section CCopy
theorem d_ac_0 : decode m_Arrays_copyOf.2.1 0 = .ok (.iload_n 1, 1) := by decide +kernel
theorem d_ac_1 : decode m_Arrays_copyOf.2.1 1 = .ok (.aload_n 0, 1) := by decide +kernel
theorem d_ac_2 : decode m_Arrays_copyOf.2.1 2 = .ok (.arraylength, 1) := by decide +kernel
theorem d_ac_3 : decode m_Arrays_copyOf.2.1 3 = .ok (.if_icmp .ne 11, 3) := by decide +kernel
theorem d_ac_14 : decode m_Arrays_copyOf.2.1 14 = .ok (.iload_n 1, 1) := by decide +kernel
theorem d_ac_15 : decode m_Arrays_copyOf.2.1 15 = .ok (.newarray .byte, 2) := by decide +kernel
theorem d_ac_17 : decode m_Arrays_copyOf.2.1 17 = .ok (.astore_n 2, 1) := by decide +kernel
theorem d_ac_18 : decode m_Arrays_copyOf.2.1 18 = .ok (.aload_n 0, 1) := by decide +kernel
theorem d_ac_19 : decode m_Arrays_copyOf.2.1 19 = .ok (.iconst 0, 1) := by decide +kernel
theorem d_ac_20 : decode m_Arrays_copyOf.2.1 20 = .ok (.aload_n 2, 1) := by decide +kernel
theorem d_ac_21 : decode m_Arrays_copyOf.2.1 21 = .ok (.iconst 0, 1) := by decide +kernel
theorem d_ac_22 : decode m_Arrays_copyOf.2.1 22 = .ok (.aload_n 0, 1) := by decide +kernel
theorem d_ac_23 : decode m_Arrays_copyOf.2.1 23 = .ok (.arraylength, 1) := by decide +kernel
theorem d_ac_24 : decode m_Arrays_copyOf.2.1 24 = .ok (.iload_n 1, 1) := by decide +kernel
theorem d_ac_25 : decode m_Arrays_copyOf.2.1 25 = .ok (.invokestatic 304, 3) := by decide +kernel
theorem d_ac_28 : decode m_Arrays_copyOf.2.1 28 = .ok (.invokestatic 150, 3) := by decide +kernel
theorem d_ac_31 : decode m_Arrays_copyOf.2.1 31 = .ok (.aload_n 2, 1) := by decide +kernel
theorem d_ac_32 : decode m_Arrays_copyOf.2.1 32 = .ok (.areturn, 1) := by decide +kernel
theorem c_Arrays_copyOf {E : EV} {d : Nat} {σ : St} {a : Int} {na n : Nat} (hs : sh σ a = some (21, na)) (hn : n < na) (h3 : na ≤ 1000) (hf : ∀ i : Nat, i < n → -128 ≤ σ.1 a i ∧ σ.1 a i ≤ 127) : WMr E m_Arrays_copyOf (d + 1) [aP a, aI n] σ (fun r τ => r = nx σ ∧ τ = cpy (al σ 21 n) a (nx σ) n) := by
  have hl := sh_len hs
  refine s_m ?_
  refine s_iload_n 1 d_ac_0 rfl rfl ?_
  refine s_aload_n 0 d_ac_1 rfl rfl ?_
  refine s_alen (by decide) d_ac_2 hs ?_
  refine s_icmp_ne d_ac_3 (tgt := 14) rfl (by omega) (by omega) (fun _ => ?_) (fun c => by omega)
  refine s_iload_n 1 d_ac_14 rfl rfl ?_
  refine s_newarray (kd := 21) d_ac_15 (by decide) ac_21 (by omega) ?_
  refine s_astore_n d_ac_17 rfl (by decide) rfl ?_
  refine s_aload_n 1 d_ac_18 rfl rfl ?_
  refine s_iconst d_ac_19 ?_
  refine s_aload_n 0 d_ac_20 rfl rfl ?_
  refine s_iconst d_ac_21 ?_
  refine s_aload_n 1 d_ac_22 rfl rfl ?_
  refine s_alen (by decide) d_ac_23 (sh_al hs) ?_
  refine s_iload_n 2 d_ac_24 rfl rfl ?_
  refine s_mmin d_ac_25 lm_Arrays_304 lm_min_s lm_i lm_min_c (Nat.le_of_ble_eq_true rfl) (by omega) (by omega) ?_
  rw [show min (na : Int) (n : Int) = n by omega, show (n : Int).toNat = n by omega]
  refine s_arraycopy d_ac_28 lk_Arrays_150 lk_ac_n lk_ac_s lk_System_i (sh_al hs) (sh_nx _ _ _) (by omega) (by omega) (by omega) (fun i hi => by rw [al_old (by omega)]; exact hf i hi) (Nat.le_of_ble_eq_true rfl) ?_
  refine s_aload_n 0 d_ac_31 rfl rfl ?_
  exact s_areturn d_ac_32 rfl (Or.inr ⟨_, rfl⟩) ⟨_, rfl, List.prefix_append _ _, rfl, rfl⟩
end CCopy
