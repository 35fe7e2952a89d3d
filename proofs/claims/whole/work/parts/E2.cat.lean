/-! AT, SMALLEST -/
theorem lastI_none {p : Tr × Qd → Bool} : ∀ (L : List (Tr × Qd)) (o b : Int), (∀ y ∈ L, p y = false) → lastI p L o b = b
  | [], _, _, _ => rfl
  | z :: L, o, b, h => by
    simp only [lastI]
    rw [h z List.mem_cons_self, if_neg (by decide)]
    exact lastI_none L _ _ (fun y hy => h y (List.mem_cons_of_mem _ hy))
theorem lastI_hit {p : Tr × Qd → Bool} {z : Tr × Qd} {B : List (Tr × Qd)} (hz : p z = true) (hB : ∀ y ∈ B, p y = false) : ∀ (A : List (Tr × Qd)) (o b : Int), lastI p (A ++ z :: B) o b = o + A.length
  | [], o, b => by
    simp only [List.nil_append, lastI]
    rw [hz, if_pos rfl, lastI_none B _ _ hB]
    simp
  | y :: A, o, b => by
    simp only [List.cons_append, lastI]
    rw [lastI_hit hz hB A]
    simp only [List.length_cons]
    omega
theorem rat_cmp {S D S' D' : Int} (h : 0 < D) (h' : 0 < D') : Rat.divInt S D ≤ Rat.divInt S' D' ↔ S * D' ≤ S' * D := by
  obtain ⟨G, g1, g2, g3, -⟩ := rat_red (n := S) h
  obtain ⟨K, k1, k2, k3, -⟩ := rat_red (n := S') h'
  rw [Rat.le_iff]
  generalize (Rat.divInt S D).num = n at *
  generalize ((Rat.divInt S D).den : Int) = e at *
  generalize (Rat.divInt S' D').num = m at *
  generalize ((Rat.divInt S' D').den : Int) = f at *
  have e1 : S * D' = n * f * ((G : Int) * K) := by
    rw [g2, k3, Int.mul_assoc, Int.mul_assoc]; congr 1; rw [Int.mul_left_comm]
  have e2 : S' * D = m * e * ((G : Int) * K) := by
    rw [k2, g3, Int.mul_assoc, Int.mul_assoc]; congr 1; rw [Int.mul_left_comm, Int.mul_comm (K : Int)]
  have hp : 0 < (G : Int) * K := Int.mul_pos (by omega) (by omega)
  rw [e1, e2]
  exact ⟨fun q => Int.mul_le_mul_of_nonneg_right q (by omega), fun q => Int.le_of_mul_le_mul_right q hp⟩
section CAt
variable {E : EV} {d : Nat} {σ : St} {b : Int} {T : Tb} {M : Mo} {P : List Mo} {tp : List Int} {t : Tr} {mr : Bool}
theorem hit_ax {X s D x n : Int} : ((X - s) * n ≤ x * (2 * D) ∧ x * (2 * D) ≤ (X - s + s * 2) * n) ↔ ¬ s * n < max (2 * D * x - X * n) (-(2 * D * x - X * n)) := by
  have e1 : (X - s) * n = X * n - s * n := Int.sub_mul _ _ _
  have e2 : (X - s + s * 2) * n = X * n + s * n := by rw [show X - s + s * 2 = X + s by omega, Int.add_mul]
  have e3 : x * (2 * D) = 2 * D * x := Int.mul_comm _ _
  rw [e1, e2, e3]
  generalize X * n = B
  generalize s * n = C
  generalize 2 * D * x = A
  omega
theorem c_S_isPoint {x : Int} (hx : rI x) : WMi E m_S_isPoint d [aI x] σ (fun r τ => r = b2i (-10000 ≤ x ∧ x ≤ 10000) ∧ τ = σ) :=
  e_S_isPoint _ ⟨hx, fun q => ri_p (b2i_f (by omega)).symm, fun q => ⟨hx, fun q2 => ri_p (b2i_f (by omega)).symm, fun q2 => ri_p (b2i_t (by omega)).symm⟩⟩
set_option maxRecDepth 8000 in
theorem c_Layout_reaches {j : Nat} {x y n : Int} {z : Tr × Qd} (hF : Fix σ) (hL : Laid σ T M mr t) (hT : okTab T) (hk : okMo T M) (ht : okS T t) (hz : (zC T M.2.1 (rootQ T M t) t)[j]? = some z) (hx : -10000 ≤ x ∧ x ≤ 10000) (hy : -10000 ≤ y ∧ y ≤ 10000) (hn : 1 ≤ n ∧ n ≤ 100) : WMi E m_Layout_reaches (d + 1) [aP 23, aI j, aI x, aI y, aI n] σ (fun r τ => r = b2i (hit T M.2.1 M.1 mr x y n z = true) ∧ τ = σ) := by
  have hcc := ht.cc
  have hj : j < (cC t).length := by rw [← zC_len (T := T) (g := M.2.1) hcc.1 (rootQ T M t)]; exact (List.getElem?_eq_some_iff.mp hz).1
  have hb := zC_n hT hk ht hz
  have h7 := hL.1
  obtain ⟨⟨a1, a2⟩, ⟨a3, a4⟩, a5, a6⟩ := hL.2 j z hz
  have hj2 : (0 : Int) ≤ j ∧ (j : Int) < 24 := by omega
  have hX : 0 ≤ σ.1 29 j ∧ σ.1 29 j ≤ 22413546288 := by rw [a5]; split <;> omega
  have hlf : lfX T M.2.1 M.1 mr z = σ.1 29 j - z.2.1 * wid T M.2.1 z.1 := by
    rw [a5]
    unfold lfX
    cases mr <;> rfl
  have hit_i : hit T M.2.1 M.1 mr x y n z = true ↔ (¬ z.2.1 * wid T M.2.1 z.1 * n < max (2 * z.2.2.1 * x - σ.1 29 j * n) (-(2 * z.2.2.1 * x - σ.1 29 j * n))) ∧ ¬ z.2.1 * hei T M.2.1 z.1 * n < max (2 * z.2.2.1 * y - z.2.2.2.2 * n) (-(2 * z.2.2.1 * y - z.2.2.2.2 * n)) := by
    unfold hit
    rw [decide_eq_true_iff, hlf, Int.mul_comm (wid T M.2.1 z.1) z.2.1, Int.mul_comm (hei T M.2.1 z.1) z.2.1, hit_ax, hit_ax]
  have r1 := mul_bd (a := x) (b := 2 * z.2.2.1) (A := 10000) (B := 933897762) hx (by omega) (by omega)
  have r2 := mul_bd (a := y) (b := 2 * z.2.2.1) (A := 10000) (B := 933897762) hy (by omega) (by omega)
  rw [Int.mul_comm x, Int.mul_comm y] at *
  have r3 := mul_bd (a := σ.1 29 j) (b := n) (A := 22413546288) (B := 100) (by omega) (by omega) (by omega)
  have r4 := mul_bd (a := z.2.2.2.2) (b := n) (A := 22413546288) (B := 100) (by omega) (by omega) (by omega)
  have r5 := mul_bd (a := z.2.1 * wid T M.2.1 z.1) (b := n) (A := 22413546288) (B := 100) (by omega) (by omega) (by omega)
  have r6 := mul_bd (a := z.2.1 * hei T M.2.1 z.1) (b := n) (A := 22413546288) (B := 100) (by omega) (by omega) (by omega)
  have hj3 : rI (j : Int) := by omega
  have hj4 : ¬ (j : Int) < 0 := by omega
  have hj5 : rI (σ.1 23 7) := by omega
  have hj6 : (j : Int) < σ.1 23 7 := by omega
  refine e_Layout_reaches _ _ _ _ hF ?_
  refine ⟨hj3, fun q => absurd q hj4, fun _ => ?_⟩
  refine ⟨hj3, hj5, fun _ => ?_, fun q => absurd hj6 q⟩
  rw [a1, a2, a3, a4, a6]
  generalize z.2.1 * wid T M.2.1 z.1 * n = C1 at *
  generalize z.2.1 * hei T M.2.1 z.1 * n = C2 at *
  generalize 2 * z.2.2.1 * x = A1 at *
  generalize 2 * z.2.2.1 * y = A2 at *
  generalize z.2.2.2.2 * n = B2 at *
  generalize σ.1 29 j * n = B1 at *
  refine ⟨hj2, by omega, hj2, by omega, by unfold rL; omega, hj2, by omega, hj2, by omega, by unfold rL; omega, hj2, hj2, by omega, by omega, by unfold rL; omega, by unfold rL; omega, fun q => ri_p (b2i_f (fun w => (hit_i.mp w).1 q)).symm, fun q => ⟨hj2, hj2, by omega, by omega, by unfold rL; omega, by unfold rL; omega, fun q2 => ri_p (b2i_f (fun w => (hit_i.mp w).2 q2)).symm, fun q2 => ri_p (b2i_t (hit_i.mpr ⟨q, q2⟩)).symm⟩⟩
theorem c_S_at {l s x y n : Int} (h : CS σ b T M P tp) (hT : okTab T) (hk : okMo T M) (h1 : rI l) (h2 : rI s) (h3 : rI x) (h4 : rI y) (h5 : rI n) : WMi E m_S_at (d + 7) [aP 1, aI l, aI s, aI x, aI y, aI n] σ (fun r τ => r = sp_at T M l s x y n ∧ Fr cX σ τ) := by
  have hF := h.1.1
  refine e_S_at _ _ _ _ _ hF (WMr.mono (c_S_squareAt h hk h1 h2) (fun r τ _ hq' => ?_))
  obtain ⟨hq1, rfl⟩ := hq'
  rcases sq_cases M l s with ⟨L, t, hl, hs, hst⟩ | ⟨hn, hor⟩
  · rw [hst] at hq1
    have hkL := (hk.ln hl).1
    have hok := (hkL.sq hs).1
    have hcc := hok.cc
    have hsq := hq1.2
    have hsp : sp_at T M l s x y n = if (-10000 ≤ x ∧ x ≤ 10000) ∧ (-10000 ≤ y ∧ y ≤ 10000) ∧ 1 ≤ n ∧ n ≤ 100 then lastI (hit T M.2.1 M.1 L.1 x y n) (sLR T M t) 0 (-2) else -1 := by unfold sp_at; simp only [hl, hs]
    have no : ¬ ((-10000 ≤ x ∧ x ≤ 10000) ∧ (-10000 ≤ y ∧ y ≤ 10000) ∧ 1 ≤ n ∧ n ≤ 100) → ∃ v, some (aI (-1)) = some (aI v) ∧ τ.2 <+: τ.2 ∧ v = sp_at T M l s x y n ∧ Fr cX τ τ := fun q => ⟨_, rfl, List.prefix_refl _, by rw [hsp, if_neg q], Fr.refl _ _⟩
    refine ⟨hF, fun q => absurd q hq1.1, fun _ => ⟨h5, fun q => no (by omega), fun q => ⟨h5, fun q2 => no (by omega), fun q2 => wmi_p (c_S_isPoint h3) ⟨hF, b2i_r _, fun q3 => ?_, fun q3 => wmi_p (c_S_isPoint h4) ⟨hF, b2i_r _, fun q4 => ?_, fun q4 => ?_⟩⟩⟩⟩⟩
    · rw [b2i_0] at q3; exact no (fun z => q3 z.1)
    · rw [b2i_n0] at q3 q4
      refine WMr.mono (c_S_laidOut h hT hk h1 hl hsq hcc.1 (by omega)) (fun r2 τ2 hp2 hq2 => ?_)
      obtain ⟨rfl, f2, L2⟩ := hq2
      have F2 := f2.fix hF (by decide)
      have f2' : Fr cX τ τ2 := f2.mono (by decide)
      have c2 := hsq.cf (f2.cf 0 0) (imX_lt rfl h.1.2.1)
      rw [hsp, if_pos ⟨q3, q4, by omega, by omega⟩]
      refine ⟨c2.2.1, wmi_p (c_Sq_length c2.2) ?_⟩
      have zl := zC_len (T := T) (g := M.2.1) hcc.1 (rootQ T M t)
      have hsL := zC_sL (T := T) (g := M.2.1) hcc.1 (rootQ T M t)
      refine lpd 0 (fun k υ => WP E m_S_at (d + 7) 61 [(3, aI x), (4, aI y), (5, aI n), (6, aP r), (7, aP 23), (8, aI k)] [] υ (fun r σ' => ∃ v, r = some (aI v) ∧ τ.2 <+: σ'.2 ∧ v = lastI (hit T M.2.1 M.1 L.1 x y n) (sLR T M t) 0 (-2) ∧ Fr cX τ σ')) (fun k υ => ((-1 ≤ k ∧ k < (cC t).length) ∧ ∀ (j : Nat) (z : Tr × Qd), k < j → (zC T M.2.1 (rootQ T M t) t)[j]? = some z → isS z.1 = true → hit T M.2.1 M.1 L.1 x y n z = false) ∧ υ = τ2) (fun k υ hI ih => ?_) _ _ ⟨⟨by omega, fun j z q5 q6 => by have := (List.getElem?_eq_some_iff.mp q6).1; omega⟩, rfl⟩
      obtain ⟨⟨i1, i2⟩, rfl⟩ := hI
      refine b_S_at_61 _ _ _ _ _ _ ⟨by omega, fun q5 => ⟨_, rfl, hp2, ?_, f2'⟩, fun q5 => ⟨c2.2.1, wmi_p (c_Sq_symbol c2.2 (by omega) (by omega)) ?_⟩⟩
      · show -2 = lastI (hit T M.2.1 M.1 L.1 x y n) (sL T M.2.1 (rootQ T M t) t) 0 (-2)
        rw [lastI_none _ _ _ (fun z hz => ?_)]
        rw [← hsL, List.mem_filter] at hz
        obtain ⟨j, hj⟩ := List.getElem?_of_mem hz.1
        exact i2 j z (by omega) hj hz.2
      · obtain ⟨m, rfl⟩ : ∃ m : Nat, k = m := ⟨k.toNat, by omega⟩
        obtain ⟨z, hz⟩ : ∃ z, (zC T M.2.1 (rootQ T M t) t)[m]? = some z := ⟨_, List.getElem?_eq_getElem (by omega)⟩
        have hu : (sbC t)[m]? = some z.1 := by rw [← zC_fst T M.2.1 t (rootQ T M t), List.getElem?_map, hz]; rfl
        have hsy := sbC_sy hcc.1 hu
        have uok := (sbC_at hcc.1 hu).1
        have hr := sy_r uok
        rw [if_pos (by omega), show ((m : Nat) : Int).toNat = m by omega, List.getD_eq_getElem?_getD, hsy, Option.getD_some]
        have nxt : (isS z.1 = true → hit T M.2.1 M.1 L.1 x y n z = false) → WP E m_S_at (d + 7) 102 [(3, aI x), (4, aI y), (5, aI n), (6, aP r), (7, aP 23), (8, aI m)] [] υ (fun r σ' => ∃ v, r = some (aI v) ∧ τ.2 <+: σ'.2 ∧ v = lastI (hit T M.2.1 M.1 L.1 x y n) (sLR T M t) 0 (-2) ∧ Fr cX τ σ') := by
          intro hno
          refine b_S_at_102 _ _ _ _ _ _ (ih (by omega) υ ⟨⟨by omega, fun j w q6 q7 q8 => ?_⟩, rfl⟩)
          by_cases e : j = m
          · subst e
            rw [hz] at q7
            cases q7
            exact hno q8
          · exact i2 j w (by omega) q7 q8
        refine wmi_p (c_S_isJoint (by omega)) ⟨b2i_r _, fun q6 => ?_, fun q6 => ⟨sf_23 F2, wmi_p (c_Layout_reaches F2 L2 hT hk hok hz q3 q4 (by omega)) ⟨b2i_r _, fun q7 => ?_, fun q7 => ⟨c2.2.1, wmi_p (c_Sq_numberAt c2.2 (by omega) (cC_sym hcc.1) (by omega)) ⟨_, rfl, hp2, ?_, f2'⟩⟩⟩⟩⟩
        · rw [b2i_n0, jt_isS uok] at q6
          exact nxt (fun q => by rw [q] at q6; cases q6)
        · rw [b2i_0] at q7
          exact nxt (fun _ => by simpa using q7)
        · rw [b2i_0, jt_isS uok] at q6
          have hS : isS z.1 = true := by simpa using q6
          rw [b2i_n0] at q7
          have hZ : zC T M.2.1 (rootQ T M t) t = (zC T M.2.1 (rootQ T M t) t).take m ++ z :: (zC T M.2.1 (rootQ T M t) t).drop (m + 1) := by
            have hh := List.getElem?_eq_some_iff.mp hz
            rw [← hh.2, List.getElem_cons_drop, List.take_append_drop]
          have hsplit : sL T M.2.1 (rootQ T M t) t = ((zC T M.2.1 (rootQ T M t) t).take m).filter (fun z => isS z.1) ++ z :: ((zC T M.2.1 (rootQ T M t) t).drop (m + 1)).filter (fun z => isS z.1) := by
            conv => lhs; rw [← hsL, hZ]
            rw [List.filter_append, List.filter_cons_of_pos (p := fun z : Tr × Qd => isS z.1) hS]
          show _ = lastI (hit T M.2.1 M.1 L.1 x y n) (sL T M.2.1 (rootQ T M t) t) 0 (-2)
          rw [hsplit, lastI_hit q7 (fun w hw => ?_), zC_cnt hcc.1, show ((m : Nat) : Int).toNat = m by omega]
          · omega
          · obtain ⟨hw1, hw2⟩ := List.mem_filter.mp hw
            obtain ⟨j, hj⟩ := List.getElem?_of_mem hw1
            rw [List.getElem?_drop] at hj
            exact i2 (m + 1 + j) w (by omega) hj hw2
    · rw [b2i_0] at q4; exact no (fun z => q4 z.2.1)
  · rw [hn] at hq1
    have hno : sp_at T M l s x y n = -1 := by
      unfold sp_at
      rcases hor with e | ⟨L, e1, e2⟩
      · simp only [e]
      · simp only [e1, e2]
    exact ⟨hF, fun q => ⟨_, rfl, List.prefix_refl _, hno.symm, Fr.refl _ _⟩, fun q => absurd hq1 q⟩
end CAt
