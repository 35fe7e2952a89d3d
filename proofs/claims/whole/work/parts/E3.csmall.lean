/-! SMALLEST -/
section CSmall
variable {E : EV} {d : Nat} {σ : St} {b : Int} {T : Tb} {M : Mo} {P : List Mo} {tp : List Int} {t : Tr} {mr : Bool}
theorem c_Long_compare {x y : Int} (hx : rL x) (hy : rL y) : WMi E m_Long_compare d [aL x, aL y] σ (fun r τ => r = (if x < y then -1 else if x = y then 0 else 1) ∧ τ = σ) := by
  refine e_Long_compare _ _ ⟨hx, hy, fun q => ⟨hx, hy, fun q2 => ri_p ?_, fun q2 => ri_p ?_⟩, fun q => ri_p ?_⟩
  · rw [if_neg (by omega), if_neg q2]
  · rw [if_neg (by omega), if_pos q2]
  · rw [if_pos (by omega)]
/-- of a sign's place -/
def qR (z : Tr × Qd) : Rat := Rat.divInt z.2.1 z.2.2.1
theorem c_Layout_compareScales {i j : Nat} {z w : Tr × Qd} (hF : Fix σ) (hL : Laid σ T M mr t) (hT : okTab T) (hk : okMo T M) (ht : okS T t) (hz : (zC T M.2.1 (rootQ T M t) t)[i]? = some z) (hw : (zC T M.2.1 (rootQ T M t) t)[j]? = some w) : WMi E m_Layout_compareScales (d + 1) [aP 23, aI i, aI j] σ (fun r τ => r = (if qR z < qR w then -1 else if qR z = qR w then 0 else 1) ∧ τ = σ) := by
  have hcc := ht.cc
  have hi : i < (cC t).length := by rw [← zC_len (T := T) (g := M.2.1) hcc.1 (rootQ T M t)]; exact (List.getElem?_eq_some_iff.mp hz).1
  have hj : j < (cC t).length := by rw [← zC_len (T := T) (g := M.2.1) hcc.1 (rootQ T M t)]; exact (List.getElem?_eq_some_iff.mp hw).1
  have b1 := zC_n hT hk ht hz
  have b2 := zC_n hT hk ht hw
  have h7 := hL.1
  obtain ⟨-, ⟨a3, a4⟩, -⟩ := hL.2 i z hz
  obtain ⟨-, ⟨a5, a6⟩, -⟩ := hL.2 j w hw
  have hi2 : (0 : Int) ≤ i ∧ (i : Int) < 24 := by omega
  have hj2 : (0 : Int) ≤ j ∧ (j : Int) < 24 := by omega
  have r1 := mul_bd (a := z.2.1) (b := w.2.2.1) (A := 466948881) (B := 466948881) (by omega) (by omega) (by omega)
  have r2 := mul_bd (a := w.2.1) (b := z.2.2.1) (A := 466948881) (B := 466948881) (by omega) (by omega) (by omega)
  have c1 : qR z ≤ qR w ↔ z.2.1 * w.2.2.1 ≤ w.2.1 * z.2.2.1 := rat_cmp (by omega) (by omega)
  have c2 : qR w ≤ qR z ↔ w.2.1 * z.2.2.1 ≤ z.2.1 * w.2.2.1 := rat_cmp (by omega) (by omega)
  refine e_Layout_compareScales _ _ hF ⟨by omega, fun q => by omega, fun _ => ⟨by omega, by omega, fun q => by omega, fun _ => ⟨by omega, fun q => by omega, fun _ => ⟨by omega, by omega, fun _ => ⟨hi2, hj2, hj2, hi2, ?_⟩, fun q => by omega⟩⟩⟩⟩
  rw [a3, a4, a5, a6]
  refine wmi_p (c_Long_compare (by unfold rL; omega) (by unfold rL; omega)) (ri_p ?_)
  generalize z.2.1 * w.2.2.1 = X at *
  generalize w.2.1 * z.2.2.1 = Y at *
  by_cases q : X < Y
  · rw [if_pos q, if_pos (Rat.not_le.mp (fun q2 => absurd (c2.mp q2) (by omega)))]
  · rw [if_neg q, if_neg (fun q2 => absurd (Rat.le_of_lt q2) (fun q3 => absurd (c2.mpr (by omega)) (Rat.not_le.mpr q2)))]
    by_cases q2 : X = Y
    · rw [if_pos q2, if_pos (Rat.le_antisymm (c1.mpr (by omega)) (c2.mpr (by omega)))]
    · rw [if_neg q2, if_neg (fun q3 => q2 (Int.le_antisymm (c1.mp (by rw [q3]; exact Rat.le_refl)) (c2.mp (by rw [q3]; exact Rat.le_refl))))]
/-- where the count stands behind some places -/
def Cnt (Z : List (Tr × Qd)) (k : Nat) (n : Nat) (ls : Int) : Prop := (((Z.take k).filter (fun z => isS z.1)) = [] ∧ n = 0 ∧ ls = -1) ∨ ∃ (j : Nat) (w : Tr × Qd), (ls = j ∧ Z[j]? = some w) ∧ qR w ∈ scL ((Z.take k).filter (fun z => isS z.1)) ∧ (∀ y ∈ scL ((Z.take k).filter (fun z => isS z.1)), qR w ≤ y) ∧ n = ((scL ((Z.take k).filter (fun z => isS z.1))).filter (fun x => decide (x = qR w))).length
theorem scL_app (A B : List (Tr × Qd)) : scL (A ++ B) = scL A ++ scL B := List.map_append
theorem c_Layout_smallestSigns {r : Int} (hF : Fix σ) (hL : Laid σ T M mr t) (hc : Cd σ r (cC t)) (hT : okTab T) (hk : okMo T M) (ht : okS T t) : WMi E m_Layout_smallestSigns (d + 2) [aP 23, aP r] σ (fun v τ => v = (mnC (scL (sLR T M t)) : Int) ∧ τ = σ) := by
  have hcc := ht.cc
  have h7 := hL.1
  have zl := zC_len (T := T) (g := M.2.1) hcc.1 (rootQ T M t)
  have hsL := zC_sL (T := T) (g := M.2.1) hcc.1 (rootQ T M t)
  refine e_Layout_smallestSigns _ ?_
  have key : ∀ s : Nat × Nat × Int, (s.1 ≤ (cC t).length ∧ s.2.1 ≤ s.1 ∧ Cnt (zC T M.2.1 (rootQ T M t) t) s.1 s.2.1 s.2.2) → WP E m_Layout_smallestSigns (d + 2) 7 [(0, aP 23), (1, aP r), (2, aI s.2.1), (3, aI s.2.2), (4, aI s.1)] [] σ (fun r τ => ∃ v, r = some (aI v) ∧ σ.2 <+: τ.2 ∧ v = (mnC (scL (sLR T M t)) : Int) ∧ τ = σ) := by
    refine lpx (fun s => (cC t).length - s.1) _ _ (fun s hI ih => ?_)
    obtain ⟨k, n, ls⟩ := s
    obtain ⟨i1, i2, i3⟩ := hI
    simp only at i1 i2 i3 ih ⊢
    refine b_Layout_smallestSigns_7 _ _ _ _ hF ⟨by omega, by omega, fun q => ri_p ?_, fun q => ⟨hc.1, wmi_p (c_Sq_symbol hc (by omega) (by omega)) ⟨hF, ?_⟩⟩⟩
    · unfold Cnt at i3
      rw [List.take_of_length_le (by omega), hsL] at i3
      rcases i3 with ⟨e1, e2, e3⟩ | ⟨j, w, -, m1, m2, m3⟩
      · have := sL_len T M.2.1 t (rootQ T M t)
        rw [e1] at this
        have h1 := sg_pos ht.1
        simp at this
        omega
      · rw [m3, mnC_eq m1 m2]
    · obtain ⟨z, hz⟩ : ∃ z, (zC T M.2.1 (rootQ T M t) t)[k]? = some z := ⟨_, List.getElem?_eq_getElem (by omega)⟩
      have hu : (sbC t)[k]? = some z.1 := by rw [← zC_fst T M.2.1 t (rootQ T M t), List.getElem?_map, hz]; rfl
      have hsy := sbC_sy hcc.1 hu
      have uok := (sbC_at hcc.1 hu).1
      have hr := sy_r uok
      have htk : (zC T M.2.1 (rootQ T M t) t).take (k + 1) = (zC T M.2.1 (rootQ T M t) t).take k ++ [z] := by rw [List.take_add_one, hz]; rfl
      have nxt : ∀ (n' : Nat) (ls' : Int), n' ≤ k + 1 → Cnt (zC T M.2.1 (rootQ T M t) t) (k + 1) n' ls' → WP E m_Layout_smallestSigns (d + 2) 72 [(0, aP 23), (1, aP r), (2, aI n'), (3, aI ls'), (4, aI k)] [] σ (fun r τ => ∃ v, r = some (aI v) ∧ σ.2 <+: τ.2 ∧ v = (mnC (scL (sLR T M t)) : Int) ∧ τ = σ) := by
        intro n' ls' hn' hcn
        refine b_Layout_smallestSigns_72 _ _ _ _ ?_
        have h9 := ih (k + 1, n', ls') (by show (cC t).length - (k + 1) < (cC t).length - k; omega) ⟨by show k + 1 ≤ _; omega, hn', hcn⟩
        simp only at h9
        rw [show ((k + 1 : Nat) : Int) = (k : Int) + 1 by omega] at h9
        exact h9
      rw [if_pos (by omega), show ((k : Nat) : Int).toNat = k by omega, List.getD_eq_getElem?_getD, hsy, Option.getD_some]
      refine wmi_p (c_S_isJoint (by omega)) ⟨hF, b2i_r _, fun q2 => ?_, fun q2 => ?_⟩
      · rw [b2i_0, jt_isS uok] at q2
        have hS : isS z.1 = true := by simpa using q2
        have hfl : ((zC T M.2.1 (rootQ T M t) t).take (k + 1)).filter (fun z => isS z.1) = ((zC T M.2.1 (rootQ T M t) t).take k).filter (fun z => isS z.1) ++ [z] := by
          rw [htk, List.filter_append, List.filter_cons_of_pos (p := fun z : Tr × Qd => isS z.1) hS]; rfl
        have scz : scL [z] = [qR z] := rfl
        rcases i3 with ⟨e1, e2, e3⟩ | ⟨j, w, ⟨j1, j2⟩, m1, m2, m3⟩
        · refine ⟨by omega, fun q3 => absurd e3 q3, fun _ => b_Layout_smallestSigns_47 _ _ _ _ _ ⟨by decide, fun q4 => absurd q4 (by decide), fun _ => b_Layout_smallestSigns_59 _ _ _ _ _ ⟨by decide, fun q4 => absurd q4 (by decide), fun _ => b_Layout_smallestSigns_70 _ _ _ _ _ ?_⟩⟩⟩
          refine nxt 1 k (by omega) (Or.inr ⟨k, z, ⟨rfl, hz⟩, ?_⟩)
          rw [hfl, e1, List.nil_append, scz]
          exact ⟨by simp, by intro y hy; simp at hy; rw [hy]; exact Rat.le_refl, by simp⟩
        · have hjl := (List.getElem?_eq_some_iff.mp j2).1
          refine ⟨by omega, fun _ => ?_, fun q3 => by omega⟩
          rw [j1]
          refine wmi_p (c_Layout_compareScales hF hL hT hk ht hz j2) ?_
          have keep : ∀ c : Nat, c = n + (if qR z = qR w then 1 else 0) → qR w ≤ qR z → Cnt (zC T M.2.1 (rootQ T M t) t) (k + 1) c j := by
            intro c hcn hle
            refine Or.inr ⟨j, w, ⟨rfl, j2⟩, ?_⟩
            rw [hfl, scL_app, scz]
            refine ⟨List.mem_append_left _ m1, fun y hy => ?_, ?_⟩
            · rcases List.mem_append.mp hy with hy | hy
              · exact m2 y hy
              · simp at hy; rw [hy]; exact hle
            · rw [List.filter_append, List.length_append, ← m3, hcn]
              by_cases e : qR z = qR w <;> simp [e]
          by_cases c1 : qR z < qR w
          · rw [if_pos c1]
            refine b_Layout_smallestSigns_47 _ _ _ _ _ ⟨by decide, fun q4 => absurd q4 (by decide), fun _ => b_Layout_smallestSigns_59 _ _ _ _ _ ⟨by decide, fun q4 => absurd q4 (by decide), fun _ => b_Layout_smallestSigns_70 _ _ _ _ _ ?_⟩⟩
            refine nxt 1 k (by omega) (Or.inr ⟨k, z, ⟨rfl, hz⟩, ?_⟩)
            rw [hfl, scL_app, scz]
            refine ⟨by simp, fun y hy => ?_, ?_⟩
            · rcases List.mem_append.mp hy with hy | hy
              · exact Rat.le_trans (Rat.le_of_lt c1) (m2 y hy)
              · simp at hy; rw [hy]; exact Rat.le_refl
            · rw [List.filter_append, List.length_append]
              have : (scL (((zC T M.2.1 (rootQ T M t) t).take k).filter (fun z => isS z.1))).filter (fun x => decide (x = qR z)) = [] := by
                rw [List.filter_eq_nil_iff]
                intro y hy q5
                have q6 : y = qR z := of_decide_eq_true q5
                have := m2 y hy
                rw [q6] at this
                exact absurd this (Rat.not_le.mpr c1)
              rw [this]
              simp
          · rw [if_neg c1]
            have hle : qR w ≤ qR z := Rat.not_lt.mp c1
            by_cases c2 : qR z = qR w
            · rw [if_pos c2]
              refine b_Layout_smallestSigns_47 _ _ _ _ _ ⟨by decide, fun _ => b_Layout_smallestSigns_59 _ _ _ _ _ ⟨by decide, fun q4 => absurd q4 (by decide), fun _ => b_Layout_smallestSigns_70 _ _ _ _ _ ?_⟩, fun q4 => absurd (by decide) q4⟩
              exact nxt (n + 1) j (by omega) (keep (n + 1) (by rw [if_pos c2]) hle)
            · rw [if_neg c2]
              refine b_Layout_smallestSigns_47 _ _ _ _ _ ⟨by decide, fun _ => b_Layout_smallestSigns_59 _ _ _ _ _ ⟨by decide, fun _ => b_Layout_smallestSigns_70 _ _ _ _ _ ?_, fun q4 => absurd (by decide) q4⟩, fun q4 => absurd (by decide) q4⟩
              have := nxt n j (by omega) (keep n (by rw [if_neg c2]; rfl) hle)
              rw [show (n : Int) + 0 = n by omega]
              exact this
      · rw [b2i_n0, jt_isS uok] at q2
        have hS : ¬ isS z.1 = true := fun q3 => by rw [q3] at q2; cases q2
        refine nxt n ls (by omega) ?_
        have hfl : ((zC T M.2.1 (rootQ T M t) t).take (k + 1)).filter (fun z => isS z.1) = ((zC T M.2.1 (rootQ T M t) t).take k).filter (fun z => isS z.1) := by
          rw [htk, List.filter_append, List.filter_cons_of_neg (p := fun z : Tr × Qd => isS z.1) hS]; simp
        unfold Cnt
        rw [hfl]
        exact i3
  exact key (0, 0, -1) ⟨Nat.zero_le _, Nat.le_refl _, Or.inl ⟨by simp, rfl, rfl⟩⟩
theorem c_S_smallest {l s : Int} (h : CS σ b T M P tp) (hT : okTab T) (hk : okMo T M) (h1 : rI l) (h2 : rI s) : WMi E m_S_smallest (d + 7) [aP 1, aI l, aI s] σ (fun r τ => r = sp_smallest T M l s ∧ Fr cX σ τ) := by
  have hF := h.1.1
  refine e_S_smallest _ _ hF (WMr.mono (c_S_squareAt h hk h1 h2) (fun r τ _ hq' => ?_))
  obtain ⟨hq1, rfl⟩ := hq'
  unfold sp_smallest
  rcases sq_cases M l s with ⟨L, t, hl, hs, hst⟩ | ⟨hn, hor⟩
  · rw [hst] at hq1 ⊢
    have hok := ((hk.ln hl).1.sq hs).1
    have hcc := hok.cc
    have hsq := hq1.2
    refine ⟨hF, fun _ => WMr.mono (c_S_laidOut h hT hk h1 hl hsq hcc.1 (by omega)) (fun r2 τ2 hp2 hq2 => ?_), fun q => absurd q hq1.1⟩
    obtain ⟨rfl, f2, L2⟩ := hq2
    have F2 := f2.fix hF (by decide)
    have c2 := hsq.cf (f2.cf 0 0) (imX_lt rfl h.1.2.1)
    exact ⟨sf_23 F2, wmi_p (c_Layout_smallestSigns F2 L2 c2.2 hT hk hok) ⟨_, rfl, hp2, rfl, f2.mono (by decide)⟩⟩
  · rw [hn] at hq1 ⊢
    exact ⟨hF, fun q => absurd hq1 q, fun _ => ⟨_, rfl, List.prefix_refl _, rfl, Fr.refl _ _⟩⟩
end CSmall
