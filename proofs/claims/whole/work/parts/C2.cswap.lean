/-! SWAP -/
/-- parts with a joint ahead of each but the last -/
def jl (y : Int) : List Tr → List Int
  | [] => []
  | [x] => cC x
  | x :: z :: r => y :: (cC x ++ jl y (z :: r))
theorem cC_unM : ∀ (ps : List Tr), ps ≠ [] → cC (unM ps) = jl 64 ps
  | [], h => absurd rfl h
  | [x], _ => rfl
  | x :: z :: r, _ => by simp only [unM, cC, jl]; rw [cC_unM (z :: r) (by simp)]
theorem cC_unA : ∀ (ps : List Tr), ps ≠ [] → cC (unA ps) = jl 65 ps
  | [], h => absurd rfl h
  | [x], _ => rfl
  | x :: z :: r, _ => by simp only [unA, cC, jl]; rw [cC_unA (z :: r) (by simp)]
theorem cC_reb {t : Tr} {ps : List Tr} (hj : isJ t = true) (hp : ps ≠ []) : cC (reb t ps) = jl (sy t) ps := by
  unfold reb
  cases t with
  | mul a b => rw [if_neg (by simp [isA])]; exact cC_unM ps hp
  | add a b => rw [if_pos (by simp [isA])]; exact cC_unA ps hp
  | _ => simp [isJ, isM, isA] at hj
theorem pJ_ch {t : Tr} (hj : isJ t = true) : pJ (sy t) t = ch t ∧ (sy t = 64 ∨ sy t = 65) := by
  cases t with
  | mul a b => exact ⟨rfl, Or.inl rfl⟩
  | add a b => exact ⟨by simp [pJ, sy, ch], Or.inr rfl⟩
  | _ => simp [isJ, isM, isA] at hj
theorem jl_len (y : Int) : ∀ (ps : List Tr), (jl y ps).length + 1 ≤ (ps.map (fun t => (cC t).length + 1)).sum + 1
  | [] => by simp [jl]
  | [x] => by simp [jl]
  | x :: z :: r => by
    have := jl_len y (z :: r)
    simp only [jl, List.length_cons, List.length_append, List.map_cons, List.sum_cons] at this ⊢
    omega
theorem jl_lenE (y : Int) : ∀ (ps : List Tr), ps ≠ [] → (jl y ps).length + 1 = (ps.map (fun t => (cC t).length + 1)).sum
  | [], h => absurd rfl h
  | [x], _ => by simp [jl]
  | x :: z :: r, _ => by
    have := jl_lenE y (z :: r) (by simp)
    simp only [jl, List.length_cons, List.length_append, List.map_cons, List.sum_cons] at this ⊢
    omega
theorem jl_cons {y : Int} {q : Tr} {r : List Tr} : jl y (q :: r) = (if r = [] then [] else [y]) ++ (cC q ++ jl y r) := by
  cases r with
  | nil => simp [jl]
  | cons z r => simp [jl]
theorem jl_pJ {t : Tr} (h : okw t) (hj : isJ t = true) : cC t = jl (sy t) (ch t) := by
  have key : ∀ (n : Nat) (y : Int) (u : Tr), okw u → (y = 64 ∨ y = 65) → (cC u).length ≤ n → cC u = jl y (pJ y u) := by
    intro n
    induction n with
    | zero => intro y u hu _ hn; have := cC_pos hu; omega
    | succ n ih =>
      intro y u hu hy hn
      rcases pJ_cases hu hy with ⟨-, a, b, ha, hb, e1, e2⟩ | ⟨-, e⟩
      · have hl := congrArg List.length e1
        simp only [List.length_cons, List.length_append] at hl
        have hne : pJ y b ≠ [] := fun q => by have := pJ_pos (y := y) (u := b); rw [q] at this; simp at this
        rw [e1, e2, jl_cons, if_neg hne, ← ih y b hb hy (by omega)]
        rfl
      · rw [e]; rfl
  have := pJ_ch hj
  rw [← this.1]
  exact key _ _ t h this.2 (Nat.le_refl _)
section CSwap
variable {E : EV} {d : Nat} {σ : St} {bd : Int} {T : Tb} {M M' : Mo} {P P' : List Mo} {tp : List Int}
theorem c_S_swap {l s a b : Int} (h : CS σ bd T M P tp) (hk : okMo T M) (hP : P.length ≤ 12) (h1 : rI l) (h2 : rI s) (h3 : rI a) (h4 : rI b) : WMi E m_S_swap (d + 5) [aP 1, aI l, aI s, aI a, aI b] σ (CRes 12 200 σ bd T M P tp (sp_swap M l s a b)) := by
  have hF := h.1.1
  have hb := h.1.2
  refine e_S_swap _ _ _ _ hF (WMr.mono (c_S_squareAt h hk h1 h2) (fun r τ hp hq' => ?_))
  obtain ⟨hq1, rfl⟩ := hq'
  rcases sq_cases M l s with ⟨L, t, hl, hs, hst⟩ | ⟨hn, hor⟩
  · rw [hst] at hq1
    have hok := ((hk.ln hl).1.sq hs).1
    have hcc := hok.cc
    have hsq := hq1.2
    have hsp : sp_swap M l s a b = if a ≠ b ∧ isJ t = true ∧ (0 ≤ a ∧ a < (ch t).length) ∧ (0 ≤ b ∧ b < (ch t).length) then some (setSq M l s L (reb t (swL (ch t) a b))) else none := by unfold sp_swap; simp only [hl, hs]
    have no : ¬ (a ≠ b ∧ isJ t = true ∧ (0 ≤ a ∧ a < (ch t).length) ∧ (0 ≤ b ∧ b < (ch t).length)) → ∃ v, some (aI 0) = some (aI v) ∧ τ.2 <+: τ.2 ∧ CRes 12 200 τ bd T M P tp (sp_swap M l s a b) v τ := fun q => ⟨_, rfl, List.prefix_refl _, CRes.no (by rw [hsp, if_neg q])⟩
    have h0 : (cC t).getD 0 0 = sy t := by rw [cC_sy hcc.1]; rfl
    have hsy := sy_r hcc.1
    have sym0 : WMi E m_Sq_symbol (d + 4) [aP r, aI 0] τ (fun v υ => v = sy t ∧ υ = τ) := by
      have := c_Sq_symbol (E := E) (d := d + 4) (i := 0) hsq.2 (by omega) (by decide)
      rw [if_pos (by omega), show (0 : Int).toNat = 0 from rfl, h0] at this
      exact this
    refine ⟨hF, fun q => absurd q hq1.1, fun _ => ⟨h3, h4, fun c => no (fun q => q.1 c), fun c1 => ⟨h3, fun c => no (fun q => by omega), fun c2 => ⟨h4, fun c => no (fun q => by omega), fun c3 => ⟨hsq.2.1, wmi_p sym0 ⟨hF, wmi_p (c_S_isJoint (by omega)) ⟨hF, b2i_r _, fun c4 => ⟨hsq.2.1, wmi_p sym0 ⟨hF, hsq.2.1, ?_⟩⟩, fun c4 => ?_⟩⟩⟩⟩⟩⟩⟩
    · rw [b2i_n0, jt_isJ hok.1] at c4
      obtain ⟨e1, hy⟩ := pJ_ch c4
      have hcd0 : Cd τ r ([] ++ (cC t ++ [])) := by simpa using hsq.2
      refine wmi_p (c_Sq_links hcd0 hcc.1 (by simp; omega) rfl hy) ?_
      rw [e1]
      have hle := pJ_le hy _ hcc.1 (Nat.le_refl _)
      rw [e1] at hle
      refine ⟨hF, h3, by omega, fun c => no (fun q => by omega), fun c5 => ⟨h4, by omega, fun c6 => ?_, fun c => no (fun q => by omega)⟩⟩
      rw [hsp, if_pos ⟨c1, c4, by omega, by omega⟩]
      have hcd : CdB 92 τ r (cC t) := hsq.lo hb.1
      have hql : (swL (ch t) a b).length = (ch t).length := by simp [swL]
      have hqne : swL (ch t) a b ≠ [] := fun q => by rw [q] at hql; simp at hql; omega
      have hK := cC_reb (t := t) (ps := swL (ch t) a b) c4 hqne
      have hKl : (cC (reb t (swL (ch t) a b))).length = (cC t).length := by
        have a1 := jl_lenE (sy t) (swL (ch t) a b) hqne
        have a2 := swL_sum (fun t => (cC t).length + 1) (ps := ch t) c1 (by omega) (by omega)
        have a3 := jl_lenE (sy t) (ch t) (fun q => by rw [q] at c5; simp at c5; omega)
        rw [hK, jl_pJ hcc.1 c4]
        omega
      refine WMv.mono (c_Draft_clear hF.dr) (fun τ2 hp2 hq2 => ?_)
      refine lpu (ch t).length (fun k υ => WP E m_S_swap (d + 5) 85 [(0, aP 1), (1, aI l), (2, aI s), (3, aI a), (4, aI b), (5, aP r), (6, aI (sy t)), (7, aI (ch t).length), (8, aI k)] [] υ _) (fun k υ => (0 ≤ k ∧ k ≤ (ch t).length) ∧ Fr (dX 10 11) τ υ ∧ ∃ K, DrIs υ 10 11 K ∧ K ++ jl (sy t) ((swL (ch t) a b).drop k.toNat) = cC (reb t (swL (ch t) a b))) (fun k υ hI ih => ?_) 0 τ2 ⟨by omega, hq2.1, [], hq2.2, by simp [hK]⟩
      obtain ⟨i1, i2, K, i3, i4⟩ := hI
      have hFu := i2.fix hF (by decide)
      have hcu := hcd.cf (i2.cf 0 0) (dX_lt (by decide))
      have hKK := congrArg List.length i4
      rw [List.length_append] at hKK
      refine b_S_swap_85 _ _ _ _ _ _ _ _ hFu ⟨by omega, by omega, fun g1 => ?_, fun g1 => ?_⟩
      · rw [List.drop_of_length_le (by omega)] at i4
        have i4' : K = cC (reb t (swL (ch t) a b)) := by simpa [jl] using i4
        rw [i4'] at i3
        refine WMr.mono (c_Draft_made i3 (by omega)) (fun r4 τ4 hp4 hq4 => ?_)
        have hc : Cf 2 25 cX τ τ4 := (((i2.cf 0 0).mono (Y := cX) (Nat.le_refl _) (Nat.le_refl _) (by decide)).tr (hq4.2.1.mono (Y := cX) (m' := 25) (Nat.le_refl _) (by omega) rfl)).mono (by omega) (by omega) (by decide)
        have hS := h.cf hc
        have e : (υ.2.length : Int) = τ.2.length := by rw [i2.1]
        have hsq4 : SqC bd τ4 r4 (reb t (swL (ch t) a b)) := SqC.lo (b := υ.2.length) hq4.2.2 (by omega)
        refine ⟨hS.1.1, WMi.mono (c_S_become hS hk hP h1 h2 hl hs hsq4) (fun r5 τ5 hp5 hq5 => ?_)⟩
        obtain ⟨rfl, hq6, hq7⟩ := hq5
        exact ⟨Or.inr rfl, _, rfl, hc.1.trans hp5, rfl, ((hc.mono (Y := caX) (Nat.le_refl _) (Nat.le_refl _) (by decide)).tr hq6).mono (by omega) (by omega) (by decide), hq7⟩
      · obtain ⟨q, hq, e3, e4⟩ := swL_at (ps := ch t) c1 (by omega) (by omega) (p := k.toNat) (by omega)
        rw [show ((k.toNat : Nat) : Int) = k by omega] at e3
        have tail : WP E m_S_swap (d + 5) 121 [(0, aP 1), (1, aI l), (2, aI s), (3, aI a), (4, aI b), (5, aP r), (6, aI (sy t)), (7, aI (ch t).length), (8, aI k)] [aI q, aI (sy t), aI 0, aP r] υ (fun r σ' => ∃ v, r = some (aI v) ∧ τ.2 <+: σ'.2 ∧ CRes 12 200 τ bd T M P tp (some (setSq M l s L (reb t (swL (ch t) a b)))) v σ') := by
          refine b_S_swap_121 _ _ _ _ _ _ _ _ _ _ _ _ hFu ⟨hcu.2.1, WMi.mono (c_Sq_linkPlace hcu.2 hcc.1 (by omega) hy (by rw [e1]; exact hq)) (fun v υ' _ hv => ?_)⟩
          obtain ⟨⟨A, B, w, w1, w2, w3⟩, rfl⟩ := hv
          rw [e1, List.getElem?_eq_getElem hq] at w1
          cases w1
          have hd : (swL (ch t) a b).drop k.toNat = (ch t)[q] :: (swL (ch t) a b).drop (k.toNat + 1) := by
            have := (List.getElem?_eq_some_iff.mp e4)
            obtain ⟨z1, z2⟩ := this
            rw [List.drop_eq_getElem_cons z1, z2]
          have hwk : okw (ch t)[q] := (ch_ok hok.1 _ (List.getElem_mem hq)).1.w
          have hwl : (cC (ch t)[q]).length ≤ (cC t).length := by rw [w2]; simp; omega
          rw [hd, jl_cons] at i4
          have i4l := congrArg List.length i4
          simp only [List.length_append] at i4l
          have fin : ∀ (υ2 : St) (K2 : List Int), Fr (dX 10 11) τ υ2 → DrIs υ2 10 11 K2 → K2 ++ (cC (ch t)[q] ++ jl (sy t) ((swL (ch t) a b).drop (k.toNat + 1))) = cC (reb t (swL (ch t) a b)) → WP E m_S_swap (d + 5) 144 [(0, aP 1), (1, aI l), (2, aI s), (3, aI a), (4, aI b), (5, aP r), (6, aI (sy t)), (7, aI (ch t).length), (8, aI k), (9, aI v)] [] υ2 (fun r σ' => ∃ v, r = some (aI v) ∧ τ.2 <+: σ'.2 ∧ CRes 12 200 τ bd T M P tp (some (setSq M l s L (reb t (swL (ch t) a b)))) v σ') := by
            intro υ2 K2 f2 d2 e2
            have hF2 := f2.fix hF (by decide)
            have hc2 := hcd.cf (f2.cf 0 0) (dX_lt (by decide))
            rw [w2] at hc2
            have e2l := congrArg List.length e2
            simp only [List.length_append] at e2l
            have hl2 : (A ++ (cC (ch t)[q] ++ B)).length ≤ 1000 := by rw [← w2]; omega
            refine b_S_swap_144 _ _ _ _ _ _ _ _ _ hF2 ⟨hc2.2.1, wmi_p (c_Sq_endOf hc2.2 hwk hl2 w3) ⟨hF2, WMv.mono (c_Draft_putAll d2 hc2 (cC_sym hwk) hl2 w3 (by omega) (by omega)) (fun υ3 hp3 hq3 => ?_)⟩⟩
            refine ih (by omega) υ3 ⟨by omega, f2.tr hq3.1, _, hq3.2, ?_⟩
            rw [show (k + 1).toNat = k.toNat + 1 by omega, List.append_assoc]
            exact e2
          refine ⟨hFu, by omega, by omega, fun g2 => ?_, fun g2 => ?_⟩
          · have hnil : (swL (ch t) a b).drop (k.toNat + 1) = [] := List.drop_of_length_le (by omega)
            refine fin υ' K i2 i3 ?_
            rw [if_pos hnil] at i4
            simpa using i4
          · have hne : (swL (ch t) a b).drop (k.toNat + 1) ≠ [] := fun z => by have := congrArg List.length z; simp at this; omega
            rw [if_neg hne] at i4 i4l
            simp only [List.length_cons, List.length_nil] at i4l
            refine WMv.mono (c_Draft_put i3 (by omega) hsy) (fun υ2 hp3 hq3 => fin υ2 _ (i2.tr hq3.1) hq3.2 ?_)
            rw [List.append_assoc]
            exact i4
        unfold swi at e3
        refine ⟨by omega, h3, fun g2 => ⟨by omega, h4, fun g3 => ?_, fun g3 => ?_⟩, fun g2 => ?_⟩
        · rw [if_neg g2, if_neg g3] at e3; rw [e3]; rw [← e3] at tail ⊢; exact tail
        · rw [if_neg g2, if_pos g3] at e3; rw [← e3] at tail; exact tail
        · rw [if_pos g2] at e3; rw [← e3] at tail; exact tail
    · rw [b2i_0, jt_isJ hok.1] at c4
      exact no (fun q => c4 q.2.1)
  · rw [hn] at hq1
    refine ⟨hF, fun q => ⟨_, rfl, List.prefix_refl _, CRes.no ?_⟩, fun q => absurd hq1 q⟩
    unfold sp_swap
    rcases hor with e | ⟨L, e1, e2⟩
    · simp only [e]
    · simp only [e1, e2]
end CSwap
