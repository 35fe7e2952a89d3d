/-! COUNT, SIGN -/
/-- how many signs of a tree are of a letter -/
def lc (c : Nat) : Tr → Nat
  | .var l => if vN l = c then 1 else 0
  | .pow t l => (if l = c then 1 else 0) + lc c t
  | .mul a b => lc c a + lc c b
  | .add a b => lc c a + lc c b
  | _ => 0
def cntL (c : Nat) : List Int → Nat
  | [] => 0
  | x :: K => (if x < 200 ∧ x % 100 - 1 = c then 1 else 0) + cntL c K
theorem cntL_app (c : Nat) (K L : List Int) : cntL c (K ++ L) = cntL c K + cntL c L := by
  induction K with
  | nil => simp [cntL]
  | cons x K ih => simp only [List.cons_append, cntL, ih]; omega
theorem rc_cntL {t : Tr} (c : Nat) (h : ok t) : ∀ k, cntL c (rc k t) = lc c t := by
  induction t with
  | var l => intro k; have h2 : vN l < 26 := h
             simp only [rc, cntL, lc]
             by_cases hc : vN l = c
             · rw [if_pos ⟨by omega, by omega⟩, if_pos hc]
             · rw [if_neg (fun q => hc (by omega)), if_neg hc]
  | pow t l ih => intro k; have h2 : l < 26 := h.2
                  simp only [rc, cntL, lc, ih h.1]
                  by_cases hc : l = c
                  · rw [if_pos ⟨by omega, by omega⟩, if_pos hc]
                  · rw [if_neg (fun q => hc (by omega)), if_neg hc]
  | mul a b iha ihb =>
    intro k
    simp only [rc, lc]
    split
    · rw [cntL_app, iha h.1, ihb h.2.1]
    · simp only [cntL, cntL_app, iha h.1, ihb h.2.1]; rw [if_neg (by omega)]; omega
  | add a b iha ihb =>
    intro k
    simp only [rc, lc]
    split
    · rw [cntL_app, iha h.1, ihb h.2.1]
    · simp only [cntL, cntL_app, iha h.1, ihb h.2.1]; rw [if_neg (by omega)]; omega
  | _ => exact absurd h (by simp [ok])
theorem lc_le (c : Nat) (t : Tr) : lc c t ≤ sg t := by
  induction t <;> simp_all [lc, sg] <;> (try split) <;> omega
def lcLn (c : Nat) (L : Ln) : Nat := (L.2.map (lc c)).sum
def lcMo (c : Nat) (M : Mo) : Nat := (M.2.2.map (lcLn c)).sum
/-- how many letters there are of which p -/
def nL (p : Nat → Bool) : Nat → Nat
  | 0 => 0
  | k + 1 => nL p k + (if p k then 1 else 0)
def sp_count (T : Tb) (M : Mo) (P : List Mo) (tp : List Int) (w : Int) : Int :=
  if w = 0 then M.2.2.length
  else if w = 1 then ((M.2.2.map (fun L : Ln => L.2.length)).sum : Nat)
  else if w = 2 then ((M.2.2.map (fun L : Ln => (L.2.map sg).sum)).sum : Nat)
  else if w = 3 then nL (fun l => decide (0 < (T l).1)) 26
  else if w = 4 then M.1
  else if w = 5 then M.2.1
  else if w = 6 then P.length
  else if w = 7 then tp.length
  else if w = 8 then nL (fun l => decide (0 < (T l).2.2.1)) 26
  else -1
def sp_sign (T : Tb) (M : Mo) (c w : Int) : Int :=
  if (0 ≤ c ∧ c ≤ 25) ∧ 0 ≤ w ∧ w ≤ 4 then
    if 0 < (T c.toNat).1 then
      if w = 0 then (T c.toNat).1 else if w = 1 then (T c.toNat).2.1 else if w = 2 then (T c.toNat).2.2.1 else if w = 3 then (T c.toNat).2.2.2 else lcMo c.toNat M
    else -2
  else -1
section MCount
variable {E : EV} {d : Nat} {σ : St} {T : Tb} {M : Mo} {P : List Mo} {tp : List Int}
theorem RS.tabI (h : RS σ T M P tp) (hk : okTab T) : ∀ l, 0 ≤ l → l < 26 → rI (σ.1 43 l) := fun l q1 q2 => by
  have q3 := (h.1.2.1 l.toNat (by omega)).1
  rw [show ((l.toNat : Nat) : Int) = l by omega] at q3
  have q4 := hk l.toNat (by omega)
  rw [q3]; omega
theorem c_M_count {w : Int} (h : RS σ T M P tp) (hk : okD T M P tp) (hw : rI w) : WMi E m_M_count (d + 4) [aP 42, aI w] σ (fun r τ => r = sp_count T M P tp w ∧ τ = σ) := by
  have hF := h.1.1
  have hkM := hk.2.1
  have hmo := h.1.2.2
  have hM2 : σ.1 47 2 = M.2.2.length := hmo.2.2.1
  have h4 := hkM.2.2.1
  have hln : ∀ k : Nat, (hk : k < M.2.2.length) → lnAt M k = some M.2.2[k] := fun k hk => by simp [lnAt, hk]
  refine e_M_count _ hF ⟨hw, fun c => ri_p (by rw [c]; exact hM2), fun c => ?_, fun c => ?_, fun c => ?_, fun c => ri_p (by rw [c]; exact hmo.1), fun c => ri_p (by rw [c]; exact hmo.2.1), fun c => ri_p (by rw [c]; exact h.2.1.1), fun c => ri_p (by rw [c]; exact h.2.2.1.1), fun c => ?_, fun c => ri_p ?_⟩
  · have key : ∀ k : Nat, k ≤ M.2.2.length → WP E m_M_count (d + 4) 61 [(0, aP 42), (2, aI (((M.2.2.take k).map (fun L : Ln => L.2.length)).sum : Nat)), (3, aI k)] [] σ (fun r τ => ∃ v, r = some (aI v) ∧ σ.2 <+: τ.2 ∧ v = sp_count T M P tp w ∧ τ = σ) := by
      refine lpx (fun k => M.2.2.length - k) _ _ (fun k hI ih => ?_)
      refine b_M_count_61 _ _ hF ⟨by omega, by omega, fun c1 => ri_p ?_, fun c1 => ?_⟩
      · rw [show k = M.2.2.length by omega, List.take_length, c]; rfl
      · have hlt : k < M.2.2.length := by omega
        refine wmi_p (c_M_squaresOf' h hkM (hln k hlt)) ?_
        have h9 := ih (k + 1) (by omega) (by omega)
        rw [sum_take_succ hlt] at h9
        rw [show (k : Int) + 1 = ((k + 1 : Nat) : Int) by omega, ← Int.natCast_add]
        exact h9
    exact key 0 (by omega)
  · have key : ∀ k : Nat, k ≤ M.2.2.length → WP E m_M_count (d + 4) 89 [(0, aP 42), (2, aI (((M.2.2.take k).map (fun L : Ln => (L.2.map sg).sum)).sum : Nat)), (3, aI k)] [] σ (fun r τ => ∃ v, r = some (aI v) ∧ σ.2 <+: τ.2 ∧ v = sp_count T M P tp w ∧ τ = σ) := by
      refine lpx (fun k => M.2.2.length - k) _ _ (fun k hI ih => ?_)
      refine b_M_count_89 _ _ hF ⟨by omega, by omega, fun c1 => ri_p ?_, fun c1 => ?_⟩
      · rw [show k = M.2.2.length by omega, List.take_length, c]; rfl
      · have hlt : k < M.2.2.length := by omega
        refine wmi_p (c_M_signsOfLine h hkM (hln k hlt)) ?_
        have h9 := ih (k + 1) (by omega) (by omega)
        rw [sum_take_succ hlt] at h9
        rw [show (k : Int) + 1 = ((k + 1 : Nat) : Int) by omega, ← Int.natCast_add]
        exact h9
    exact key 0 (by omega)
  · have key : ∀ k : Nat, k ≤ 26 → WP E m_M_count (d + 4) 117 [(0, aP 42), (2, aI (nL (fun l => decide (0 < (T l).1)) k : Nat)), (3, aI k)] [] σ (fun r τ => ∃ v, r = some (aI v) ∧ σ.2 <+: τ.2 ∧ v = sp_count T M P tp w ∧ τ = σ) := by
      refine lpx (fun k => 26 - k) _ _ (fun k hI ih => ?_)
      refine b_M_count_117 _ _ hF ⟨by omega, fun c1 => ri_p ?_, fun c1 => ?_⟩
      · rw [show k = 26 by omega, c]; rfl
      · have h9 := ih (k + 1) (by omega) (by omega)
        have q3 := (h.1.2.1 k (by omega)).1
        simp only [nL] at h9
        refine wmi_p (c_M_isTold hF (by omega) (h.tabI hk.1)) ⟨b2i_r _, fun c2 => ?_, fun c2 => ?_⟩
        · rw [b2i_0] at c2
          refine b_M_count_134 _ _ ?_
          rw [if_neg (by simp; omega)] at h9
          exact h9
        · rw [b2i_n0] at c2
          refine b_M_count_134 _ _ ?_
          rw [if_pos (by simp; omega)] at h9
          exact h9
    exact key 0 (by omega)
  · have key : ∀ k : Nat, k ≤ 26 → WP E m_M_count (d + 4) 168 [(0, aP 42), (2, aI (nL (fun l => decide (0 < (T l).2.2.1)) k : Nat)), (3, aI k)] [] σ (fun r τ => ∃ v, r = some (aI v) ∧ σ.2 <+: τ.2 ∧ v = sp_count T M P tp w ∧ τ = σ) := by
      refine lpx (fun k => 26 - k) _ _ (fun k hI ih => ?_)
      refine b_M_count_168 _ _ hF ⟨by omega, fun c1 => ri_p ?_, fun c1 => ?_⟩
      · rw [show k = 26 by omega, c]; rfl
      · have h9 := ih (k + 1) (by omega) (by omega)
        have q3 := (h.1.2.1 k (by omega)).2.2.1
        have q4 := hk.1 k (by omega)
        simp only [nL] at h9
        refine ⟨by omega, by rw [q3]; omega, fun c2 => ?_, fun c2 => ?_⟩
        · refine b_M_count_186 _ _ ?_
          rw [if_neg (by simp; omega)] at h9
          exact h9
        · refine b_M_count_186 _ _ ?_
          rw [if_pos (by simp; omega)] at h9
          exact h9
    exact key 0 (by omega)
  · unfold sp_count
    repeat rw [if_neg (by omega)]
theorem c_M_standing {c : Nat} (h : RS σ T M P tp) (hk : okMo T M) (hc : c < 26) : WMi E m_M_standing (d + 2) [aP 42, aI c] σ (fun r τ => r = lcMo c M ∧ Fr [(50, -1), (42, 10)] σ τ) := by
  have hF := h.1.1
  have h4 := hk.2.2.1
  refine e_M_standing _ ?_
  have lines : ∀ z : Nat × St, (z.1 ≤ M.2.2.length ∧ Fr [(50, -1), (42, 10)] σ z.2) → WP E m_M_standing (d + 2) 4 [(0, aP 42), (1, aI c), (2, aI (((M.2.2.take z.1).map (lcLn c)).sum : Nat)), (3, aI z.1)] [] z.2 (fun r τ => ∃ v, r = some (aI v) ∧ σ.2 <+: τ.2 ∧ v = lcMo c M ∧ Fr [(50, -1), (42, 10)] σ τ) := by
    refine lpx (fun z => M.2.2.length - z.1) _ _ (fun z hI ih => ?_)
    obtain ⟨k, τ⟩ := z
    obtain ⟨i1, i2⟩ := hI
    simp only at i1 i2 ih ⊢
    have hT := i2.fix hF (by decide)
    have hM2 : τ.1 47 2 = M.2.2.length := (i2.2 _ _ rfl).trans h.1.2.2.2.2.1
    refine b_M_standing_4 _ _ _ hT ⟨by omega, by omega, fun c1 => ?_, fun c1 => ?_⟩
    · refine ⟨_, rfl, pre_eq i2.1, ?_, i2⟩
      rw [show k = M.2.2.length by omega, List.take_length]; rfl
    · have hlt : k < M.2.2.length := by omega
      have hl : lnAt M k = some M.2.2[k] := by simp [lnAt, hlt]
      generalize hL : M.2.2[k] = L at hl
      have hL8 := (hk.ln hl).1
      have hL82 := hL8.1.2
      generalize hA : ((M.2.2.take k).map (lcLn c)).sum = A at *
      have squares : ∀ y : Nat × St, (y.1 ≤ L.2.length ∧ Fr [(50, -1), (42, 10)] σ y.2) → WP E m_M_standing (d + 2) 17 [(0, aP 42), (1, aI c), (2, aI ((A + ((L.2.take y.1).map (lc c)).sum : Nat))), (3, aI k), (4, aI y.1)] [] y.2 (fun r τ => ∃ v, r = some (aI v) ∧ σ.2 <+: τ.2 ∧ v = lcMo c M ∧ Fr [(50, -1), (42, 10)] σ τ) := by
        refine lpx (fun y => L.2.length - y.1) _ _ (fun y hJ ih2 => ?_)
        obtain ⟨s, υ⟩ := y
        obtain ⟨j1, j2⟩ := hJ
        simp only at j1 j2 ih2 ⊢
        have hU := h.scr (j2.mono (by decide))
        refine b_M_standing_17 _ _ _ _ hU.1.1 (wmi_p (c_M_squaresOf' hU hk hl) ⟨hU.1.1, by omega, by omega, fun c2 => ?_, fun c2 => ?_⟩)
        · have h9 := ih (k + 1, υ) (by show M.2.2.length - (k + 1) < M.2.2.length - k; omega) ⟨by show k + 1 ≤ _; omega, j2⟩
          simp only at h9
          rw [sum_take_succ hlt, hA, hL] at h9
          rw [show s = L.2.length by omega, List.take_length]
          exact h9
        · have hsl : s < L.2.length := by omega
          have hs : sqAt M k s = some (L.2[s]) := by simp [sqAt, hl, sqIn, hsl]
          generalize ht : L.2[s] = t at hs
          refine WMv.mono (c_M_takes' hU hk hs) (fun ω hp hq => ?_)
          obtain ⟨a1, a2, a3, a4, a5, a6, a7⟩ := hU.1.2.2.sq hk hs
          have hO := hq.1.fix hU.1.1 (by decide)
          generalize hB : A + ((L.2.take s).map (lc c)).sum = B at *
          have nodes : ∀ q : Nat, q ≤ (rc 0 t).length → WP E m_M_standing (d + 2) 37 [(0, aP 42), (1, aI c), (2, aI ((B + cntL c ((rc 0 t).take q) : Nat))), (3, aI k), (4, aI s), (5, aI q)] [] ω (fun r τ => ∃ v, r = some (aI v) ∧ σ.2 <+: τ.2 ∧ v = lcMo c M ∧ Fr [(50, -1), (42, 10)] σ τ) := by
            refine lpx (fun q => (rc 0 t).length - q) _ _ (fun q hq2 ih3 => ?_)
            have hsz := hq.2.1
            refine b_M_standing_37 _ _ _ _ _ hO ⟨by omega, by omega, fun c3 => ?_, fun c3 => ⟨by omega, ?_⟩⟩
            · have h9 := ih2 (s + 1, ω) (by show L.2.length - (s + 1) < L.2.length - s; omega) ⟨by show s + 1 ≤ _; omega, j2.tr hq.1⟩
              simp only at h9
              rw [sum_take_succ hsl, ← Nat.add_assoc, hB, ht] at h9
              rw [show q = (rc 0 t).length by omega, List.take_length, rc_cntL c a5.1]
              exact h9
            · have hql : q < (rc 0 t).length := by omega
              have e1 := hq.2.2.get (k := q) (by omega) (by omega)
              rw [show ((q : Int) - 0).toNat = q by omega] at e1
              have e2 := a7.at hq.2.2 (i := q) (by omega) (by omega)
              have h9 := ih3 (q + 1) (by omega) (by omega)
              have e3 : cntL c ((rc 0 t).take (q + 1)) = cntL c ((rc 0 t).take q) + (if ω.1 50 q < 200 ∧ ω.1 50 q % 100 - 1 = c then 1 else 0) := by
                rw [take_succ_getD hql, cntL_app, ← e1]
                simp [cntL]
              rw [e3] at h9
              refine wmi_p (c_M_isSign (by omega)) ⟨hO, b2i_r _, fun c4 => ?_, fun c4 => ?_⟩
              · rw [b2i_0] at c4
                rw [if_neg (fun z => c4 z.1)] at h9
                exact b_M_standing_76 _ _ _ _ _ h9
              · rw [b2i_n0] at c4
                refine ⟨by omega, wmi_p (c_M_letterOf (by omega)) ⟨by omega, by omega, fun c5 => ?_, fun c5 => ?_⟩⟩
                · rw [if_neg (fun z => c5 z.2)] at h9
                  exact b_M_standing_76 _ _ _ _ _ h9
                · rw [if_pos ⟨c4, c5⟩, ← Nat.add_assoc] at h9
                  exact b_M_standing_76 _ _ _ _ _ h9
          exact nodes 0 (by omega)
      exact squares (0, τ) ⟨Nat.zero_le _, i2⟩
  exact lines (0, σ) ⟨Nat.zero_le _, Fr.refl _ _⟩
theorem c_M_sign {c w : Int} (h : RS σ T M P tp) (hk : okD T M P tp) (h1 : rI c) (h2 : rI w) : WMi E m_M_sign (d + 3) [aP 42, aI c, aI w] σ (fun r τ => r = sp_sign T M c w ∧ Fr [(50, -1), (42, 10)] σ τ) := by
  have hF := h.1.1
  have fin : ∀ v, v = sp_sign T M c w → ∃ u, some (aI v) = some (aI u) ∧ σ.2 <+: σ.2 ∧ u = sp_sign T M c w ∧ Fr [(50, -1), (42, 10)] σ σ := fun v hv => ⟨v, rfl, List.prefix_refl _, hv, Fr.refl _ _⟩
  refine e_M_sign _ _ hF (wmi_p (c_M_in h1 (by decide) (by decide)) ⟨hF, b2i_r _, fun c1 => fin _ ?_, fun c1 => wmi_p (c_M_in h2 (by decide) (by decide)) ⟨hF, b2i_r _, fun c2 => wmi_p (c_M_isTold hF h1 (h.tabI hk.1)) ⟨hF, b2i_r _, fun c3 => ⟨h2, fun c4 => ⟨?_, fin _ ?_⟩, fun c4 => ⟨?_, fin _ ?_⟩, fun c4 => ⟨?_, fin _ ?_⟩, fun c4 => ⟨?_, fin _ ?_⟩, fun c4 => ?_⟩, fun c3 => fin _ ?_⟩, fun c2 => fin _ ?_⟩⟩)
  · rw [b2i_0] at c1
    unfold sp_sign; rw [if_neg (by omega)]
  · rw [b2i_n0] at c1; omega
  · rw [b2i_n0] at c1 c2 c3
    have q := h.1.2.1 c.toNat (by omega)
    rw [show ((c.toNat : Nat) : Int) = c by omega] at q
    unfold sp_sign; rw [if_pos (by omega), if_pos (by omega), if_pos c4]; exact q.1
  · rw [b2i_n0] at c1; omega
  · rw [b2i_n0] at c1 c2 c3
    have q := h.1.2.1 c.toNat (by omega)
    rw [show ((c.toNat : Nat) : Int) = c by omega] at q
    unfold sp_sign; rw [if_pos (by omega), if_pos (by omega), if_neg (by omega), if_pos c4]; exact q.2.1
  · rw [b2i_n0] at c1; omega
  · rw [b2i_n0] at c1 c2 c3
    have q := h.1.2.1 c.toNat (by omega)
    rw [show ((c.toNat : Nat) : Int) = c by omega] at q
    unfold sp_sign; rw [if_pos (by omega), if_pos (by omega), if_neg (by omega), if_neg (by omega), if_pos c4]; exact q.2.2.1
  · rw [b2i_n0] at c1; omega
  · rw [b2i_n0] at c1 c2 c3
    have q := h.1.2.1 c.toNat (by omega)
    rw [show ((c.toNat : Nat) : Int) = c by omega] at q
    unfold sp_sign; rw [if_pos (by omega), if_pos (by omega), if_neg (by omega), if_neg (by omega), if_neg (by omega), if_pos c4]; exact q.2.2.2
  · rw [b2i_n0] at c1 c2 c3
    have q := h.1.2.1 c.toNat (by omega)
    rw [show ((c.toNat : Nat) : Int) = c by omega] at q
    have h9 := c_M_standing (E := E) (d := d) (c := c.toNat) h hk.2.1 (by omega)
    rw [show ((c.toNat : Nat) : Int) = c by omega] at h9
    refine WMi.mono h9 (fun r τ hp hq => ⟨_, rfl, hp, ?_, hq.2⟩)
    unfold sp_sign; rw [if_pos (by omega), if_pos (by omega), if_neg (by omega), if_neg (by omega), if_neg (by omega), if_neg (by omega)]; exact hq.1
  · rw [b2i_n0] at c1 c2
    rw [b2i_0] at c3
    have q := h.1.2.1 c.toNat (by omega)
    rw [show ((c.toNat : Nat) : Int) = c by omega] at q
    unfold sp_sign; rw [if_pos (by omega), if_neg (by omega)]
  · rw [b2i_0] at c2
    unfold sp_sign; rw [if_neg (by omega)]
end MCount
