/-! SAME: a tree's nodes and its code tell it; FEED -/
theorem cC_inj : ∀ (t u : Tr) (R R' : List Int), okw t → okw u → cC t ++ R = cC u ++ R' → t = u ∧ R = R' := by
  intro t
  induction t with
  | var l =>
    intro u R R' ht hu e
    have h1 : vN l < 26 := ht
    cases u with
    | var m => simp [cC] at e; exact ⟨by have e1 := e.1; have : vN l = vN m := (by omega); show Lean.Grind.CommRing.Expr.var l = Lean.Grind.CommRing.Expr.var m; exact congrArg _ this, e.2⟩
    | pow w m => simp [cC] at e; omega
    | mul x y => simp [cC] at e; omega
    | add x y => simp [cC] at e; omega
    | _ => exact absurd hu (by simp [okw])
  | pow w l ih =>
    intro u R R' ht hu e
    have h1 := ht.2
    cases u with
    | var m => have h2 : vN m < 26 := hu; simp [cC] at e; omega
    | pow w' m =>
      simp [cC] at e
      have e1 : l = m := by omega
      have := ih w' R R' ht.1 hu.1 e.2
      exact ⟨by rw [e1, this.1], this.2⟩
    | mul x y => simp [cC] at e; omega
    | add x y => simp [cC] at e; omega
    | _ => exact absurd hu (by simp [okw])
  | mul a b iha ihb =>
    intro u R R' ht hu e
    cases u with
    | var m => have h2 : vN m < 26 := hu; simp [cC] at e; omega
    | pow w' m => have h2 := hu.2; simp [cC] at e; omega
    | mul x y =>
      simp [cC] at e
      have e1 := iha x _ _ ht.1 hu.1 e
      have e2 := ihb y _ _ ht.2 hu.2 e1.2
      exact ⟨by rw [e1.1, e2.1], e2.2⟩
    | add x y => simp [cC] at e
    | _ => exact absurd hu (by simp [okw])
  | add a b iha ihb =>
    intro u R R' ht hu e
    cases u with
    | var m => have h2 : vN m < 26 := hu; simp [cC] at e; omega
    | pow w' m => have h2 := hu.2; simp [cC] at e; omega
    | mul x y => simp [cC] at e
    | add x y =>
      simp [cC] at e
      have e1 := iha x _ _ ht.1 hu.1 e
      have e2 := ihb y _ _ ht.2 hu.2 e1.2
      exact ⟨by rw [e1.1, e2.1], e2.2⟩
    | _ => exact absurd hu (by simp [okw])
  | _ => intro u R R' ht; exact absurd ht (by simp [okw])
theorem unM_pM : ∀ {t : Tr}, unM (pM t) = t := by
  intro t
  induction t with
  | mul a b _ ih =>
    simp only [pM]
    cases h : pM b with
    | nil => have := pM_len b; rw [h] at this; have := nM_pos b; simp at *; omega
    | cons x r => rw [h] at ih; simp only [unM, ih]
  | _ => rfl
theorem unA_pA : ∀ {t : Tr}, unA (pA t) = t := by
  intro t
  induction t with
  | add a b _ ih =>
    simp only [pA]
    cases h : pA b with
    | nil => have := pA_len b; rw [h] at this; have := nA_pos b; simp at *; omega
    | cons x r => rw [h] at ih; simp only [unA, ih]
  | _ => rfl
theorem rc_inj : ∀ (n : Nat) (t u : Tr) (R R' : List Int), (rc 0 t).length ≤ n → ok t → ok u → sg t ≤ 50 → sg u ≤ 50 → rc 0 t ++ R = rc 0 u ++ R' → t = u ∧ R = R' := by
  intro n
  induction n with
  | zero => intro t u R R' hn ht; have := (rc_len2 ht 0).2; have := sg_pos ht; omega
  | succ n ih =>
    intro t u R R' hn ht hu h1 h2 e
    have forest : ∀ (ts us : List Tr) (R R' : List Int), (fr ts).length ≤ n → (∀ x ∈ ts, ok x ∧ sg x ≤ 50) → (∀ x ∈ us, ok x ∧ sg x ≤ 50) → ts.length = us.length → fr ts ++ R = fr us ++ R' → ts = us ∧ R = R' := by
      intro ts
      induction ts with
      | nil =>
        intro us R R' _ _ _ hl e
        have : us = [] := List.eq_nil_of_length_eq_zero (by simpa using hl.symm)
        subst this
        exact ⟨rfl, by simpa [fr] using e⟩
      | cons x xs ih2 =>
        intro us R R' hf hx hy hl e
        cases us with
        | nil => simp at hl
        | cons y ys =>
          rw [fr_cons, fr_cons, List.append_assoc, List.append_assoc] at e
          rw [fr_cons, List.length_append] at hf
          have e1 := ih x y _ _ (by omega) (hx x List.mem_cons_self).1 (hy y List.mem_cons_self).1 (hx x List.mem_cons_self).2 (hy y List.mem_cons_self).2 e
          have e2 := ih2 ys R R' (by omega) (fun z hz => hx z (List.mem_cons_of_mem _ hz)) (fun z hz => hy z (List.mem_cons_of_mem _ hz)) (by simpa using hl) e1.2
          exact ⟨by rw [e1.1, e2.1], e2.2⟩
    have e0 := e
    rw [rc0_nd ht, rc0_nd hu, List.cons_append, List.cons_append, List.cons.injEq] at e
    have p1 := nd_pts ht h1
    have p2 := nd_pts hu h2
    have hlen : (ch t).length = (ch u).length := by have := p1.1; have := p2.1; rw [e.1] at *; omega
    have hfl : (fr (ch t)).length ≤ n := by rw [rc0_nd ht, List.length_cons] at hn; omega
    have hch := forest (ch t) (ch u) R R' hfl (fun x hx => ⟨(ch_ok ht x hx).1, by have := (ch_ok ht x hx).2; omega⟩) (fun x hx => ⟨(ch_ok hu x hx).1, by have := (ch_ok hu x hx).2; omega⟩) hlen e.2
    refine ⟨?_, hch.2⟩
    have hnd := e.1
    have c1 := hch.1
    cases t with
    | var l =>
      have g1 : vN l < 26 := ht
      cases u with
      | var m => simp only [nd] at hnd; have : vN l = vN m := (by omega); exact congrArg Lean.Grind.CommRing.Expr.var this
      | pow w m => simp [ch] at c1
      | mul x y => have := nM_pos (.mul x y); simp only [nd] at hnd; omega
      | add x y => have := nA_pos (.add x y); simp only [nd] at hnd; omega
      | _ => exact absurd hu (by simp [ok])
    | pow w l =>
      have g1 := ht.2
      cases u with
      | var m => simp [ch] at c1
      | pow w' m => simp only [nd] at hnd; simp [ch] at c1; have : l = m := (by omega); rw [this, c1]
      | mul x y => have := nM_pos (.mul x y); simp only [nd] at hnd; omega
      | add x y => have := nA_pos (.add x y); simp only [nd] at hnd; omega
      | _ => exact absurd hu (by simp [ok])
    | mul a b =>
      have g1 := nM_le ht
      cases u with
      | var m => have g2 : vN m < 26 := hu; simp only [nd] at hnd; omega
      | pow w' m => have g2 := hu.2; simp only [nd] at hnd; omega
      | mul x y => have := congrArg unM c1; simp only [ch] at this; rw [unM_pM, unM_pM] at this; exact this
      | add x y => have := nA_pos (.add x y); simp only [nd] at hnd; omega
      | _ => exact absurd hu (by simp [ok])
    | add a b =>
      have g1 := nA_le ht
      have g3 := nA_pos (.add a b)
      cases u with
      | var m => have g2 : vN m < 26 := hu; simp only [nd] at hnd; omega
      | pow w' m => have g2 := hu.2; simp only [nd] at hnd; omega
      | mul x y => have := nM_le hu; simp only [nd] at hnd; omega
      | add x y => have := congrArg unA c1; simp only [ch] at this; rw [unA_pA, unA_pA] at this; exact this
      | _ => exact absurd hu (by simp [ok])
    | _ => exact absurd ht (by simp [ok])
theorem rc_cC {t u : Tr} (ht : ok t) (hu : ok u) (h1 : sg t ≤ 50) (h2 : sg u ≤ 50) : (rc 0 t = rc 0 u) ↔ (cC t = cC u) := by
  constructor
  · intro e; rw [(rc_inj _ t u [] [] (Nat.le_refl _) ht hu h1 h2 (by rw [e])).1]
  · intro e; rw [(cC_inj t u [] [] ht.w hu.w (by rw [e])).1]
section CSame
variable {E : EV} {d : Nat} {σ : St} {b : Int} {T : Tb} {M : Mo} {P : List Mo} {tp : List Int}
theorem c_S_same {l s l2 s2 : Int} (h : CS σ b T M P tp) (hk : okMo T M) (h1 : rI l) (h2 : rI s) (h3 : rI l2) (h4 : rI s2) : WMi E m_S_same (d + 5) [aP 1, aI l, aI s, aI l2, aI s2] σ (fun r τ => r = sp_same M l s l2 s2 ∧ τ = σ) := by
  refine e_S_same _ _ _ _ h.1.1 (WMr.mono (c_S_squareAt h hk h1 h2) (fun r τ _ hq => ?_))
  obtain ⟨hq1, rfl⟩ := hq
  refine ⟨h.1.1, WMr.mono (c_S_squareAt h hk h3 h4) (fun r2 τ2 _ hq => ?_)⟩
  obtain ⟨hq2, rfl⟩ := hq
  have o1 := hk.oOk l s
  have o2 := hk.oOk l2 s2
  unfold sp_same
  cases hs : sqAt M l s with
  | none => rw [hs] at hq1; exact ⟨fun c => ri_p rfl, fun c => absurd hq1 c⟩
  | some t =>
    cases hs2 : sqAt M l2 s2 with
    | none => rw [hs2] at hq2; exact ⟨fun c => ri_p rfl, fun c => ⟨fun c2 => absurd hq2 c2, fun c2 => ri_p rfl⟩⟩
    | some u =>
      rw [hs] at hq1 o1
      rw [hs2] at hq2 o2
      have c1 := o1.cc
      have c2 := o2.cc
      have e := rc_cC o1.1 o2.1 (by have := o1.2.1; omega) (by have := o2.2.1; omega)
      refine ⟨fun c => absurd c hq1.1, fun _ => ⟨fun _ => ⟨hq1.2.2.1, wmi_p (c_Sq_isLike hq1.2.2 hq2.2.2 (by omega) (by omega) (cC_sym c1.1) (cC_sym c2.1)) ⟨b2i_r _, fun q => ri_p ?_, fun q => ri_p ?_⟩⟩, fun c => absurd c hq2.1⟩⟩
      · rw [b2i_0, ← e] at q; show _ = (if rc 0 t = rc 0 u then _ else _); rw [if_neg q]
      · rw [b2i_n0, ← e] at q; show _ = (if rc 0 t = rc 0 u then _ else _); rw [if_pos q]
end CSame
