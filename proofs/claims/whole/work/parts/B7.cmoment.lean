/-! MOMENTS, AND THE CLASS'S STATE -/
section CMoment
variable {E : EV} {d : Nat} {σ : St} {a b l : Int} {M : Mo}
theorem c_Moment_get (h : MoC b σ a M) (hn : M.2.2.length ≤ 1000) (h1 : rI l) : WMr E m_Moment_get d [aP a, aI l] σ (fun r τ => r = rf σ a M.2.2.length l ∧ τ = σ) := by
  have hs := h.2.2.1
  refine e_Moment_get _ _ ⟨h1, fun c => rr_p ?_, fun c => ⟨h.2.1, ⟨_, hs⟩, h1, by rw [ln_of hs]; omega, fun c2 => rr_p ?_, fun c2 => ⟨h.2.1, ?_, rr_p ?_⟩⟩⟩
  · unfold rf; rw [if_neg (by omega)]
  · rw [ln_of hs] at c2; unfold rf; rw [if_neg (by omega)]
  · rw [ln_of hs] at c2; exact ⟨_, hs, by omega, by omega, by omega⟩
  · rw [ln_of hs] at c2; unfold rf; rw [if_pos (by omega)]
theorem rf_ln (h : MoC b σ a M) {L : Ln} (hl : lnAt M l = some L) : LnC b σ (rf σ a M.2.2.length l) L ∧ rf σ a M.2.2.length l ≠ 0 := by
  have h1 := h.ln hl
  have : LnC b σ (rf σ a M.2.2.length l) L := by unfold rf; rw [if_pos h1.1]; exact h1.2
  exact ⟨this, by have := (sh_len this.2.1).1; omega⟩
theorem rf_lnone (hl : lnAt M l = none) : rf σ a M.2.2.length l = 0 := if_neg (lnAt_none hl)
def okLs (M : Mo) : Prop := M.2.2.length ≤ 1000 ∧ ∀ L ∈ M.2.2, okQs L
theorem okMo.ls {T : Tb} (h : okMo T M) : okLs M := ⟨by have := h.2.2.1; omega, fun L hL => (h.2.2.2 L hL).qs⟩
theorem c_Moment_squares (h : MoC b σ a M) (hk : okLs M) : WMi E m_Moment_squares (d + 1) [aP a] σ (fun r τ => r = ((M.2.2.map (fun L : Ln => L.2.length)).sum : Nat) ∧ τ = σ) := by
  have hsz := hk.1
  refine e_Moment_squares _ ⟨h.2.1, ⟨_, h.2.2.1⟩, ?_⟩
  rw [ln_of h.2.2.1]
  refine lpu M.2.2.length (fun k τ => ∀ n : Nat, n = ((M.2.2.take k.toNat).map (fun L : Ln => L.2.length)).sum → WP E m_Moment_squares (d + 1) 13 [(1, aI n), (2, aP (σ.1 a 0)), (3, aI M.2.2.length), (4, aI k)] [] τ _) (fun k τ => (0 ≤ k ∧ k ≤ M.2.2.length) ∧ τ = σ) (fun k τ hI ih n hn => ?_) 0 σ ⟨by omega, rfl⟩ 0 (by simp)
  obtain ⟨i1, rfl⟩ := hI
  refine b_Moment_squares_13 _ _ _ _ ⟨by omega, by omega, fun c => ri_p (by rw [hn, List.take_of_length_le (by omega)]), fun c => ?_⟩
  obtain ⟨t, ht⟩ : ∃ t, M.2.2[k.toNat]? = some t := ⟨_, List.getElem?_eq_getElem (by omega)⟩
  have hsq := h.2.2.2.2 _ _ ht
  rw [show ((k.toNat : Nat) : Int) = k by omega] at hsq
  have hp := (sh_len hsq.2.1).1
  refine ⟨⟨_, h.2.2.1, by omega, by omega, by omega⟩, fun _ => ⟨hsq.2.1, wmi_p (c_Line_size hsq) (b_Moment_squares_40 _ _ _ _ _ ?_)⟩, fun q => by omega⟩
  have := ih (by omega) τ ⟨by omega, rfl⟩ (n + t.2.length) (by rw [show (k + 1).toNat = k.toNat + 1 by omega, sum_take _ ht, hn])
  rw [show (n : Int) + (t.2.length : Int) = ((n + t.2.length : Nat) : Int) by omega]
  exact this
theorem c_Moment_signs (h : MoC b σ a M) (hk : okLs M) : WMi E m_Moment_signs (d + 4) [aP a] σ (fun r τ => r = ((M.2.2.map (fun L : Ln => (L.2.map sg).sum)).sum : Nat) ∧ τ = σ) := by
  have hsz := hk.1
  refine e_Moment_signs _ ⟨h.2.1, ⟨_, h.2.2.1⟩, ?_⟩
  rw [ln_of h.2.2.1]
  refine lpu M.2.2.length (fun k τ => ∀ n : Nat, n = ((M.2.2.take k.toNat).map (fun L : Ln => (L.2.map sg).sum)).sum → WP E m_Moment_signs (d + 4) 13 [(1, aI n), (2, aP (σ.1 a 0)), (3, aI M.2.2.length), (4, aI k)] [] τ _) (fun k τ => (0 ≤ k ∧ k ≤ M.2.2.length) ∧ τ = σ) (fun k τ hI ih n hn => ?_) 0 σ ⟨by omega, rfl⟩ 0 (by simp)
  obtain ⟨i1, rfl⟩ := hI
  refine b_Moment_signs_13 _ _ _ _ ⟨by omega, by omega, fun c => ri_p (by rw [hn, List.take_of_length_le (by omega)]), fun c => ?_⟩
  obtain ⟨t, ht⟩ : ∃ t, M.2.2[k.toNat]? = some t := ⟨_, List.getElem?_eq_getElem (by omega)⟩
  have hsq := h.2.2.2.2 _ _ ht
  rw [show ((k.toNat : Nat) : Int) = k by omega] at hsq
  have hp := (sh_len hsq.2.1).1
  refine ⟨⟨_, h.2.2.1, by omega, by omega, by omega⟩, fun _ => ⟨hsq.2.1, wmi_p (c_Line_signs hsq (hk.2 t (List.mem_of_getElem? ht))) (b_Moment_signs_40 _ _ _ _ _ ?_)⟩, fun q => by omega⟩
  have := ih (by omega) τ ⟨by omega, rfl⟩ (n + (t.2.map sg).sum) (by rw [show (k + 1).toNat = k.toNat + 1 by omega, sum_take _ ht, hn])
  rw [show (n : Int) + ((t.2.map sg).sum : Int) = ((n + (t.2.map sg).sum : Nat) : Int) by omega]
  exact this
theorem Nw.moc {kd n : Nat} {f : Int → Int} {k : Int} {τ : St} (hw : Nw kd σ n f k τ) (h : MoC b σ a M) (hb : 92 ≤ b) : MoC b τ a M := h.cf (hw.cf []) rfl hb
theorem Nw.rf_m {kd n : Nat} {f : Int → Int} {k : Int} {τ : St} (hw : Nw kd σ n f k τ) (h : MoC b σ a M) (m : Nat) (s : Int) : rf τ a m s = rf σ a m s := by
  have l1 := sh_len h.2.1
  have l2 := sh_len h.2.2.1
  unfold rf
  rw [hw.2.1 a 0 (by unfold nx; omega), hw.2.1 (σ.1 a 0) s (by unfold nx; omega)]
theorem c_Moment_with {x : Int} (h : MoC b σ a M) (hb : 92 ≤ b) (hn : M.2.2.length ≤ 1000) (h1 : rI l) (hx : sh σ x = some (3, 2)) : WMr E m_Moment_with (d + 2) [aP a, aI l, aP x] σ (fun r τ => New2 25 4 3 σ M.2.2.length (fun k => if k = l then x else rf σ a M.2.2.length k) r τ ∧ τ.1 r 1 = M.1 ∧ τ.1 r 2 = M.2.1) := by
  refine e_Moment_with _ _ _ ⟨h.2.1, ⟨_, h.2.2.1⟩, by rw [ln_of h.2.2.1]; omega, ?_⟩
  rw [ln_of h.2.2.1, show ((M.2.2.length : Nat) : Int).toNat = M.2.2.length by omega]
  refine lpu M.2.2.length (fun k τ => WP E m_Moment_with (d + 2) 12 [(0, aP a), (1, aI l), (2, aP x), (3, aP (nx σ)), (4, aI k)] [] τ _) (fun k τ => (0 ≤ k ∧ k ≤ M.2.2.length) ∧ Nw 25 σ M.2.2.length (fun k => if k = l then x else rf σ a M.2.2.length k) k τ) (fun k τ hI ih => ?_) 0 _ ⟨by omega, Nw.start _ _ _ _⟩
  obtain ⟨i1, i2⟩ := hI
  have hT := i2.moc h hb
  have l1 := sh_len h.2.1
  have hpl := (i2.cf []).1.length_le
  refine b_Moment_with_12 _ _ _ _ _ ⟨⟨_, i2.sh_⟩, by omega, by rw [ln_of i2.sh_]; omega, fun c => ?_, fun c => ?_⟩
  · rw [ln_of i2.sh_] at c
    obtain rfl : k = M.2.2.length := by omega
    have e1 : (al τ 4 3).1 a 1 = M.1 := by rw [al_old (by omega), hT.2.2.2.1.1]
    have e2 : (al τ 4 3).1 a 2 = M.2.1 := by rw [al_old (by omega), hT.2.2.2.1.2]
    rw [e1, e2]
    have hs1 : sh (al τ 4 3) (nx τ) = some (4, 3) := sh_nx τ 4 3
    have n2 : New2 25 4 3 σ M.2.2.length (fun k => if k = l then x else rf σ a M.2.2.length k) (nx τ) (wr (wr (wr (al τ 4 3) (nx τ) 0 (nx σ)) (nx τ) 1 M.1) (nx τ) 2 M.2.1) := by
      refine i2.new2 (ci := 4) (N := 3) ?_ (fun b j hb => ?_) ?_
      · rw [wr_2, wr_2, wr_2]
      · rw [wr_na _ hb, wr_na _ hb, wr_na _ hb]; exact if_neg hb
      · rw [wr_nk _ (by decide), wr_nk _ (by decide), wr_same]
    refine ⟨sh_al hT.2.1, sh_al hT.2.1, nx_pos _, e_Moment_init _ _ _ _ ⟨nx_pos τ, hs1, hs1, hs1, rfl, List.prefix_refl _, _, rfl, n2.1.1, n2, ?_, ?_⟩⟩
    · rw [wr_nk _ (by decide), wr_same]
    · rw [wr_same]
  · rw [ln_of i2.sh_] at c
    have hpx := sh_pre (i2.cf []).1 hx
    refine ⟨by omega, h1, fun c2 => ⟨hT.2.1, wmr_p (c_Moment_get hT hn (by omega)) ?_⟩, fun c2 => ?_⟩
    · refine b_Moment_with_38 _ _ _ _ _ _ _ _ ⟨⟨_, i2.sh_, by omega, by omega, by omega⟩, ?_, ih (by omega) _ ⟨by omega, i2.step ?_⟩⟩
      · right
        have := hT.2.2.2.2 k.toNat _ (List.getElem?_eq_getElem (by omega))
        rw [show ((k.toNat : Nat) : Int) = k by omega] at this
        unfold rf; rw [if_pos (by omega)]; exact this.2.1
      · rw [if_neg c2, i2.rf_m h]
    · refine b_Moment_with_38 _ _ _ _ _ _ _ _ ⟨⟨_, i2.sh_, by omega, by omega, by omega⟩, Or.inr hpx, ih (by omega) _ ⟨by omega, i2.step ?_⟩⟩
      rw [if_pos c2]
end CMoment
/-- the arranger's memory: what it found for a square that is younger than the last text -/
def CK (σ : St) (b : Int) (T : Tb) : Prop := σ.1 32 10 = 0 ∨ ∃ t u, (SqC 92 σ (σ.1 32 10) t ∧ SqC 92 σ (σ.1 32 13) u) ∧ (b < σ.1 32 10 → (okS T u ∧ okS T t ∧ rI (σ.1 32 11) ∧ rI (σ.1 32 12)) ∧ b < σ.1 32 13 ∧ b < σ.1 (σ.1 32 13) 0 ∧ ∀ M : Mo, M.1 = σ.1 32 11 → M.2.1 = σ.1 32 12 → bstO T M t = some u)
/-- the class's memory holds this state; every square of it lies behind b -/
def CS (σ : St) (b : Int) (T : Tb) (M : Mo) (P : List Mo) (tp : List Int) : Prop :=
  (Fix σ ∧ 92 ≤ b ∧ b ≤ σ.2.length) ∧ (TabC σ (σ.1 1 0) T ∧ MoC b σ (σ.1 1 1) M) ∧ (σ.1 1 3 = P.length ∧ ∀ (i : Nat) (m : Mo), P[i]? = some m → MoC b σ (σ.1 9 i) m) ∧ (σ.1 12 1 = tp.length ∧ ∀ (i : Nat) (x : Int), tp[i]? = some x → σ.1 13 i = Int.bmod x 256) ∧ CK σ b T
/-- places of the class that are no part of its state -/
def cX : List (Int × Int) := [(10, 1), (11, -1), (23, 7), (24, -1), (25, -1), (26, -1), (27, -1), (28, -1), (29, -1), (30, -1), (31, -1), (32, 7), (33, -1), (34, -1), (35, -1), (36, -1), (37, -1), (38, -1), (39, -1), (40, -1), (41, -1)]
theorem CK.cf {n m : Nat} {X : List (Int × Int)} {σ τ : St} {b : Int} {T : Tb} (h : CK σ b T) (hf : Cf n m X σ τ) (hX : imX X = true) (he : ∀ k, 10 ≤ k → k ≤ 13 → τ.1 32 k = σ.1 32 k) : CK τ b T := by
  unfold CK
  rw [he 10 (by omega) (by omega), he 13 (by omega) (by omega), he 11 (by omega) (by omega), he 12 (by omega) (by omega)]
  rcases h with h | ⟨t, u, ⟨h1, h2⟩, h3⟩
  · exact Or.inl h
  · refine Or.inr ⟨t, u, ⟨h1.cf hf (imX_lt hX (by omega)), h2.cf hf (imX_lt hX (by omega))⟩, fun q => ?_⟩
    rw [hf.old (imX_lt hX (by omega)) h2.1.1 h2.2.1]
    exact h3 q
section CState
variable {E : EV} {d : Nat} {σ : St} {b : Int} {T : Tb} {M : Mo} {P : List Mo} {tp : List Int}
theorem CS.cf {n m : Nat} {τ : St} (h : CS σ b T M P tp) (hf : Cf n m cX σ τ) : CS τ b T M P tp := by
  obtain ⟨⟨h1, h2, h2'⟩, ⟨h3, h4⟩, ⟨h5, h6⟩, ⟨h7, h8⟩, h9⟩ := h
  have hl := h1.len
  have e : ∀ a k : Int, a ≤ 92 → frO cX a k = true → τ.1 a k = σ.1 a k := fun a k ha hk => hf.2.2 a k (by omega) hk
  have e9 : ∀ k, τ.1 9 k = σ.1 9 k := fun k => e 9 k (by omega) rfl
  have e13 : ∀ k, τ.1 13 k = σ.1 13 k := fun k => e 13 k (by omega) rfl
  refine ⟨⟨hf.fix h1 (by decide), h2, by have := hf.1.length_le; omega⟩, ⟨?_, ?_⟩, ⟨?_, fun i m hm => ?_⟩, ⟨?_, fun i x hx => ?_⟩, h9.cf hf rfl (fun k q1 q2 => e 32 k (by omega) ?_)⟩
  · rw [e 1 0 (by omega) rfl]; exact h3.cf hf rfl
  · rw [e 1 1 (by omega) rfl]; exact h4.cf hf rfl h2
  · rw [e 1 3 (by omega) rfl]; exact h5
  · rw [e9]; exact (h6 i m hm).cf hf rfl h2
  · rw [e 12 1 (by omega) rfl]; exact h7
  · rw [e13]; exact h8 i x hx
  · simp [cX, frO]; omega
/-- a square's cell, 0 for none; a line's -/
def SqR (b : Int) (σ : St) (r : Int) : Option Tr → Prop
  | none => r = 0
  | some t => r ≠ 0 ∧ SqC b σ r t
def LnR (b : Int) (σ : St) (r : Int) : Option Ln → Prop
  | none => r = 0
  | some L => r ≠ 0 ∧ LnC b σ r L
theorem MoC.lnR {a l : Int} (h : MoC b σ a M) : LnR b σ (rf σ a M.2.2.length l) (lnAt M l) := by
  cases hl : lnAt M l with
  | none => exact rf_lnone hl
  | some L => exact ⟨(rf_ln h hl).2, (rf_ln h hl).1⟩
theorem LnC.sqR {a s : Int} {L : Ln} (h : LnC b σ a L) : SqR b σ (rf σ a L.2.length s) (sqIn L s) := by
  cases hl : sqIn L s with
  | none => exact rf_none hl
  | some L => exact ⟨(rf_sq h hl).2, (rf_sq h hl).1⟩
theorem c_S_lineAt {l : Int} (h : CS σ b T M P tp) (hk : okMo T M) (h1 : rI l) : WMr E m_S_lineAt (d + 1) [aP 1, aI l] σ (fun r τ => LnR b σ r (lnAt M l) ∧ τ = σ) :=
  e_S_lineAt _ h.1.1 ⟨h.2.1.2.2.1, wmr_p (c_Moment_get h.2.1.2 hk.ls.1 h1) ⟨_, rfl, List.prefix_refl _, h.2.1.2.lnR, rfl⟩⟩
theorem c_S_squareAt {l s : Int} (h : CS σ b T M P tp) (hk : okMo T M) (h1 : rI l) (h2 : rI s) : WMr E m_S_squareAt (d + 2) [aP 1, aI l, aI s] σ (fun r τ => SqR b σ r (sqAt M l s) ∧ τ = σ) := by
  have hR := h.2.1.2.lnR (l := l)
  refine e_S_squareAt _ _ h.1.1 ⟨h.2.1.2.2.1, wmr_p (c_Moment_get h.2.1.2 hk.ls.1 h1) ?_⟩
  unfold sqAt
  cases hl : lnAt M l with
  | none =>
    rw [hl] at hR
    exact ⟨fun c => absurd hR c, fun c => ⟨_, rfl, List.prefix_refl _, rfl, rfl⟩⟩
  | some L =>
    rw [hl] at hR
    have hq := (hk.ln hl).1.qs
    exact ⟨fun c => ⟨hR.2.2.1, wmr_p (c_Line_get hR.2 hq.1 h2) ⟨_, rfl, List.prefix_refl _, hR.2.sqR, rfl⟩⟩, fun c => absurd c hR.1⟩
/-- the square behind one -/
def sqBh (M : Mo) (l s : Int) : Option Tr := (lnAt M l).bind (fun L => if 0 ≤ s ∧ s < L.2.length then sqIn L (s + 1) else none)
theorem c_S_squareBehind {l s : Int} (h : CS σ b T M P tp) (hk : okMo T M) (h1 : rI l) (h2 : rI s) : WMr E m_S_squareBehind (d + 2) [aP 1, aI l, aI s] σ (fun r τ => SqR b σ r (sqBh M l s) ∧ τ = σ) := by
  have hR := h.2.1.2.lnR (l := l)
  refine e_S_squareBehind _ _ h.1.1 ⟨h.2.1.2.2.1, wmr_p (c_Moment_get h.2.1.2 hk.ls.1 h1) ?_⟩
  unfold sqBh
  cases hl : lnAt M l with
  | none =>
    rw [hl] at hR
    exact ⟨fun c => ⟨_, rfl, List.prefix_refl _, rfl, rfl⟩, fun c => absurd hR c⟩
  | some L =>
    rw [hl] at hR
    have hq := (hk.ln hl).1.qs
    refine ⟨fun c => absurd c hR.1, fun c => ⟨hR.2.2.1, wmi_p (c_Line_has hR.2 hq.1 h2) ⟨b2i_r _, fun c2 => ?_, fun c2 => ?_⟩⟩⟩
    · rw [b2i_n0] at c2
      have := hq.1
      refine ⟨hR.2.2.1, wmr_p (c_Line_get hR.2 hq.1 (by omega)) ⟨_, rfl, List.prefix_refl _, ?_, rfl⟩⟩
      simp only [Option.bind_some, if_pos c2]
      exact hR.2.sqR
    · rw [b2i_0] at c2
      refine ⟨_, rfl, List.prefix_refl _, ?_, rfl⟩
      simp only [Option.bind_some, if_neg c2]
      rfl
end CState
