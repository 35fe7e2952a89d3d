/-! SIDE, GAP, UNDO, MIRROR, MOVE, EXCHANGE -/
section CAct2
variable {E : EV} {d : Nat} {σ : St} {b : Int} {T : Tb} {M M' : Mo} {P P' : List Mo} {tp : List Int}
theorem CRes.no {n m : Nat} {o : Option Mo} (h : o = none) : CRes n m σ b T M P tp o 0 σ := by
  subst h
  exact ⟨rfl, Cf.refl _ _ _ _⟩
/-- a new moment with the lines of now -/
theorem mo_new {x g : Int} (h : CS σ b T M P tp) : Cf 1 3 cX σ (wr (wr (wr (al σ 4 3) (nx σ) 0 (σ.1 (σ.1 1 1) 0)) (nx σ) 1 x) (nx σ) 2 g) ∧ MoC b (wr (wr (wr (al σ 4 3) (nx σ) 0 (σ.1 (σ.1 1 1) 0)) (nx σ) 1 x) (nx σ) 2 g) (nx σ) (x, g, M.2.2) := by
  have hl := h.1.1.len
  have hnx : nx σ = σ.2.length + 1 := rfl
  have hc : Cf 1 3 cX σ (wr (wr (wr (al σ 4 3) (nx σ) 0 (σ.1 (σ.1 1 1) 0)) (nx σ) 1 x) (nx σ) 2 g) := (((Cf.al_ σ 4 3 cX).new (by omega)).new (by omega)).new (by omega)
  have hm := h.2.1.2
  have e0 : (wr (wr (wr (al σ 4 3) (nx σ) 0 (σ.1 (σ.1 1 1) 0)) (nx σ) 1 x) (nx σ) 2 g).1 (nx σ) 0 = σ.1 (σ.1 1 1) 0 := by rw [wr_nk _ (by decide), wr_nk _ (by decide), wr_same]
  refine ⟨hc, ⟨Or.inr (by omega), by rw [e0]; exact hm.1.2⟩, sh_nx σ 4 3, by rw [e0]; exact sh_pre hc.1 hm.2.2.1, ⟨by rw [wr_nk _ (by decide), wr_same], by rw [wr_same]⟩, fun l L hL => ?_⟩
  have hmc := hm.cf hc rfl h.1.2.1
  have e1 : (wr (wr (wr (al σ 4 3) (nx σ) 0 (σ.1 (σ.1 1 1) 0)) (nx σ) 1 x) (nx σ) 2 g).1 (σ.1 1 1) 0 = σ.1 (σ.1 1 1) 0 := by rw [hc.oldI rfl hm.1.1 hm.2.1]
  have := hmc.2.2.2.2 l L hL
  rw [e1] at this
  rw [e0]
  exact this
theorem c_S_side {x : Int} (h : CS σ b T M P tp) (hk : okMo T M) (hP : P.length ≤ 12) (hx : rI x) : WMi E m_S_side (d + 2) [aP 1, aI x] σ (fun r τ => if (1 ≤ x ∧ x ≤ 24) ∧ x ≠ M.1 then r = M.1 ∧ Cf 1 3 caX σ τ ∧ CS τ b T (x, M.2.1, M.2.2) (push P M) tp else r = -1 ∧ τ = σ) := by
  have hF := h.1.1
  have hm := h.2.1.2
  have hs := hk.1
  have l1 := sh_len (sf_1 hF)
  have l2 := sh_len hm.2.1
  refine e_S_side _ hF ⟨hm.2.1, hx, fun c => ⟨_, rfl, List.prefix_refl _, ?_⟩, fun c => ⟨hx, fun c2 => ⟨_, rfl, List.prefix_refl _, ?_⟩, fun c2 => ⟨hx, by rw [hm.2.2.2.1.1]; omega, fun c3 => ?_, fun c3 => ⟨_, rfl, List.prefix_refl _, ?_⟩⟩⟩⟩
  · show (if (1 ≤ x ∧ x ≤ 24) ∧ x ≠ M.1 then _ else _)
    rw [if_neg (by omega)]; exact ⟨rfl, rfl⟩
  · show (if (1 ≤ x ∧ x ≤ 24) ∧ x ≠ M.1 then _ else _)
    rw [if_neg (by omega)]; exact ⟨rfl, rfl⟩
  · rw [hm.2.2.2.1.1] at c3
    have hcd : (1 ≤ x ∧ x ≤ 24) ∧ x ≠ M.1 := ⟨by omega, c3⟩
    simp only [if_pos hcd]
    have a1 : (al σ 4 3).1 1 1 = σ.1 1 1 := al_old (by omega)
    have a2 : ∀ k, (al σ 4 3).1 (σ.1 1 1) k = σ.1 (σ.1 1 1) k := fun k => al_old (by omega)
    rw [a1, a2, a2, hm.2.2.2.1.2]
    have hn := mo_new (x := x) (g := M.2.1) h
    have hS := h.cf hn.1
    have hs1 : sh (al σ 4 3) (nx σ) = some (4, 3) := sh_nx σ 4 3
    refine ⟨sh_al hm.2.1, sh_al hm.2.1, nx_pos _, e_Moment_init _ _ _ _ ⟨nx_pos σ, hs1, hs1, hs1, rfl, List.prefix_refl _, hS.1.1, WMv.mono (c_S_act hS hP hn.2) (fun υ hp2 hq => ⟨_, rfl, hn.1.1.trans hp2, hm.2.2.2.1.1, ?_, hq.2⟩)⟩⟩
    exact (hn.1.mono (Nat.le_refl _) (Nat.le_refl _) (by decide)).tr ((hq.1.cf 0 0).mono (Nat.le_refl _) (Nat.le_refl _) (by decide))
  · rw [hm.2.2.2.1.1] at c3
    show (if (1 ≤ x ∧ x ≤ 24) ∧ x ≠ M.1 then _ else _)
    rw [if_neg (fun q => q.2 c3)]; exact ⟨rfl, rfl⟩
theorem c_S_gap {x : Int} (h : CS σ b T M P tp) (hk : okMo T M) (hP : P.length ≤ 12) (hx : rI x) : WMi E m_S_gap (d + 2) [aP 1, aI x] σ (fun r τ => if (0 ≤ x ∧ x ≤ 3) ∧ x ≠ M.2.1 then r = M.2.1 ∧ Cf 1 3 caX σ τ ∧ CS τ b T (M.1, x, M.2.2) (push P M) tp else r = -1 ∧ τ = σ) := by
  have hF := h.1.1
  have hm := h.2.1.2
  have hs := hk.2.1
  have l1 := sh_len (sf_1 hF)
  have l2 := sh_len hm.2.1
  refine e_S_gap _ hF ⟨hm.2.1, hx, fun c => ⟨_, rfl, List.prefix_refl _, ?_⟩, fun c => ⟨hx, fun c2 => ⟨_, rfl, List.prefix_refl _, ?_⟩, fun c2 => ⟨hx, by rw [hm.2.2.2.1.2]; omega, fun c3 => ?_, fun c3 => ⟨_, rfl, List.prefix_refl _, ?_⟩⟩⟩⟩
  · show (if (0 ≤ x ∧ x ≤ 3) ∧ x ≠ M.2.1 then _ else _)
    rw [if_neg (by omega)]; exact ⟨rfl, rfl⟩
  · show (if (0 ≤ x ∧ x ≤ 3) ∧ x ≠ M.2.1 then _ else _)
    rw [if_neg (by omega)]; exact ⟨rfl, rfl⟩
  · rw [hm.2.2.2.1.2] at c3
    have hcd : (0 ≤ x ∧ x ≤ 3) ∧ x ≠ M.2.1 := ⟨by omega, c3⟩
    simp only [if_pos hcd]
    have a1 : (al σ 4 3).1 1 1 = σ.1 1 1 := al_old (by omega)
    have a2 : ∀ k, (al σ 4 3).1 (σ.1 1 1) k = σ.1 (σ.1 1 1) k := fun k => al_old (by omega)
    rw [a1, a2, a2, hm.2.2.2.1.1]
    have hn := mo_new (x := M.1) (g := x) h
    have hS := h.cf hn.1
    have hs1 : sh (al σ 4 3) (nx σ) = some (4, 3) := sh_nx σ 4 3
    refine ⟨sh_al hm.2.1, sh_al hm.2.1, nx_pos _, e_Moment_init _ _ _ _ ⟨nx_pos σ, hs1, hs1, hs1, rfl, List.prefix_refl _, hS.1.1, WMv.mono (c_S_act hS hP hn.2) (fun υ hp2 hq => ⟨_, rfl, hn.1.1.trans hp2, hm.2.2.2.1.2, ?_, hq.2⟩)⟩⟩
    exact (hn.1.mono (Nat.le_refl _) (Nat.le_refl _) (by decide)).tr ((hq.1.cf 0 0).mono (Nat.le_refl _) (Nat.le_refl _) (by decide))
  · rw [hm.2.2.2.1.2] at c3
    show (if (0 ≤ x ∧ x ≤ 3) ∧ x ≠ M.2.1 then _ else _)
    rw [if_neg (fun q => q.2 c3)]; exact ⟨rfl, rfl⟩
theorem c_S_undo0 (h : CS σ b T M [] tp) : WMi E m_S_undo d [aP 1] σ (fun r τ => r = -1 ∧ τ = σ) := by
  have h3 : σ.1 1 3 = 0 := h.2.2.1.1
  exact e_S_undo h.1.1 ⟨by rw [h3]; decide, fun c => ri_p rfl, fun c => by omega⟩
theorem c_S_undo1 {m : Mo} (h : CS σ b T M (P ++ [m]) tp) (hP : (P ++ [m]).length ≤ 12) : WMi E m_S_undo d [aP 1] σ (fun r τ => r = P.length ∧ Fr aX σ τ ∧ CS τ b T m P tp) := by
  have h3 : σ.1 1 3 = P.length + 1 := by rw [h.2.2.1.1]; simp
  have hb := h.1.2.1
  simp only [List.length_append, List.length_cons, List.length_nil] at hP
  have hm := h.2.2.1.2 P.length m (by simp)
  have hp := (sh_len hm.2.1).1
  have e : σ.1 1 3 - 1 = P.length := by omega
  refine e_S_undo h.1.1 ⟨by omega, fun c => by omega, fun c => ⟨by omega, fun c2 => ⟨by omega, fun c3 => ⟨by omega, _, rfl, List.prefix_refl _, e, ?_⟩, fun c3 => by rw [e] at c3; omega⟩, fun c2 => by omega⟩⟩
  have hf : Fr aX σ (wr (wr (wr σ 1 3 (σ.1 1 3 - 1)) 9 (σ.1 1 3 - 1) 0) 1 1 (σ.1 9 (σ.1 1 3 - 1))) := ((Fr.wr (frO_k (by decide))).tr (Fr.wr (frO_a (by decide) _))).tr (Fr.wr (frO_k (by decide)))
  have hc := hf.cf 0 0
  refine ⟨hf, h.upd hf ?_ ⟨?_, fun i m2 hi => ?_⟩⟩
  · rw [wr_same, e]; rw [e] at hc; exact MoC.cf (X := aX) hm hc rfl hb
  · rw [wr_nk _ (by decide), wr_na _ (by decide), wr_same]; exact e
  · have := (List.getElem?_eq_some_iff.mp hi).1
    have hv : (wr (wr (wr σ 1 3 (σ.1 1 3 - 1)) 9 (σ.1 1 3 - 1) 0) 1 1 (σ.1 9 (σ.1 1 3 - 1))).1 9 i = σ.1 9 i := by
      rw [wr_na _ (by decide), wr_nk _ (by omega), wr_na _ (by decide)]
    rw [hv]
    exact (h.2.2.1.2 i m2 (by rw [List.getElem?_append_left this]; exact hi)).cf hc rfl hb
theorem c_S_mirror {l : Int} (h : CS σ b T M P tp) (hk : okMo T M) (hP : P.length ≤ 12) (h1 : rI l) : WMi E m_S_mirror (d + 4) [aP 1, aI l] σ (CRes 12 200 σ b T M P tp (sp_mirror M l)) := by
  have hF := h.1.1
  have hb := h.1.2
  refine e_S_mirror _ hF (WMr.mono (c_S_lineAt h hk h1) (fun r τ hp hq => ?_))
  obtain ⟨hq1, rfl⟩ := hq
  unfold sp_mirror
  cases hl : lnAt M l with
  | none =>
    rw [hl] at hq1
    exact ⟨fun c => ⟨_, rfl, List.prefix_refl _, rfl, Cf.refl _ _ _ _⟩, fun c => absurd hq1 c⟩
  | some L =>
    rw [hl] at hq1
    have hL := hq1.2
    have l1 := sh_len hL.2.1
    have hnx : nx τ = τ.2.length + 1 := rfl
    have a0 : ∀ k, (al τ 3 2).1 r k = τ.1 r k := fun k => al_old (by omega)
    have tail : WP E m_S_mirror (d + 4) 32 [] [aI (if (!L.1) = true then 1 else 0), aP ((al τ 3 2).1 r 0), aP (nx τ), aP (nx τ), aI l, aP 1] (al τ 3 2) (fun r σ' => ∃ v, r = some (aI v) ∧ τ.2 <+: σ'.2 ∧ CRes 12 200 τ b T M P tp (some (setLn M l (!L.1, L.2))) v σ') := by
      have h01 : (if (!L.1) = true then (1 : Int) else 0) = 0 ∨ (if (!L.1) = true then (1 : Int) else 0) = 1 := by split <;> simp
      have hs1 : sh (al τ 3 2) (nx τ) = some (3, 2) := sh_nx τ 3 2
      have hc : Cf 1 2 cX τ (wr (wr (al τ 3 2) (nx τ) 0 (τ.1 r 0)) (nx τ) 1 (if (!L.1) = true then 1 else 0)) := ((Cf.al_ τ 3 2 cX).new (by omega)).new (by omega)
      have hS := h.cf hc
      have e0 : (wr (wr (al τ 3 2) (nx τ) 0 (τ.1 r 0)) (nx τ) 1 (if (!L.1) = true then 1 else 0)).1 (nx τ) 0 = τ.1 r 0 := by rw [wr_nk _ (by decide), wr_same]
      have hLc := hL.cf hc (imX_lt rfl hb.1)
      have e1 := hc.old (imX_lt rfl hb.1) hL.1.1 hL.2.1
      have hln : LnC b (wr (wr (al τ 3 2) (nx τ) 0 (τ.1 r 0)) (nx τ) 1 (if (!L.1) = true then 1 else 0)) (nx τ) (!L.1, L.2) := by
        refine ⟨⟨by omega, by rw [e0]; exact hL.1.2⟩, hs1, by rw [e0]; exact sh_pre hc.1 hL.2.2.1, wr_same _ _ _ _, fun s t ht => ?_⟩
        have := hLc.2.2.2.2 s t ht
        rw [e1] at this
        rw [e0]
        exact this
      rw [a0]
      refine b_S_mirror_32 _ _ _ _ _ _ ⟨nx_pos _, e_Line_init _ _ _ ⟨nx_pos τ, hs1, h01, hs1, rfl, List.prefix_refl _, sh_pre hc.1 (sf_1 hF), WMi.mono (c_S_replaceLine hS hk hP h1 (by rw [hl]; rfl) hln) (fun r3 τ3 hp3 hq3 => ?_)⟩⟩
      obtain ⟨rfl, hq4, hq5⟩ := hq3
      refine ⟨by decide, fun c => by omega, fun c => ⟨_, rfl, hc.1.trans hp3, rfl, ?_, hq5⟩⟩
      exact ((hc.mono (Y := caX) (Nat.le_refl _) (Nat.le_refl _) (by decide)).tr hq4).mono (by omega) (by omega) (by decide)
    have hlv : τ.1 r 1 = (if L.1 then 1 else 0) := hL.2.2.2.1
    refine ⟨fun c => absurd c hq1.1, fun c => ⟨sh_al hL.2.1, sh_al hL.2.1, ?_, fun c2 => ?_, fun c2 => ?_⟩⟩
    · rw [a0, hlv]; split <;> decide
    · rw [a0, hlv] at c2
      have : L.1 = true := by
        cases hb2 : L.1 with
        | true => rfl
        | false => rw [hb2] at c2; simp at c2
      rw [this] at tail
      simpa [this] using tail
    · rw [a0, hlv] at c2
      have : L.1 = false := by
        cases hb2 : L.1 with
        | false => rfl
        | true => rw [hb2] at c2; simp at c2
      rw [this] at tail
      simpa [this] using tail
theorem mvL_get {α : Type} {Ls : List α} {s to : Nat} {t : α} (h1 : s < Ls.length) (h2 : to < Ls.length) (ht : Ls[s]? = some t) (k : Nat) (hk : k < Ls.length) : (mvL Ls s to t)[k]? = Ls[(mvI s to k).toNat]? := by
  have hle : (Ls.eraseIdx s).length = Ls.length - 1 := by rw [List.length_eraseIdx, if_pos h1]
  unfold mvL
  rw [List.getElem?_insertIdx, List.getElem?_eraseIdx, List.getElem?_eraseIdx, hle]
  by_cases c : k < to
  · by_cases c2 : k < s
    · have e : (mvI s to k).toNat = k := by unfold mvI; split <;> (try split) <;> (try split) <;> omega
      rw [if_pos c, if_pos c2, e]
    · have e : (mvI s to k).toNat = k + 1 := by unfold mvI; split <;> (try split) <;> (try split) <;> omega
      rw [if_pos c, if_neg c2, e]
  · by_cases c3 : k = to
    · have e : (mvI s to k).toNat = s := by unfold mvI; split <;> (try split) <;> (try split) <;> omega
      rw [if_neg c, if_pos c3, if_pos (by omega), e, ht]
    · by_cases c4 : k - 1 < s
      · have e : (mvI s to k).toNat = k - 1 := by unfold mvI; split <;> (try split) <;> (try split) <;> omega
        rw [if_neg c, if_neg c3, if_pos c4, e]
      · have e : (mvI s to k).toNat = k - 1 + 1 := by unfold mvI; split <;> (try split) <;> (try split) <;> omega
        rw [if_neg c, if_neg c3, if_neg c4, e]
theorem mvL_len {α : Type} {Ls : List α} {s to : Nat} {t : α} (h1 : s < Ls.length) (h2 : to < Ls.length) : (mvL Ls s to t).length = Ls.length := by
  unfold mvL
  rw [List.length_insertIdx, List.length_eraseIdx, if_pos h1, if_pos (by omega)]
  omega
theorem c_S_move {l s to : Int} (h : CS σ b T M P tp) (hk : okMo T M) (hP : P.length ≤ 12) (h1 : rI l) (h2 : rI s) (h3 : rI to) : WMi E m_S_move (d + 4) [aP 1, aI l, aI s, aI to] σ (CRes 12 200 σ b T M P tp (sp_move M l s to)) := by
  have hF := h.1.1
  have hb := h.1.2
  refine e_S_move _ _ _ hF (WMr.mono (c_S_lineAt h hk h1) (fun r τ hp hq => ?_))
  obtain ⟨hq1, rfl⟩ := hq
  unfold sp_move
  cases hl : lnAt M l with
  | none =>
    rw [hl] at hq1
    exact ⟨hF, fun c => ⟨_, rfl, List.prefix_refl _, rfl, Cf.refl _ _ _ _⟩, fun c => absurd hq1 c⟩
  | some L =>
    rw [hl] at hq1
    have hL := hq1.2
    have hkL := (hk.ln hl).1
    have hn := hkL.qs.1
    have h8 := hkL.1.2
    refine ⟨hF, fun c => absurd c hq1.1, fun c => ⟨hL.2.1, wmi_p (c_Line_has hL hn h2) ⟨hF, b2i_r _, fun c2 => ?_, fun c2 => ⟨hL.2.1, wmi_p (c_Line_has hL hn h3) ⟨hF, b2i_r _, fun c3 => ?_, fun c3 => ⟨h2, h3, fun c4 => ⟨hL.2.1, ?_⟩, fun c4 => ?_⟩⟩⟩⟩⟩⟩
    · rw [b2i_0] at c2
      have : sqIn L s = none := by
        cases hs : sqIn L s with
        | none => rfl
        | some t => have := sqIn_some hs; omega
      exact ⟨_, rfl, List.prefix_refl _, by simp only [this]; exact ⟨rfl, Cf.refl _ _ _ _⟩⟩
    · rw [b2i_0] at c3
      refine ⟨_, rfl, List.prefix_refl _, CRes.no ?_⟩
      cases hs : sqIn L s with
      | none => simp only [hs]
      | some t => simp only [hs, if_neg (fun q : (0 ≤ to ∧ to < L.2.length) ∧ s ≠ to => c3 q.1)]
    · rw [b2i_n0] at c2 c3
      obtain ⟨t, ht⟩ : ∃ t, L.2[s.toNat]? = some t := ⟨_, List.getElem?_eq_getElem (by omega)⟩
      have hs : sqIn L s = some t := by unfold sqIn; rw [if_pos c2.1]; exact ht
      simp only [hs, if_pos (show (0 ≤ to ∧ to < L.2.length) ∧ s ≠ to from ⟨c3, c4⟩)]
      refine WMr.mono (c_Line_moved hL hn c2 c3 c4) (fun r2 τ2 hp2 hq2 => ?_)
      have hc : Cf 2 10 cX τ τ2 := hq2.1.1.mono (Nat.le_refl _) (by omega) rfl
      have hS := h.cf hc
      have hml := mvL_len (Ls := L.2) (s := s.toNat) (to := to.toNat) (t := t) (by omega) (by omega)
      have hln : LnC b τ2 r2 (L.1, mvL L.2 s.toNat to.toNat t) := by
        have e : New2 24 3 2 τ (mvL L.2 s.toNat to.toNat t).length (fun k => rf τ r L.2.length (mvI s to k)) r2 τ2 := by
          rw [hml]; exact hq2.1
        refine e.ln hq2.2 hb.2 (fun j u hu => ?_)
        have hj := (List.getElem?_eq_some_iff.mp hu).1
        rw [hml] at hj
        rw [mvL_get (by omega) (by omega) ht j hj, show ((s.toNat : Nat) : Int) = s by omega, show ((to.toNat : Nat) : Int) = to by omega] at hu
        have hr : 0 ≤ mvI s to j ∧ mvI s to j < L.2.length := by unfold mvI; split <;> (try split) <;> (try split) <;> omega
        unfold rf
        rw [if_pos hr]
        have := hL.2.2.2.2 _ _ hu
        rw [show (((mvI s to j).toNat : Nat) : Int) = mvI s to j by omega] at this
        exact this
      refine ⟨hS.1.1, WMi.mono (c_S_replaceLine hS hk hP h1 (by rw [hl]; rfl) hln) (fun r3 τ3 hp3 hq3 => ?_)⟩
      obtain ⟨rfl, hq4, hq5⟩ := hq3
      refine ⟨Or.inr rfl, _, rfl, hp2.trans hp3, rfl, ?_, hq5⟩
      exact ((hc.mono (Y := caX) (Nat.le_refl _) (Nat.le_refl _) (by decide)).tr hq4).mono (by omega) (by omega) (by decide)
    · refine ⟨_, rfl, List.prefix_refl _, CRes.no ?_⟩
      cases hs : sqIn L s with
      | none => simp only [hs]
      | some t => simp only [hs, if_neg (fun q : (0 ≤ to ∧ to < L.2.length) ∧ s ≠ to => q.2 c4)]
end CAct2
