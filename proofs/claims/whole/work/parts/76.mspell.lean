def tdT (X : List Int) (i : Int) : Int := if i = -1 then (X.length : Int) else if i < X.length then X.getD i.toNat 0 else -1
def sp_spell (T : Tb) (M : Mo) (l s i : Int) : Int :=
  if -1 ≤ i then
    if l = -1 then tdT (allT T M) i
    else match lnAt M l with
      | none => -1
      | some L => if s = -1 then tdT (lnT L) i else match sqIn L s with
        | none => -1
        | some t => tdT (tx 0 t) i
  else -1
section MSpell
variable {E : EV} {d : Nat} {σ : St} {T : Tb} {M : Mo} {P : List Mo} {tp : List Int}
theorem c_M_spell {l s i : Int} (h : RS σ T M P tp) (hk : okD T M P tp) (h1 : rI l) (h2 : rI s) (h3 : rI i) : WMi E m_M_spell (d + 5) [aP 42, aI l, aI s, aI i] σ (fun r τ => r = sp_spell T M l s i ∧ Fr lnX σ τ) := by
  have hF := h.1.1
  have hkM := hk.2.1
  have f0 : Fr lnX σ (wr σ 42 29 0) := Fr.wr (frO_k (by decide))
  have hS := h.scr (f0.mono (by decide))
  have hX : TxIs (wr σ 42 29 0) [] := ⟨wr_same _ _ _ _, At.nil _ _⟩
  unfold sp_spell
  refine e_M_spell _ _ _ hF ⟨h3, fun c => ⟨h1, fun c2 => ?_, fun c2 => ?_⟩, fun c => ⟨_, rfl, List.prefix_refl _, by rw [if_neg c], Fr.refl _ _⟩⟩
  · rw [if_pos c, if_neg c2]
    refine wmi_p (c_M_isLine' hS hkM h1) ⟨hS.1.1, b2i_r _, fun c3 => ?_, fun c3 => ?_⟩
    · rw [b2i_0] at c3
      refine ⟨_, rfl, pre_eq f0.1, ?_, f0⟩
      cases hl : lnAt M l with
      | none => rfl
      | some L => exact absurd (by simp [hl]) c3
    · rw [b2i_n0] at c3
      obtain ⟨L, hl⟩ := Option.isSome_iff_exists.mp c3
      rw [hl]
      dsimp only
      have hll := lnT_len (hkM.ln hl).1
      refine ⟨h2, fun c4 => ?_, fun c4 => ?_⟩
      · rw [if_pos c4]
        refine b_M_spell_51 _ _ _ hS.1.1 ⟨h2, fun q => absurd c4 q, fun _ => WMv.mono (c_M_writesLine hS hkM hl hX (by simp; omega)) (fun τ hp hq => ?_)⟩
        have hT := hq.1.fix hS.1.1 (by decide)
        exact ⟨hT, wmi_p (c_M_told hT hq.2 (by simp; omega) h3 c) ⟨_, rfl, (pre_eq f0.1).trans hp, by simp [tdT], f0.tr hq.1⟩⟩
      · rw [if_neg c4]
        refine wmi_p (c_M_isSquare' hS hkM h1 h2) ⟨b2i_r _, fun c5 => ?_, fun c5 => ?_⟩
        · rw [b2i_n0] at c5
          obtain ⟨t, ht⟩ := Option.isSome_iff_exists.mp c5
          obtain ⟨L', hl', hs⟩ := sqAt_some ht
          rw [hl] at hl'
          cases hl'
          rw [hs]
          dsimp only
          obtain ⟨a1, a2, a3, a4, a5, a6, a7⟩ := hS.1.2.2.sq hkM ht
          have htl := (tx_len a5.1 0).2
          have h10 := a5.2.1
          refine b_M_spell_51 _ _ _ hS.1.1 ⟨h2, fun _ => WMv.mono (c_M_takes' hS hkM ht) (fun τ hp hq => ?_), fun q => absurd q c4⟩
          have hT := hq.1.fix hS.1.1 (by decide)
          have x2 : TxIs τ [] := ⟨(hq.1.2 _ _ rfl).trans hX.1, At.nil _ _⟩
          refine ⟨hT, WMv.mono (c_M_writesRow hT hq.2 x2 a5.1 h10 (by simp; omega)) (fun υ hp2 hq2 => ?_)⟩
          have hU := hq2.1.fix hT (by decide)
          exact ⟨hU, wmi_p (c_M_told hU hq2.2 (by simp; omega) h3 c) ⟨_, rfl, ((pre_eq f0.1).trans hp).trans hp2, by simp [tdT], (f0.tr (hq.1.mono (by decide))).tr (hq2.1.mono (by decide))⟩⟩
        · rw [b2i_0] at c5
          refine ⟨_, rfl, pre_eq f0.1, ?_, f0⟩
          cases hs : sqIn L s with
          | none => rfl
          | some t => exact absurd (by simp [sqAt, hl, hs]) c5
  · rw [if_pos c, if_pos c2]
    have hal := allT_len hkM
    refine WMv.mono (c_M_writesAll hS hk hX) (fun τ hp hq => ?_)
    have hT := hq.1.fix hS.1.1 (by decide)
    exact ⟨hT, wmi_p (c_M_told hT hq.2 (by omega) h3 c) ⟨_, rfl, (pre_eq f0.1).trans hp, rfl, f0.tr hq.1⟩⟩
end MSpell
