def txtX : List (Int × Int) := (42, 47) :: (47, -1) :: (43, -1) :: (44, -1) :: (45, -1) :: (46, -1) :: (42, 8) :: raX
section MTextR
variable {E : EV} {d : Nat} {σ : St} {T : Tb} {M : Mo} {P : List Mo} {tp : List Int}
theorem RS.rd {τ : St} (h : RS σ T M P tp) (hf : Fr raX σ τ) : RS τ T M P tp := by
  obtain ⟨⟨h1, h2, h3⟩, ⟨h4, h5⟩, ⟨h6, h7⟩, h8⟩ := h
  have f1 : τ.1 47 = σ.1 47 := funext (fun k => hf.2 _ _ rfl)
  have f2 : τ.1 49 = σ.1 49 := funext (fun k => hf.2 _ _ rfl)
  have f3 : τ.1 76 = σ.1 76 := funext (fun k => hf.2 _ _ rfl)
  have f4 : τ.1 77 = σ.1 77 := funext (fun k => hf.2 _ _ rfl)
  refine ⟨⟨hf.fix h1 (by decide), fun l hl => ?_, by rw [f1]; exact h3⟩, ⟨(hf.2 _ _ rfl).trans h4, by rw [f2]; exact h5⟩, ⟨(hf.2 _ _ rfl).trans h6, by rw [f3]; exact h7⟩, by rw [f4]; exact h8⟩
  rw [hf.2 _ _ rfl, hf.2 _ _ rfl, hf.2 _ _ rfl, hf.2 _ _ rfl]
  exact h2 l hl
theorem c_M_text (h : RS σ T M P tp) (hk : okD T M P tp) : WMi E m_M_text (d + 8) [aP 42] σ (fun r τ => Fr txtX σ τ ∧ match rdText tp with
    | .error f => r = -4 - (f : Int) ∧ RS τ T M P []
    | .ok s => r = (s.2.2.2.length : Int) ∧ RS τ s.1 s.2 [] []) := by
  have hF := h.1.1
  have hTp : Tp σ tp := ⟨h.2.2.1, h.2.2.2, hk.2.2.2.1, hk.2.2.2.2⟩
  have h4 := hTp.2.2.1
  -- the copies at the end
  have copyT : ∀ (s : RdS) (ψ : St), rdText tp = .ok s → okR s → Fr txtX σ ψ → RdF ψ s.1 → MoAt (ψ.1 47) 0 s.2 → ψ.1 42 47 = 0 → WP E m_M_text (d + 8) 142 [(0, aP 42), (1, aI 0)] [] ψ (fun r τ => ∃ v, r = some (aI v) ∧ σ.2 <+: τ.2 ∧ Fr txtX σ τ ∧ match rdText tp with
      | .error f => v = -4 - (f : Int) ∧ RS τ T M P []
      | .ok s => v = (s.2.2.2.length : Int) ∧ RS τ s.1 s.2 [] []) := by
    intro s ψ hs hok g1 g2 g3 g4
    rw [hs]
    dsimp only
    have key : ∀ z : Nat × St, (z.1 ≤ 26 ∧ Fr [(43, -1), (44, -1), (45, -1), (46, -1)] ψ z.2 ∧ ∀ l : Nat, l < z.1 → z.2.1 43 l = (s.1 l).1 ∧ z.2.1 44 l = (s.1 l).2.1 ∧ z.2.1 45 l = (s.1 l).2.2.1 ∧ z.2.1 46 l = (s.1 l).2.2.2) → WP E m_M_text (d + 8) 142 [(0, aP 42), (1, aI z.1)] [] z.2 (fun r τ => ∃ v, r = some (aI v) ∧ σ.2 <+: τ.2 ∧ Fr txtX σ τ ∧ v = (s.2.2.2.length : Int) ∧ RS τ s.1 s.2 [] []) := by
      refine lpx (fun z => 26 - z.1) _ _ (fun z hI ih => ?_)
      obtain ⟨l, τ⟩ := z
      obtain ⟨i1, i2, i3⟩ := hI
      simp only at i1 i2 i3 ih ⊢
      have fτ : Fr txtX σ τ := g1.tr (i2.mono (by decide))
      have hT := fτ.fix hF (by decide)
      refine b_M_text_142 _ hT ⟨by omega, fun c => ?_, fun c => ?_⟩
      · have hl : l = 26 := by omega
        subst hl
        have fw : Fr [(42, 8)] τ (wr τ 42 8 0) := Fr.wr (frO_k (by decide))
        have fall := fτ.tr (fw.mono (by decide))
        have nowE : ∀ j, (wr τ 42 8 0).1 47 j = ψ.1 47 j := fun j => (fw.2 _ _ rfl).trans (i2.2 _ _ rfl)
        refine ⟨_, rfl, pre_eq fall.1, fall, ?_, ⟨fall.fix hF (by decide), fun l hl => ?_, ?_⟩, ⟨wr_same _ _ _ _, fun i m hm => by simp at hm⟩, ⟨?_, At.nil _ _⟩, ?_⟩
        · rw [i2.2 _ _ rfl]; exact g3.2.2.1
        · obtain ⟨a1, a2, a3, a4⟩ := i3 l hl
          exact ⟨(fw.2 _ _ rfl).trans a1, (fw.2 _ _ rfl).trans a2, (fw.2 _ _ rfl).trans a3, (fw.2 _ _ rfl).trans a4⟩
        · have : (wr τ 42 8 0).1 47 = ψ.1 47 := funext nowE
          rw [this]; exact g3
        · rw [wr_nk _ (by decide), i2.2 _ _ rfl]; exact g4
        · exact h.2.2.2.congr (fun i hi => fall.2 _ _ rfl)
      · have hl : l < 26 := by omega
        have rd := g2.1 l hl
        have tb := hok.1 l hl
        have r1 : τ.1 78 l = (s.1 l).1 := (i2.2 _ _ rfl).trans rd.1
        rw [r1]
        have lb : (0 : Int) ≤ l ∧ (l : Int) < 26 := by omega
        have fw1 : Fr [(43, -1), (44, -1), (45, -1), (46, -1)] τ (wr τ 43 l (s.1 l).1) := Fr.wr (frO_a (by decide) _)
        have F1 := fw1.fix hT (by decide)
        have nxt : ∀ v : Int, v = (s.1 l).2.1 → WP E m_M_text (d + 8) 184 [(0, aP 42), (1, aI l)] [aI v, aI l, aP 44] (wr τ 43 l (s.1 l).1) (fun r τ => ∃ v, r = some (aI v) ∧ σ.2 <+: τ.2 ∧ Fr txtX σ τ ∧ v = (s.2.2.2.length : Int) ∧ RS τ s.1 s.2 [] []) := by
          intro v hv
          subst hv
          have fw2 : Fr [(43, -1), (44, -1), (45, -1), (46, -1)] τ (wr (wr τ 43 l (s.1 l).1) 44 l (s.1 l).2.1) := fw1.tr (Fr.wr (frO_a (by decide) _))
          have F2 := fw2.fix hT (by decide)
          have y1 : (wr (wr τ 43 l (s.1 l).1) 44 l (s.1 l).2.1).1 42 56 = 80 := ff_65 F2
          have y2 : (wr (wr τ 43 l (s.1 l).1) 44 l (s.1 l).2.1).1 42 3 = 45 := ff_30 F2
          have r3 : (wr (wr τ 43 l (s.1 l).1) 44 l (s.1 l).2.1).1 80 l = (s.1 l).2.2.1 := (fw2.2 _ _ rfl).trans ((i2.2 _ _ rfl).trans rd.2.1)
          refine b_M_text_184 _ _ _ _ ?_
          rw [y1, y2, r3]
          have fw3 : Fr [(43, -1), (44, -1), (45, -1), (46, -1)] τ (wr (wr (wr τ 43 l (s.1 l).1) 44 l (s.1 l).2.1) 45 l (s.1 l).2.2.1) := fw2.tr (Fr.wr (frO_a (by decide) _))
          have F3 := fw3.fix hT (by decide)
          have y3 : (wr (wr (wr τ 43 l (s.1 l).1) 44 l (s.1 l).2.1) 45 l (s.1 l).2.2.1).1 42 56 = 80 := ff_65 F3
          have y4 : (wr (wr (wr τ 43 l (s.1 l).1) 44 l (s.1 l).2.1) 45 l (s.1 l).2.2.1).1 42 57 = 81 := ff_66 F3
          have y5 : (wr (wr (wr τ 43 l (s.1 l).1) 44 l (s.1 l).2.1) 45 l (s.1 l).2.2.1).1 42 4 = 46 := ff_31 F3
          have r4 : (wr (wr (wr τ 43 l (s.1 l).1) 44 l (s.1 l).2.1) 45 l (s.1 l).2.2.1).1 80 l = (s.1 l).2.2.1 := (fw3.2 _ _ rfl).trans ((i2.2 _ _ rfl).trans rd.2.1)
          rw [y3, y4, y5, r4]
          have fin : ∀ w : Int, w = (s.1 l).2.2.2 → WP E m_M_text (d + 8) 221 [(0, aP 42), (1, aI l)] [aI w, aI l, aP 46] (wr (wr (wr τ 43 l (s.1 l).1) 44 l (s.1 l).2.1) 45 l (s.1 l).2.2.1) (fun r τ => ∃ v, r = some (aI v) ∧ σ.2 <+: τ.2 ∧ Fr txtX σ τ ∧ v = (s.2.2.2.length : Int) ∧ RS τ s.1 s.2 [] []) := by
            intro w hw
            subst hw
            refine b_M_text_221 _ _ _ _ ⟨⟨26, sf_46 F3, by omega, by omega, by omega⟩, ?_⟩
            have h9 := ih (l + 1, wr (wr (wr (wr τ 43 l (s.1 l).1) 44 l (s.1 l).2.1) 45 l (s.1 l).2.2.1) 46 l (s.1 l).2.2.2) (by show 26 - (l + 1) < 26 - l; omega) ⟨by show l + 1 ≤ 26; omega, i2.tr (fw3.tr (Fr.wr (frO_a (by decide) _))), fun k hk2 => ?_⟩
            · simp only at h9
              rw [show ((l + 1 : Nat) : Int) = (l : Int) + 1 by omega] at h9
              exact h9
            · have hk3 : k < l + 1 := hk2
              by_cases hkl : k = l
              · subst hkl
                exact ⟨by rw [wr_na _ (by decide), wr_na _ (by decide), wr_na _ (by decide), wr_same], by rw [wr_na _ (by decide), wr_na _ (by decide), wr_same], by rw [wr_na _ (by decide), wr_same], by rw [wr_same]⟩
              · have hne : (k : Int) ≠ l := by omega
                obtain ⟨a1, a2, a3, a4⟩ := i3 k (by omega)
                exact ⟨by rw [wr_na _ (by decide), wr_na _ (by decide), wr_na _ (by decide), wr_nk _ hne]; exact a1, by rw [wr_na _ (by decide), wr_na _ (by decide), wr_nk _ hne, wr_na _ (by decide)]; exact a2, by rw [wr_na _ (by decide), wr_nk _ hne, wr_na _ (by decide), wr_na _ (by decide)]; exact a3, by rw [wr_nk _ hne, wr_na _ (by decide), wr_na _ (by decide), wr_na _ (by decide)]; exact a4⟩
          refine ⟨⟨26, sf_44 F1, by omega, by omega, by omega⟩, sf_42 F2, sf_42 F2, ⟨26, sf_80 F2, by omega, by omega, by omega⟩, ⟨26, sf_45 F2, by omega, by omega, by omega⟩, sf_42 F3, sf_42 F3, ⟨26, sf_80 F3, by omega, by omega, by omega⟩, by omega, fun c2 => ⟨sf_42 F3, ⟨26, sf_81 F3, by omega, by omega, by omega⟩, fin _ ?_⟩, fun c2 => fin _ ?_⟩
          · rw [fw3.2 _ _ rfl, i2.2 _ _ rfl]; exact rd.2.2.2 c2
          · omega
        refine ⟨lb, lb, lb, by omega, fun c2 => ⟨lb, nxt _ ?_⟩, fun c2 => nxt _ ?_⟩
        · rw [i2.2 _ _ rfl]; exact rd.2.2.1 c2
        · omega
    exact key (0, ψ) ⟨Nat.zero_le _, Fr.refl _ _, fun l hl => absurd hl (by simp)⟩
  have copyM : ∀ (s : RdS) (ψ : St), rdText tp = .ok s → okR s → Fr txtX σ ψ → RdF ψ s.1 → MoAt (ψ.1 48) 0 s.2 → ψ.1 42 47 = 0 → WP E m_M_text (d + 8) 115 [(0, aP 42), (1, aI 0)] [] ψ (fun r τ => ∃ v, r = some (aI v) ∧ σ.2 <+: τ.2 ∧ Fr txtX σ τ ∧ match rdText tp with
      | .error f => v = -4 - (f : Int) ∧ RS τ T M P []
      | .ok s => v = (s.2.2.2.length : Int) ∧ RS τ s.1 s.2 [] []) := by
    intro s ψ hs hok g1 g2 g3 g4
    have key : ∀ z : Nat × St, (z.1 ≤ 683 ∧ Fr [(47, -1)] ψ z.2 ∧ ∀ j : Int, 0 ≤ j → j < z.1 → z.2.1 47 j = ψ.1 48 j) → WP E m_M_text (d + 8) 115 [(0, aP 42), (1, aI z.1)] [] z.2 (fun r τ => ∃ v, r = some (aI v) ∧ σ.2 <+: τ.2 ∧ Fr txtX σ τ ∧ match rdText tp with
        | .error f => v = -4 - (f : Int) ∧ RS τ T M P []
        | .ok s => v = (s.2.2.2.length : Int) ∧ RS τ s.1 s.2 [] []) := by
      refine lpx (fun z => 683 - z.1) _ _ (fun z hI ih => ?_)
      obtain ⟨k, τ⟩ := z
      obtain ⟨i1, i2, i3⟩ := hI
      simp only at i1 i2 i3 ih ⊢
      have fτ : Fr txtX σ τ := g1.tr (i2.mono (by decide))
      have hT := fτ.fix hF (by decide)
      refine b_M_text_115 _ hT ⟨by omega, fun c => ?_, fun c => ⟨by omega, by omega, ?_⟩⟩
      · refine copyT s τ hs hok fτ (g2.keep i2 (fun _ => ⟨rfl, rfl, rfl, rfl⟩) rfl) (g3.move hok.2.2 (fun j a b => ?_)) ((i2.2 _ _ rfl).trans g4)
        rw [show (0 : Int) + j = j by omega]
        exact i3 j a (by omega)
      · have h9 := ih (k + 1, wr τ 47 k (τ.1 48 k)) (by show 683 - (k + 1) < 683 - k; omega) ⟨by show k + 1 ≤ 683; omega, i2.tr (Fr.wr (frO_a (by decide) _)), fun j a b => ?_⟩
        · simp only at h9
          rw [show ((k + 1 : Nat) : Int) = (k : Int) + 1 by omega] at h9
          exact h9
        · show (wr τ 47 k (τ.1 48 k)).1 47 j = _
          by_cases hjk : j = k
          · rw [hjk, wr_same]; exact i2.2 _ _ rfl
          · rw [wr_nk _ hjk]; exact i3 j a (by have : j < ((k + 1 : Nat) : Int) := b; omega)
    exact key (0, ψ) ⟨Nat.zero_le _, Fr.refl _ _, fun j a b => by have : j < ((0 : Nat) : Int) := b; omega⟩
  -- the reading
  have read : ∀ ψ : St, Fr raX σ ψ → (∀ j : Int, 0 ≤ j → j < 683 → ψ.1 48 j = 0) → (∀ l : Nat, l < 26 → ψ.1 78 l = 0 ∧ ψ.1 80 l = 0) → WP E m_M_text (d + 8) 24 [(0, aP 42), (1, aI 26)] [] ψ (fun r τ => ∃ v, r = some (aI v) ∧ σ.2 <+: τ.2 ∧ Fr txtX σ τ ∧ match rdText tp with
      | .error f => v = -4 - (f : Int) ∧ RS τ T M P []
      | .ok s => v = (s.2.2.2.length : Int) ∧ RS τ s.1 s.2 [] []) := by
    intro ψ g1 g2 g3
    have Fψ := g1.fix hF (by decide)
    refine b_M_text_24 _ Fψ ⟨by decide, fun _ => ?_, fun q => absurd (by decide) q⟩
    have fw : Fr raX ψ (wr (wr (wr (wr (wr (wr ψ 48 0 12) 48 1 1) 42 58 0) 42 49 0) 42 50 3) 42 53 0) := (((((Fr.wr (frO_a (by decide) _)).tr (Fr.wr (frO_a (by decide) _))).tr (Fr.wr (frO_k (by decide)))).tr (Fr.wr (frO_k (by decide)))).tr (Fr.wr (frO_k (by decide)))).tr (Fr.wr (frO_k (by decide)))
    have e1 : (wr (wr (wr (wr (wr (wr ψ 48 0 12) 48 1 1) 42 58 0) 42 49 0) 42 50 3) 42 53 0).1 42 49 = ((0 : Nat) : Int) := by rw [wr_nk _ (by decide), wr_nk _ (by decide), wr_same]; rfl
    have e2 : (wr (wr (wr (wr (wr (wr ψ 48 0 12) 48 1 1) 42 58 0) 42 49 0) 42 50 3) 42 53 0).1 42 50 = 3 := by rw [wr_nk _ (by decide), wr_same]
    have e3 : (wr (wr (wr (wr (wr (wr ψ 48 0 12) 48 1 1) 42 58 0) 42 49 0) 42 50 3) 42 53 0).1 42 53 = 0 := wr_same _ _ _ _
    have e4 : (wr (wr (wr (wr (wr (wr ψ 48 0 12) 48 1 1) 42 58 0) 42 49 0) 42 50 3) 42 53 0).1 42 58 = 0 := by rw [wr_nk _ (by decide), wr_nk _ (by decide), wr_nk _ (by decide), wr_same]
    have e5 : ∀ j : Int, (wr (wr (wr (wr (wr (wr ψ 48 0 12) 48 1 1) 42 58 0) 42 49 0) 42 50 3) 42 53 0).1 48 j = if j = 1 then 1 else if j = 0 then 12 else ψ.1 48 j := fun j => by
      rw [wr_na _ (by decide), wr_na _ (by decide), wr_na _ (by decide), wr_na _ (by decide)]
      by_cases h1 : j = 1
      · subst h1; rw [wr_same, if_pos rfl]
      · rw [wr_nk _ h1, if_neg h1]
        by_cases h0 : j = 0
        · subst h0; rw [wr_same, if_pos rfl]
        · rw [wr_nk _ h0, if_neg h0]
    have e6 : ∀ l : Nat, (wr (wr (wr (wr (wr (wr ψ 48 0 12) 48 1 1) 42 58 0) 42 49 0) 42 50 3) 42 53 0).1 78 l = ψ.1 78 l ∧ (wr (wr (wr (wr (wr (wr ψ 48 0 12) 48 1 1) 42 58 0) 42 49 0) 42 50 3) 42 53 0).1 80 l = ψ.1 80 l := fun l => ⟨by rw [wr_na _ (by decide), wr_na _ (by decide), wr_na _ (by decide), wr_na _ (by decide), wr_na _ (by decide), wr_na _ (by decide)], by rw [wr_na _ (by decide), wr_na _ (by decide), wr_na _ (by decide), wr_na _ (by decide), wr_na _ (by decide), wr_na _ (by decide)]⟩
    generalize wr (wr (wr (wr (wr (wr ψ 48 0 12) 48 1 1) 42 58 0) 42 49 0) 42 50 3) 42 53 0 = χ at *
    have fχ : Fr raX σ χ := g1.tr fw
    have Fχ := fχ.fix hF (by decide)
    have Tpχ : Tp χ tp := hTp.keep fχ rfl (fun _ => ⟨rfl, rfl⟩)
    refine WMv.mono (c_M_goesOn (d := d + 6) (q := 0) (k := 3) Fχ Tpχ e1 (Nat.zero_le _) e2 (by decide) ⟨fun q => by omega, fun q => by simp [glu] at q⟩) (fun ω pp qq => ?_)
    have fω : Fr raX σ ω := fχ.tr (qq.1.mono (by decide))
    have Fω := fω.fix hF (by decide)
    have Rω : RdF ω T00 := ⟨fun l hl => ⟨by rw [qq.1.2 _ _ rfl, (e6 l).1]; exact (g3 l hl).1, by rw [qq.1.2 _ _ rfl, (e6 l).2]; exact (g3 l hl).2, fun q => absurd rfl q, fun q => absurd rfl q⟩, by rw [qq.1.2 _ _ rfl, e4]; decide⟩
    have Mω : MoAt (ω.1 48) 0 (12, 1, []) := by
      refine ⟨?_, ?_, ?_, fun l L hL => by simp at hL⟩
      · rw [qq.1.2 _ _ rfl, e5]; rfl
      · rw [qq.1.2 _ _ rfl, e5]; rfl
      · rw [qq.1.2 _ _ rfl, e5]
        show (if (0 : Int) + 2 = 1 then (1 : Int) else if (0 : Int) + 2 = 0 then 12 else ψ.1 48 ((0 : Int) + 2)) = 0
        rw [if_neg (by decide), if_neg (by decide)]
        exact g2 _ (by decide) (by decide)
    refine ⟨Fω, WMv.mono (c_M_readsAll (d := d) (s0 := (T00, 12, 1, [])) Fω (Tpχ.keep qq.1 rfl (fun _ => ⟨rfl, rfl⟩)) Rω Mω okR_0 ((qq.1.2 _ _ rfl).trans e3) qq.2) (fun ζ pp2 qq2 => ?_)⟩
    obtain ⟨f2, r2⟩ := qq2
    have fζ : Fr raX σ ζ := fω.tr f2
    have Fζ := fζ.fix hF (by decide)
    have er : rdAll tp (tp.length + 1) (T00, 12, 1, []) 0 = rdText tp := rfl
    rw [er] at r2
    have fwt : Fr [(42, 47)] ζ (wr ζ 42 47 0) := Fr.wr (frO_k (by decide))
    have fall : Fr txtX σ (wr ζ 42 47 0) := (fζ.mono (by decide)).tr (fwt.mono (by decide))
    cases ht : rdText tp with
    | error f =>
      rw [ht] at r2
      rw [r2.1, r2.2]
      refine ⟨Fζ, by decide, fun q => absurd q (by decide), fun _ => ⟨_, rfl, pre_eq fall.1, fall, rfl, ?_⟩⟩
      have hR := h.rd fζ
      obtain ⟨⟨q1, q2, q3⟩, ⟨q4, q5⟩, q6, q7⟩ := hR
      have f1 : (wr ζ 42 47 0).1 47 = ζ.1 47 := funext (fun k => fwt.2 _ _ rfl)
      have f2 : (wr ζ 42 47 0).1 49 = ζ.1 49 := funext (fun k => fwt.2 _ _ rfl)
      have f4 : (wr ζ 42 47 0).1 77 = ζ.1 77 := funext (fun k => fwt.2 _ _ rfl)
      refine ⟨⟨fwt.fix q1 (by decide), fun l hl => ?_, by rw [f1]; exact q3⟩, ⟨(fwt.2 _ _ rfl).trans q4, by rw [f2]; exact q5⟩, ⟨wr_same _ _ _ _, At.nil _ _⟩, by rw [f4]; exact q7⟩
      rw [fwt.2 _ _ rfl, fwt.2 _ _ rfl, fwt.2 _ _ rfl, fwt.2 _ _ rfl]
      exact q2 l hl
    | ok s =>
      rw [ht] at r2
      obtain ⟨u1, u2, u3⟩ := r2
      rw [u1]
      have hok := rdAll_ok _ _ 0 s (Nat.zero_le _) okR_0 (show rdAll tp (tp.length + 1) (T00, 12, 1, []) 0 = .ok s from ht)
      have hc := copyM s (wr ζ 42 47 0) ht hok fall (u2.keep fwt (fun _ => ⟨rfl, rfl, rfl, rfl⟩) rfl) (by have : (wr ζ 42 47 0).1 48 = ζ.1 48 := funext (fun k => fwt.2 _ _ rfl); rw [this]; exact u3) (wr_same _ _ _ _)
      rw [ht] at hc
      exact ⟨Fζ, by decide, fun _ => hc, fun q => absurd rfl q⟩
  -- the table that is read, empty
  have clrT : ∀ ψ : St, Fr raX σ ψ → (∀ j : Int, 0 ≤ j → j < 683 → ψ.1 48 j = 0) → WP E m_M_text (d + 8) 24 [(0, aP 42), (1, aI 0)] [] ψ (fun r τ => ∃ v, r = some (aI v) ∧ σ.2 <+: τ.2 ∧ Fr txtX σ τ ∧ match rdText tp with
      | .error f => v = -4 - (f : Int) ∧ RS τ T M P []
      | .ok s => v = (s.2.2.2.length : Int) ∧ RS τ s.1 s.2 [] []) := by
    intro ψ g1 g2
    have key : ∀ z : Nat × St, (z.1 ≤ 26 ∧ Fr [(78, -1), (80, -1)] ψ z.2 ∧ ∀ l : Nat, l < z.1 → z.2.1 78 l = 0 ∧ z.2.1 80 l = 0) → WP E m_M_text (d + 8) 24 [(0, aP 42), (1, aI z.1)] [] z.2 (fun r τ => ∃ v, r = some (aI v) ∧ σ.2 <+: τ.2 ∧ Fr txtX σ τ ∧ match rdText tp with
        | .error f => v = -4 - (f : Int) ∧ RS τ T M P []
        | .ok s => v = (s.2.2.2.length : Int) ∧ RS τ s.1 s.2 [] []) := by
      refine lpx (fun z => 26 - z.1) _ _ (fun z hI ih => ?_)
      obtain ⟨l, τ⟩ := z
      obtain ⟨i1, i2, i3⟩ := hI
      simp only at i1 i2 i3 ih ⊢
      have fτ : Fr raX σ τ := g1.tr (i2.mono (by decide))
      have hT := fτ.fix hF (by decide)
      by_cases hl : l = 26
      · subst hl
        exact read τ fτ (fun j a b => (i2.2 _ _ rfl).trans (g2 j a b)) i3
      · refine b_M_text_24 _ hT ⟨by omega, fun c => by omega, fun c => ⟨by omega, by omega, ?_⟩⟩
        have h9 := ih (l + 1, wr (wr τ 78 l 0) 80 l 0) (by show 26 - (l + 1) < 26 - l; omega) ⟨by show l + 1 ≤ 26; omega, i2.tr ((Fr.wr (frO_a (by decide) _)).tr (Fr.wr (frO_a (by decide) _))), fun k hk2 => ?_⟩
        · simp only at h9
          rw [show ((l + 1 : Nat) : Int) = (l : Int) + 1 by omega] at h9
          exact h9
        · have hk3 : k < l + 1 := hk2
          by_cases hkl : k = l
          · subst hkl
            exact ⟨by rw [wr_na _ (by decide), wr_same], by rw [wr_same]⟩
          · have hne : (k : Int) ≠ l := by omega
            obtain ⟨a1, a2⟩ := i3 k (by omega)
            exact ⟨by rw [wr_na _ (by decide), wr_nk _ hne]; exact a1, by rw [wr_nk _ hne, wr_na _ (by decide)]; exact a2⟩
    exact key (0, ψ) ⟨Nat.zero_le _, Fr.refl _ _, fun l hl => absurd hl (by simp)⟩
  have key : ∀ z : Nat × St, (z.1 ≤ 683 ∧ Fr [(48, -1)] σ z.2 ∧ ∀ j : Int, 0 ≤ j → j < z.1 → z.2.1 48 j = 0) → WP E m_M_text (d + 8) 2 [(0, aP 42), (1, aI z.1)] [] z.2 (fun r τ => ∃ v, r = some (aI v) ∧ σ.2 <+: τ.2 ∧ Fr txtX σ τ ∧ match rdText tp with
      | .error f => v = -4 - (f : Int) ∧ RS τ T M P []
      | .ok s => v = (s.2.2.2.length : Int) ∧ RS τ s.1 s.2 [] []) := by
    refine lpx (fun z => 683 - z.1) _ _ (fun z hI ih => ?_)
    obtain ⟨k, τ⟩ := z
    obtain ⟨i1, i2, i3⟩ := hI
    simp only at i1 i2 i3 ih ⊢
    have hT := i2.fix hF (by decide)
    refine b_M_text_2 _ hT ⟨by omega, fun c => clrT τ (i2.mono (by decide)) (fun j a b => i3 j a (by omega)), fun c => ⟨by omega, ?_⟩⟩
    have h9 := ih (k + 1, wr τ 48 k 0) (by show 683 - (k + 1) < 683 - k; omega) ⟨by show k + 1 ≤ 683; omega, i2.tr (Fr.wr (frO_a (by decide) _)), fun j a b => ?_⟩
    · simp only at h9
      rw [show ((k + 1 : Nat) : Int) = (k : Int) + 1 by omega] at h9
      exact h9
    · show (wr τ 48 k 0).1 48 j = 0
      by_cases hjk : j = k
      · rw [hjk, wr_same]
      · rw [wr_nk _ hjk]; exact i3 j a (by have : j < ((k + 1 : Nat) : Int) := b; omega)
  exact e_M_text (key (0, σ) ⟨Nat.zero_le _, Fr.refl _ _, fun j a b => by have : j < ((0 : Nat) : Int) := b; omega⟩)
end MTextR
