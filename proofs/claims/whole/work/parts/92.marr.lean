def lbX : List (Int × Int) := (69, -1) :: (70, -1) :: (71, -1) :: scr
theorem bstF_app (T : Tb) (M : Mo) (o : Option Tr) (A B : List Tr) : bstF T M o (A ++ B) = bstF T M (bstF T M o A) B := by simp [bstF]
section MArr
variable {E : EV} {d : Nat} {σ : St} {T : Tb} {M : Mo} {P : List Mo} {tp : List Int}
theorem RS.lb {τ : St} (h : RS σ T M P tp) (hf : Fr lbX σ τ) : RS τ T M P tp := by
  obtain ⟨⟨h1, h2, h3⟩, ⟨h4, h5⟩, ⟨h6, h7⟩, h8⟩ := h
  have f1 : τ.1 47 = σ.1 47 := funext (fun k => hf.2 _ _ rfl)
  have f2 : τ.1 49 = σ.1 49 := funext (fun k => hf.2 _ _ rfl)
  have f3 : τ.1 76 = σ.1 76 := funext (fun k => hf.2 _ _ rfl)
  have f4 : τ.1 77 = σ.1 77 := funext (fun k => hf.2 _ _ rfl)
  refine ⟨⟨hf.fix h1 (by decide), fun l hl => ?_, by rw [f1]; exact h3⟩, ⟨(hf.2 _ _ rfl).trans h4, by rw [f2]; exact h5⟩, ⟨(hf.2 _ _ rfl).trans h6, by rw [f3]; exact h7⟩, by rw [f4]; exact h8⟩
  rw [hf.2 _ _ rfl, hf.2 _ _ rfl, hf.2 _ _ rfl, hf.2 _ _ rfl]
  exact h2 l hl
theorem FormsOK.keep {X : List (Int × Int)} {τ : St} (h : FormsOK σ) (hf : Fr X σ τ) (h1 : ∀ j, frO X 69 j = true) (h2 : ∀ j, frO X 70 j = true) (h3 : ∀ j, frO X 71 j = true) : FormsOK τ := by
  intro n a b
  have hl := fF_len n a b
  have hm := off_mono (n + 1) 7 (by omega) (by omega)
  exact (h n a b).keep (B := 257) (hf.2 _ _ (h2 _)) (hf.2 _ _ (h3 _)) (fun j _ => hf.2 _ _ (h1 _)) (by have e : offF 7 = 257 := rfl; omega) (fun s hs => (fF_rc (by omega) b hs).1)
theorem cand_ok {t s : Tr} (ht : okS T t) {n : Nat} (hn : 1 ≤ n ∧ n ≤ 6) (hso : so t = n) (hs : s ∈ fF n) (tr : Bool) : okS T (sbs (oS t) (if tr then tn s else s)) ∧ bl (sbs (oS t) (if tr then tn s else s)) + 1 = ((oS t).map (fun u => bl u + 1)).sum := by
  obtain ⟨s1, s2, s3, s4⟩ := fF_ok hn.1 hn.2 hs
  have hw : okP (if tr then tn s else s) = true ∧ lv (if tr then tn s else s) = List.range (so t) := by
    have := okP_tn s1
    rw [hso]
    cases tr
    · exact ⟨s1, s3⟩
    · exact ⟨this.1, this.2.trans s3⟩
  refine ⟨(sbs_okS ht hw.1 hw.2).1, ?_⟩
  rw [sbs_bl _ hw.1, hw.2, ← oS_len, range_map_getD (.var 0) (fun u => bl u + 1)]
theorem c_M_laysBest {l s : Int} {t : Tr} (h : RS σ T M P tp) (hk : okD T M P tp) (hfm : FmOK σ) (hsq : sqAt M l s = some t) : WMi E m_M_laysBest (d + 4) [aP 42, aI l, aI s] σ (fun r τ => Fr lbX σ τ ∧ FormsOK τ ∧ if so t ≤ 6 then r = 1 ∧ ∃ b, bstO T M t = some b ∧ okS T b ∧ BstIs τ T M (some b) else r = 0) := by
  have hF := h.1.1
  have hkM := hk.2.1
  obtain ⟨a1, a2, a3, a4, a5, a6, a7⟩ := h.1.2.2.sq hkM hsq
  have h10 := a5.2.1
  have hso1 := so_pos a5.1
  have hsol := so_le t
  refine e_M_laysBest _ _ hF (WMv.mono (c_M_laysAllForms hF hfm) (fun τ1 p1 q1 => ?_))
  have h1 := h.lb (q1.1.mono (by decide))
  refine ⟨h1.1.1, WMv.mono (c_M_takes' h1 hkM hsq) (fun τ2 p2 q2 => ?_)⟩
  have h2 := h1.scr (q2.1.mono (by decide))
  refine ⟨h2.1.1, WMv.mono (c_M_laysItems h2.1.1 q2.2 a5.1 h10) (fun τ3 p3 q3 => ?_)⟩
  obtain ⟨f3, n3, it3⟩ := q3
  have h3 := h2.scr (f3.mono (by decide))
  have fo3 : FormsOK τ3 := (q1.2.keep q2.1 (fun _ => rfl) (fun _ => rfl) (fun _ => rfl)).keep f3 (fun _ => rfl) (fun _ => rfl) (fun _ => rfl)
  have fr3 : Fr lbX σ τ3 := ((q1.1.mono (by decide)).tr (q2.1.mono (by decide))).tr (f3.mono (by decide))
  rw [n3]
  refine ⟨h3.1.1, by omega, fun c => ?_, fun c => ?_⟩
  · have hso6 : so t ≤ 6 := by omega
    have fw : Fr lbX τ3 (wr τ3 42 41 0) := Fr.wr (frO_k (by decide))
    have h4 := h3.lb fw
    have fo4 : FormsOK (wr τ3 42 41 0) := fo3.keep (X := [(42, 41)]) (Fr.wr (frO_k (by decide))) (fun _ => rfl) (fun _ => rfl) (fun _ => rfl)
    have it4 : ItAt (wr τ3 42 41 0) 72 t (oS t) := fun i u hu => by
      obtain ⟨p, e1, e2, e3⟩ := it3 i u hu
      exact ⟨p, by rw [wr_na _ (by decide)]; exact e1, e2.congr (fun j hj => wr_na _ (by decide)), e3⟩
    have n4 : (wr τ3 42 41 0).1 42 39 = so t := by rw [wr_nk _ (by decide)]; exact n3
    have B4 : BstIs (wr τ3 42 41 0) T M none := wr_same _ _ _ _
    have fr4 := fr3.tr fw
    generalize wr τ3 42 41 0 = τ4 at *
    have hlF : (fF (so t)).length ≤ 257 := by
      by_cases h1 : so t = 1
      · rw [h1, fF_1]; decide
      · have := fF_len (so t) (by omega) hso6
        have := off_mono (so t + 1) 7 (by omega) (by omega)
        have e : offF 7 = 257 := rfl
        omega
    have hlF1 : 1 ≤ (fF (so t)).length := by
      generalize so t = n at *
      match n, hso1, hso6 with
      | 1, _, _ => decide +kernel
      | 2, _, _ => decide +kernel
      | 3, _, _ => decide +kernel
      | 4, _, _ => decide +kernel
      | 5, _, _ => decide +kernel
      | 6, _, _ => decide +kernel
    have main : WP E m_M_laysBest (d + 4) 55 [(0, aP 42), (3, aI (fF (so t)).length), (4, aI 0)] [] τ4 (fun r τ => ∃ v, r = some (aI v) ∧ σ.2 <+: τ.2 ∧ Fr lbX σ τ ∧ FormsOK τ ∧ if so t ≤ 6 then v = 1 ∧ ∃ b, bstO T M t = some b ∧ okS T b ∧ BstIs τ T M (some b) else v = 0) := by
      have key : ∀ z : Nat × Option Tr × St, (z.1 ≤ (fF (so t)).length ∧ z.2.1 = bstF T M none ((((fF (so t)).take z.1).flatMap (fun s => [s, tn s])).map (sbs (oS t))) ∧ (∀ b, z.2.1 = some b → okS T b ∧ bl b + 1 = ((oS t).map (fun u => bl u + 1)).sum) ∧ (0 < z.1 → z.2.1 ≠ none) ∧ Fr lbX σ z.2.2 ∧ FormsOK z.2.2 ∧ ItAt z.2.2 72 t (oS t) ∧ z.2.2.1 42 39 = so t ∧ BstIs z.2.2 T M z.2.1) → WP E m_M_laysBest (d + 4) 55 [(0, aP 42), (3, aI (fF (so t)).length), (4, aI z.1)] [] z.2.2 (fun r τ => ∃ v, r = some (aI v) ∧ σ.2 <+: τ.2 ∧ Fr lbX σ τ ∧ FormsOK τ ∧ if so t ≤ 6 then v = 1 ∧ ∃ b, bstO T M t = some b ∧ okS T b ∧ BstIs τ T M (some b) else v = 0) := by
        refine lpx (fun z => (fF (so t)).length - z.1) _ _ (fun z hI ih => ?_)
        obtain ⟨w, o, τ⟩ := z
        obtain ⟨i1, i2, i3, i4, i5, i6, i7, i8, i9⟩ := hI
        simp only at i1 i2 i3 i4 i5 i6 i7 i8 i9 ih ⊢
        have hT := h.lb i5
        refine b_M_laysBest_55 _ _ hT.1.1 ⟨by omega, by omega, fun c2 => ?_, fun c2 => ?_⟩
        · refine ⟨_, rfl, pre_eq i5.1, i5, i6, ?_⟩
          rw [if_pos hso6]
          rw [List.take_of_length_le (by omega)] at i2
          cases o with
          | none => exact absurd rfl (i4 (by omega))
          | some b => exact ⟨rfl, b, i2.symm, (i3 b rfl).1, i9⟩
        · have hwl : w < (fF (so t)).length := by omega
          have hse := List.getElem?_eq_getElem hwl
          have hft := flatMap_take (fun s : Tr => [s, tn s]) hwl
          have hmem := List.getElem_mem hwl
          generalize (fF (so t))[w] = sf at hse hft hmem
          obtain ⟨c1k, c1b⟩ := cand_ok a5 ⟨hso1, hso6⟩ rfl hmem false
          obtain ⟨c2k, c2b⟩ := cand_ok a5 ⟨hso1, hso6⟩ rfl hmem true
          refine WMv.mono (c_M_forms (tr := false) hT.1.1 i6 i8 ⟨hso1, hso6⟩ a5.1 h10 rfl i7 hse (Or.inr ⟨rfl, rfl⟩)) (fun υ1 pp1 qq1 => ?_)
          have g1 := hT.scr (qq1.1.mono (by decide))
          have B1 : BstIs υ1 T M o := i9.keep qq1.1 (fun j => ⟨rfl, rfl⟩) ⟨rfl, rfl, rfl, rfl⟩
          refine ⟨g1.1.1, WMv.mono (c_M_compares g1 hk qq1.2 c1k B1 (fun b hb => ⟨(i3 b hb).1, by have := (i3 b hb).2; omega⟩)) (fun υ2 pp2 qq2 => ?_)⟩
          have g2 := g1.scr (qq2.1.mono (by decide))
          have fo2 : FormsOK υ2 := (i6.keep qq1.1 (fun _ => rfl) (fun _ => rfl) (fun _ => rfl)).keep qq2.1 (fun _ => rfl) (fun _ => rfl) (fun _ => rfl)
          have it2 : ItAt υ2 72 t (oS t) := fun i u hu => by
            obtain ⟨p, e1, e2, e3⟩ := i7 i u hu
            exact ⟨p, (qq2.1.2 _ _ rfl).trans ((qq1.1.2 _ _ rfl).trans e1), e2.congr (fun j hj => (qq2.1.2 _ _ rfl).trans (qq1.1.2 _ _ rfl)), e3⟩
          have n2 : υ2.1 42 39 = so t := (qq2.1.2 _ _ rfl).trans ((qq1.1.2 _ _ rfl).trans i8)
          refine ⟨g2.1.1, WMv.mono (c_M_forms (tr := true) g2.1.1 fo2 n2 ⟨hso1, hso6⟩ a5.1 h10 rfl it2 hse (Or.inl ⟨rfl, rfl⟩)) (fun υ3 pp3 qq3 => ?_)⟩
          have g3 := g2.scr (qq3.1.mono (by decide))
          have hs1 : sbs (oS t) (if false = true then tn sf else sf) = sbs (oS t) sf := rfl
          have hs2 : sbs (oS t) (if true = true then tn sf else sf) = sbs (oS t) (tn sf) := rfl
          rw [hs1] at c1k c1b qq2
          rw [hs2] at c2k c2b qq3
          have B3 : BstIs υ3 T M (some (nxtB T M o (sbs (oS t) sf))) := qq2.2.keep qq3.1 (fun j => ⟨rfl, rfl⟩) ⟨rfl, rfl, rfl, rfl⟩
          have nok : ∀ (o : Option Tr) (cc : Tr), (okS T cc ∧ bl cc + 1 = ((oS t).map (fun u => bl u + 1)).sum) → (∀ b, o = some b → okS T b ∧ bl b + 1 = ((oS t).map (fun u => bl u + 1)).sum) → okS T (nxtB T M o cc) ∧ bl (nxtB T M o cc) + 1 = ((oS t).map (fun u => bl u + 1)).sum := by
            intro o cc h1 h2
            cases o with
            | none => exact h1
            | some b =>
              show okS T (if btr T M cc b then cc else b) ∧ bl (if btr T M cc b then cc else b) + 1 = _
              split
              · exact h1
              · exact h2 b rfl
          have k1 := nok o (sbs (oS t) sf) ⟨c1k, c1b⟩ i3
          refine ⟨g3.1.1, WMv.mono (c_M_compares g3 hk qq3.2 c2k B3 (fun b hb => by cases hb; exact ⟨k1.1, by have := k1.2; omega⟩)) (fun υ4 pp4 qq4 => ?_)⟩
          have k2 := nok (some (nxtB T M o (sbs (oS t) sf))) (sbs (oS t) (tn sf)) ⟨c2k, c2b⟩ (fun b hb => by cases hb; exact k1)
          have h9 := ih (w + 1, some (nxtB T M (some (nxtB T M o (sbs (oS t) sf))) (sbs (oS t) (tn sf))), υ4) (by show (fF (so t)).length - (w + 1) < (fF (so t)).length - w; omega) ⟨by show w + 1 ≤ _; omega, ?_, fun b hb => (by cases hb; exact k2), fun _ q => (by cases q), (((i5.tr (qq1.1.mono (by decide))).tr (qq2.1.mono (by decide))).tr (qq3.1.mono (by decide))).tr (qq4.1.mono (by decide)), (fo2.keep qq3.1 (fun _ => rfl) (fun _ => rfl) (fun _ => rfl)).keep qq4.1 (fun _ => rfl) (fun _ => rfl) (fun _ => rfl), fun i u hu => by
            obtain ⟨p, e1, e2, e3⟩ := it2 i u hu
            exact ⟨p, (qq4.1.2 _ _ rfl).trans ((qq3.1.2 _ _ rfl).trans e1), e2.congr (fun j hj => (qq4.1.2 _ _ rfl).trans (qq3.1.2 _ _ rfl)), e3⟩, (qq4.1.2 _ _ rfl).trans ((qq3.1.2 _ _ rfl).trans n2), qq4.2⟩
          · simp only at h9
            rw [show ((w + 1 : Nat) : Int) = (w : Int) + 1 by omega] at h9
            exact h9
          · show some _ = bstF T M none ((((fF (so t)).take (w + 1)).flatMap (fun s => [s, tn s])).map (sbs (oS t)))
            rw [hft, List.map_append, bstF_app, ← i2]
            rfl
      exact key (0, none, τ4) ⟨Nat.zero_le _, rfl, fun b hb => (by cases hb), fun q => absurd q (by simp), fr4, fo4, it4, n4, B4⟩
    refine ⟨by omega, fun c2 => ⟨by omega, b_M_laysBest_51 _ ?_⟩, fun c2 => b_M_laysBest_51 _ ?_⟩
    · have := (fo3 (so t) (by omega) hso6).1
      rw [this]
      exact main
    · have e : (fF (so t)).length = 1 := by rw [show so t = 1 by omega, fF_1]; rfl
      rw [e] at main
      exact main
  · refine ⟨_, rfl, pre_eq fr3.1, fr3, fo3, ?_⟩
    rw [if_neg (by omega)]
end MArr
