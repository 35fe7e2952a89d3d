theorem mny_le {s : Nat} {t : Tr} (h : ok t) : mny s t ≤ sg t := by
  unfold mny
  split
  · exact nM_le h
  · exact nA_le h
def EnRes (tp : List Int) (T : Tb) (s n : Nat) (o : Except Nat ((List Fm2 × Nat) ⊕ (Tr × Nat))) (r : Int) (τ : St) : Prop := match o with
  | .error f => r = 0 ∧ τ.1 42 53 = 1 ∧ τ.1 42 51 = f
  | .ok (.inl (gs, p1)) => r = 1 ∧ τ.1 42 53 = 0 ∧ LA τ tp p1 ∧ ∃ n', SQ τ tp T gs s n' n' ∧ n' ≤ n + 1
  | .ok (.inr (u, p1)) => r = 0 ∧ τ.1 42 53 = 0 ∧ LA τ tp p1 ∧ ∃ (w : Option Nat) (R : Option Tr) (P : Tr), SQ τ tp T [(w, R, some P)] s n n ∧ jo ja R P = u ∧ (ok P ∧ sg P ≤ 10) ∧ (∀ t, R = some t → ok t ∧ sg t ≤ 10)
section MPend
variable {E : EV} {d : Nat} {σ : St} {tp : List Int} {T : Tb} {s : Nat}
theorem l_M_endsPart : ∀ (fs : List Fm2) (τ : St) (x n lo p s0 : Nat) (t : Tr), Fr sqX σ τ → SQ τ tp T fs s lo n → ND τ 0 lo n x 0 t → τ.1 42 53 = 0 → LA τ tp p → okFs T fs s0 → okV T (crs fs) t → s0 + sg t ≤ 10 → fs ≠ [] → fs.length ≤ 7 → n ≤ 198 → WP E m_M_endsPart (d + 4) 2 [(0, aP 42), (2, aI x)] [] τ (fun r υ => ∃ v, r = some (aI v) ∧ σ.2 <+: υ.2 ∧ Fr sqX σ υ ∧ EnRes tp T s n (endP tp fs t p) v υ)
  | [], τ, x, n, lo, p, s0, t, _, _, _, _, _, _, _, _, hne, _, _ => absurd rfl hne
  | f :: fs, τ, x, n, lo, p, s0, t, hfr, hS, hx, hw, hla, hok, hv, hs0, hne, hlen, hn => by
    obtain ⟨⟨hF, hTp, hRd⟩, hFS, hop, hwi, hsr, hno⟩ := hS
    obtain ⟨h1, h2, h3, h4, s', h5, h6⟩ := hok
    obtain ⟨a1, a2⟩ := jo_jn h2 hv
    obtain ⟨b1, b2⟩ := jo_ja h1 a1
    obtain ⟨base, A, r, g1, g2, g3, g4, g5, g6⟩ := hFS
    simp only [List.length_cons] at hlen hop
    have hop' : τ.1 42 70 = fs.length := by rw [hop]; omega
    have hxr := (ND_rng hx).1
    have hnn : (n : Int) ≤ 198 := by omega
    have hPm : ∀ t', f.2.2 = some t' → mny 1 t' ≤ 1000 := fun t' ht' => by
      rw [ht'] at h2 a2
      have := mny_le (s := 1) h2.1
      simp only [osg] at a2
      have hs1 : osg f.2.2 ≤ s0 := by omega
      rw [ht'] at hs1
      simp only [osg] at hs1
      omega
    have hRm : ∀ t', f.2.1 = some t' → mny 2 t' ≤ 1000 ∧ ok t' ∧ sg t' ≤ 10 := fun t' ht' => by
      rw [ht'] at h1
      have := mny_le (s := 2) h1.1
      have hs1 : osg f.2.1 ≤ s0 := by omega
      rw [ht'] at hs1
      simp only [osg] at hs1
      exact ⟨by omega, h1.1, by omega⟩
    have hmr : rI (τ.1 88 r) := by
      cases hP : f.2.2 with
      | none => rw [hP] at g4; rw [g4.2]; decide
      | some t' => have := hPm t' hP; rw [hP] at g4; rw [g4.2.1]; omega
    have hsP : sg (jo jn f.2.2 t) ≤ 10 := by rw [a2]; omega
    have hsG : sg (jo ja f.2.1 (jo jn f.2.2 t)) ≤ 10 := by rw [b2, a2]; omega
    have mP := mny_le (s := 1) a1.1
    have mG := mny_le (s := 2) b1.1
    refine b_M_endsPart_2 _ hF ?_
    rw [hop', g2.2]
    have hj1 : jS 1 = jn := rfl
    have cap := c_M_appends (E := E) (d := d + 3) hF (Or.inl rfl) g4 (by omega) hmr hx (Nat.le_refl _) (by omega)
    rw [hj1] at cap
    refine ⟨by omega, WMv.mono cap (fun τ1 p1 q1 => ?_)⟩
    obtain ⟨f1, r1, ag1⟩ := q1
    have F1 := f1.fix hF (by decide)
    have Tp1 : Tp τ1 tp := hTp.keep f1 rfl (fun _ => ⟨rfl, rfl⟩)
    have Rd1 : RdT τ1 T := hRd.keep f1 (fun _ => ⟨rfl, rfl⟩)
    have la1 : LA τ1 tp p := hla.keep f1 ⟨rfl, rfl, rfl, rfl⟩
    have w1 : τ1.1 42 53 = 0 := (f1.2 _ _ rfl).trans hw
    have o1 : τ1.1 42 70 = fs.length := (f1.2 _ _ rfl).trans hop'
    have fr1 : Fr sqX σ τ1 := hfr.tr (f1.mono (by decide))
    have A1 : τ1.1 89 fs.length = A := (f1.2 _ _ rfl).trans g2.1
    have R1 : τ1.1 90 fs.length = r := (f1.2 _ _ rfl).trans g2.2
    have row2 : RowN τ1 2 A r f.2.1 := g3.a7 (by omega) (fun j q1 q2 => ag1 j (Or.inl q2))
    have rest1 : FSk τ1 base fs := g6.keep (fun j hj => ag1 j (Or.inl (by omega))) (fun i hi => ⟨f1.2 _ _ rfl, f1.2 _ _ rfl, f1.2 _ _ rfl⟩)
    have own1 : match f.1 with
      | none => τ1.1 91 fs.length = -1 ∧ base = A
      | some l => τ1.1 91 fs.length = base ∧ base + 1 = A ∧ τ1.1 82 base = 0 ∧ τ1.1 83 base = l := by
      cases hf : f.1 with
      | none => rw [hf] at g5; exact ⟨(f1.2 _ _ rfl).trans g5.1, g5.2⟩
      | some l =>
        rw [hf] at g5
        obtain ⟨⟨z1, z2, -⟩, -⟩ := ag1 base (Or.inl (by omega))
        exact ⟨(f1.2 _ _ rfl).trans g5.1, g5.2.1, z1.trans g5.2.2.1, z2.trans g5.2.2.2⟩
    have FS1 : FSk τ1 n ((f.1, f.2.1, some (jo jn f.2.2 t)) :: fs) := ⟨base, A, r, by omega, ⟨A1, R1⟩, row2, r1, own1, rest1⟩
    have hcr : ∀ (R P : Option Tr), crs ((f.1, R, P) :: fs) = crs (f :: fs) := fun R P => rfl
    have sq1 : SQ τ1 tp T ((f.1, f.2.1, some (jo jn f.2.2 t)) :: fs) s n n := ⟨⟨F1, Tp1, Rd1⟩, FS1, by rw [o1]; simp, by rw [hcr, f1.2 _ _ rfl]; exact hwi, (f1.2 _ _ rfl).trans hsr, (f1.2 _ _ rfl).trans hno⟩
    refine ⟨F1, wmi_p (c_M_isMark F1 Tp1 la1 (by decide) (by decide) (by decide)) ⟨F1, b2i_r _, fun c => ?_, fun c => ?_⟩⟩
    · rw [b2i_0] at c
      refine wmi_p (c_M_isMark F1 Tp1 la1 (by decide) (by decide) (by decide)) ⟨F1, b2i_r _, fun c2 => ?_, fun c2 => ?_⟩
      · -- the group ends
        rw [b2i_0] at c2
        rw [o1]
        refine ⟨by omega, fun c3 => ?_, fun c3 => ?_⟩
        · have hfs0 : ¬ fs.length = 0 := by omega
          have hfne : fs ≠ [] := fun q => hfs0 (by rw [q]; rfl)
          -- what closes it
          have close : ∀ (ow m : Int), (33 ≤ m ∧ m ≤ 255) → isL m = false → isDg m = false → rI ow →
              (byt tp (nbk tp p) ≠ m → endP tp (f :: fs) t p = .error (nbk tp p)) →
              (byt tp (nbk tp p) = m → ∀ (υ : St) (g : Nat), Fr sqX σ υ → SQ υ tp T ((f.1, f.2.1, some (jo jn f.2.2 t)) :: fs) s n n ∨ True → ND υ 0 A n g 0 (jo ja f.2.1 (jo jn f.2.2 t)) → (∀ j : Nat, j < A ∨ n ≤ j → A7 τ1 υ j) → Fr apX τ1 υ → LA υ tp p → WP E m_M_endsPart (d + 4) 148 [(0, aP 42), (3, aI ow), (4, aI g)] [] (if ow = -1 then wr υ 42 70 ((υ.1 42 70) - 1) else wr (wr (wr υ 42 70 ((υ.1 42 70) - 1)) 84 ow g) 42 71 ((υ.1 42 71) - 1)) (fun r υ => ∃ v, r = some (aI v) ∧ σ.2 <+: υ.2 ∧ Fr sqX σ υ ∧ EnRes tp T s n (endP tp (f :: fs) t p) v υ)) → (ow ≠ -1 → 0 ≤ ow ∧ ow < 200) →
              WP E m_M_endsPart (d + 4) 96 [(0, aP 42), (3, aI ow)] [aI m, aP 42] τ1 (fun r υ => ∃ v, r = some (aI v) ∧ σ.2 <+: υ.2 ∧ Fr sqX σ υ ∧ EnRes tp T s n (endP tp (f :: fs) t p) v υ) := by
            intro ow m hm1 hm2 hm3 hor hbad hgood howb
            refine b_M_endsPart_96 _ _ _ F1 ⟨sf_42 F1, wmi_p (c_M_isMark F1 Tp1 la1 hm1 hm2 hm3) ⟨F1, b2i_r _, fun c4 => ?_, fun c4 => ?_⟩⟩
            · rw [b2i_n0] at c4
              refine WMi.mono (c_M_endsGroup F1 (by omega) o1 A1 R1 (by omega) row2 r1 (by omega) (fun t' ht' => (hRm t' ht').1) (by omega)) (fun g υ pp qq => ?_)
              obtain ⟨f2, ⟨g', rfl, nd2⟩, ag2⟩ := qq
              have hU := f2.fix F1 (by decide)
              have := hgood c4 υ g' (fr1.tr (f2.mono (by decide))) (Or.inr trivial) nd2 ag2 f2 (la1.keep f2 ⟨rfl, rfl, rfl, rfl⟩)
              refine ⟨hU, hor, fun c5 => ?_, fun c5 => ⟨howb c5, ?_⟩⟩
              · rw [if_pos c5] at this; exact this
              · rw [if_neg c5] at this; exact this
            · rw [b2i_0] at c4
              rw [hbad c4]
              exact ⟨_, rfl, pre_eq fr1.1, fr1.tr (Fr.wr (frO_k (by decide))), rfl, wr_same _ _ _ _, by rw [wr_nk _ (by decide)]; exact la1.2.1⟩
          cases hf : f.1 with
          | none =>
            rw [hf] at own1
            rw [own1.1]
            have e0 : crs (f :: fs) = crs fs := by simp [crs, hf]
            refine ⟨by omega, by decide, fun q => absurd rfl q, fun _ => close (-1) 41 (by decide) (by decide) (by decide) (by decide) (fun q => ?_) (fun q υ g u1 _ u3 u4 u5 u6 => ?_) (fun q => absurd rfl q)⟩
            · simp only [endP]
              rw [if_neg c, if_neg c2, if_neg hfs0, hf]
              dsimp only
              rw [if_neg q]
            · rw [if_pos rfl]
              have e1 : endP tp (f :: fs) t p = endP tp fs (jo ja f.2.1 (jo jn f.2.2 t)) (nbk tp p + 1) := by
                simp only [endP]
                rw [if_neg c, if_neg c2, if_neg hfs0, hf]
                dsimp only
                rw [if_pos q]
              rw [e1]
              have hU := u5.fix F1 (by decide)
              have fw : Fr [(42, 70)] υ (wr υ 42 70 ((υ.1 42 70) - 1)) := Fr.wr (frO_k (by decide))
              have hV := fw.fix hU (by decide)
              have TpV : Tp (wr υ 42 70 ((υ.1 42 70) - 1)) tp := (Tp1.keep u5 rfl (fun _ => ⟨rfl, rfl⟩)).keep fw rfl (fun _ => ⟨rfl, rfl⟩)
              have oV : (wr υ 42 70 ((υ.1 42 70) - 1)).1 42 70 = (fs.length : Int) - 1 := by rw [wr_same, u5.2 _ _ rfl, o1]
              have laV := u6.keep fw ⟨rfl, rfl, rfl, rfl⟩
              refine b_M_endsPart_148 _ _ ⟨by decide, fun q => absurd rfl q, fun _ => b_M_endsPart_159 _ hV (WMv.mono (mark_go hV TpV laV (by decide) (by decide) (by decide) q) (fun ψ pp qq => ?_))⟩
              have agV : ∀ j : Nat, A7 υ ψ j := fun j => (A7.fr fw (fun _ => ⟨rfl, rfl, rfl, rfl, rfl, rfl, rfl⟩) j).tr (A7.fr qq.1 (fun _ => ⟨rfl, rfl, rfl, rfl, rfl, rfl, rfl⟩) j)
              have fψ : Fr sqX τ1 ψ := ((u5.mono (by decide)).tr (fw.mono (by decide))).tr (qq.1.mono (by decide))
              refine l_M_endsPart fs ψ g n base (nbk tp p + 1) s' (jo ja f.2.1 (jo jn f.2.2 t)) (fr1.tr fψ) ⟨⟨qq.1.fix hV (by decide), TpV.keep qq.1 rfl (fun _ => ⟨rfl, rfl⟩), Rd1.keep fψ (fun _ => ⟨rfl, rfl⟩)⟩, rest1.keep (fun j hj => (u4 j (Or.inl (by omega))).tr (agV j)) (fun i hi => ⟨((qq.1.2 _ _ rfl).trans (fw.2 _ _ rfl)).trans (u5.2 _ _ rfl), ((qq.1.2 _ _ rfl).trans (fw.2 _ _ rfl)).trans (u5.2 _ _ rfl), ((qq.1.2 _ _ rfl).trans (fw.2 _ _ rfl)).trans (u5.2 _ _ rfl)⟩), ?_, ?_, ?_, ?_⟩ ?_ ?_ qq.2 h6 (by rw [← e0]; exact b1) (by rw [b2, a2]; omega) hfne (by omega) hn
              · rw [qq.1.2 _ _ rfl]; exact oV
              · rw [qq.1.2 _ _ rfl, fw.2 _ _ rfl, u5.2 _ _ rfl, f1.2 _ _ rfl, hwi, e0]
              · rw [qq.1.2 _ _ rfl, fw.2 _ _ rfl, u5.2 _ _ rfl, f1.2 _ _ rfl, hsr]
              · rw [qq.1.2 _ _ rfl, fw.2 _ _ rfl, u5.2 _ _ rfl, f1.2 _ _ rfl, hno]
              · rw [own1.2]
                exact u3.a7 (fun j _ _ => agV j)
              · rw [qq.1.2 _ _ rfl, fw.2 _ _ rfl, u5.2 _ _ rfl]; exact w1
          | some l =>
            rw [hf] at own1
            rw [own1.1]
            have e0 : crs (f :: fs) = 1 + crs fs := by simp [crs, hf]
            have hl := h4 l hf
            refine ⟨by omega, by omega, fun _ => close base 62 (by decide) (by decide) (by decide) (by omega) (fun q => ?_) (fun q υ g u1 _ u3 u4 u5 u6 => ?_) (fun _ => by omega), fun q => by omega⟩
            · simp only [endP]
              rw [if_neg c, if_neg c2, if_neg hfs0, hf]
              dsimp only
              rw [if_neg q]
            · rw [if_neg (show ¬ ((base : Int) = -1) by omega)]
              have e1 : endP tp (f :: fs) t p = endP tp fs (.pow (jo ja f.2.1 (jo jn f.2.2 t)) l) (nbk tp p + 1) := by
                simp only [endP]
                rw [if_neg c, if_neg c2, if_neg hfs0, hf]
                dsimp only
                rw [if_pos q]
              rw [e1]
              have hU := u5.fix F1 (by decide)
              have fw : Fr [(42, 70), (42, 71), (84, -1)] υ (wr (wr (wr υ 42 70 ((υ.1 42 70) - 1)) 84 base g) 42 71 ((υ.1 42 71) - 1)) := ((Fr.wr (frO_k (by decide))).tr (Fr.wr (frO_a (by decide) _))).tr (Fr.wr (frO_k (by decide)))
              have oV : (wr (wr (wr υ 42 70 ((υ.1 42 70) - 1)) 84 base g) 42 71 ((υ.1 42 71) - 1)).1 42 70 = (fs.length : Int) - 1 := by rw [wr_nk _ (by decide), wr_na _ (by decide), wr_same, u5.2 _ _ rfl, o1]
              have wV : (wr (wr (wr υ 42 70 ((υ.1 42 70) - 1)) 84 base g) 42 71 ((υ.1 42 71) - 1)).1 42 71 = crs fs := by rw [wr_same, u5.2 _ _ rfl, f1.2 _ _ rfl, hwi, e0]; omega
              have iV : (wr (wr (wr υ 42 70 ((υ.1 42 70) - 1)) 84 base g) 42 71 ((υ.1 42 71) - 1)).1 84 base = g := by rw [wr_na _ (by decide), wr_same]
              have agW : ∀ j : Nat, j ≠ base → A7 υ (wr (wr (wr υ 42 70 ((υ.1 42 70) - 1)) 84 base g) 42 71 ((υ.1 42 71) - 1)) j := fun j hj => ⟨⟨fw.2 _ _ rfl, fw.2 _ _ rfl, by rw [wr_na _ (by decide), wr_nk _ (by omega), wr_na _ (by decide)], fw.2 _ _ rfl, fw.2 _ _ rfl, fw.2 _ _ rfl⟩, fw.2 _ _ rfl⟩
              generalize wr (wr (wr υ 42 70 ((υ.1 42 70) - 1)) 84 base g) 42 71 ((υ.1 42 71) - 1) = χ at *
              have hV := fw.fix hU (by decide)
              have TpV : Tp χ tp := (Tp1.keep u5 rfl (fun _ => ⟨rfl, rfl⟩)).keep fw rfl (fun _ => ⟨rfl, rfl⟩)
              have laV := u6.keep fw ⟨rfl, rfl, rfl, rfl⟩
              refine b_M_endsPart_148 _ _ ⟨by omega, fun _ => b_M_endsPart_159 _ hV (WMv.mono (mark_go hV TpV laV (by decide) (by decide) (by decide) q) (fun ψ pp qq => ?_)), fun q => by omega⟩
              have agG : ∀ j : Nat, A7 χ ψ j := fun j => A7.fr qq.1 (fun _ => ⟨rfl, rfl, rfl, rfl, rfl, rfl, rfl⟩) j
              have fψ : Fr sqX τ1 ψ := ((u5.mono (by decide)).tr (fw.mono (by decide))).tr (qq.1.mono (by decide))
              refine l_M_endsPart fs ψ base n base (nbk tp p + 1) s' (.pow (jo ja f.2.1 (jo jn f.2.2 t)) l) (fr1.tr fψ) ⟨⟨qq.1.fix hV (by decide), TpV.keep qq.1 rfl (fun _ => ⟨rfl, rfl⟩), Rd1.keep fψ (fun _ => ⟨rfl, rfl⟩)⟩, rest1.keep (fun j hj => ((u4 j (Or.inl (by omega))).tr (agW j (by omega))).tr (agG j)) (fun i hi => ⟨((qq.1.2 _ _ rfl).trans (fw.2 _ _ rfl)).trans (u5.2 _ _ rfl), ((qq.1.2 _ _ rfl).trans (fw.2 _ _ rfl)).trans (u5.2 _ _ rfl), ((qq.1.2 _ _ rfl).trans (fw.2 _ _ rfl)).trans (u5.2 _ _ rfl)⟩), ?_, ?_, ?_, ?_⟩ ?_ ?_ qq.2 h6 ?_ ?_ hfne (by omega) hn
              · rw [qq.1.2 _ _ rfl]; exact oV
              · rw [qq.1.2 _ _ rfl]; exact wV
              · rw [qq.1.2 _ _ rfl, fw.2 _ _ rfl, u5.2 _ _ rfl, f1.2 _ _ rfl, hsr]
              · rw [qq.1.2 _ _ rfl, fw.2 _ _ rfl, u5.2 _ _ rfl, f1.2 _ _ rfl, hno]
              · obtain ⟨⟨z1, z2, -⟩, -⟩ := u4 base (Or.inl (by omega))
                refine ⟨⟨Nat.le_refl _, by omega⟩, ⟨?_, ?_, g, ?_, ?_⟩, fun q => absurd rfl q⟩
                · rw [qq.1.2 _ _ rfl, fw.2 _ _ rfl, z1]; exact own1.2.2.1
                · rw [qq.1.2 _ _ rfl, fw.2 _ _ rfl, z2]; exact own1.2.2.2
                · rw [qq.1.2 _ _ rfl]; exact iV
                · rw [own1.2.1]
                  exact u3.a7 (fun j q1 q2 => (agW j (by omega)).tr (agG j))
              · rw [qq.1.2 _ _ rfl, fw.2 _ _ rfl, u5.2 _ _ rfl]; exact w1
              · rw [e0] at b1
                exact ⟨⟨b1.1, hl.1⟩, ⟨⟨hl.2.1, hl.2.2⟩, b1.2.1⟩, by have := b1.2.2; show dcp _ + 1 + crs fs ≤ 3; omega⟩
              · show s' + (sg (jo ja f.2.1 (jo jn f.2.2 t)) + 1) ≤ 10
                rw [b2, a2]
                rw [hf] at h5
                simp at h5
                omega
        · -- the square is through
          have hfs0 : fs.length = 0 := by omega
          have hfn : fs = [] := List.eq_nil_of_length_eq_zero hfs0
          have e1 : endP tp (f :: fs) t p = .ok (.inr (jo ja f.2.1 (jo jn f.2.2 t), p)) := by
            simp only [endP]
            rw [if_neg c, if_neg c2, if_pos hfs0]
          rw [e1]
          rw [hfn] at sq1
          exact ⟨_, rfl, pre_eq fr1.1, fr1, rfl, w1, la1, f.1, f.2.1, jo jn f.2.2 t, sq1, rfl, ⟨a1.1, hsP⟩, fun t' ht' => (hRm t' ht').2⟩
      · -- a further row
        rw [b2i_n0] at c2
        have e1 : endP tp (f :: fs) t p = .ok (.inl ((f.1, some (jo ja f.2.1 (jo jn f.2.2 t)), none) :: fs, nbk tp p + 1)) := by
          simp only [endP]
          rw [if_neg c, if_pos c2]
        rw [e1]
        refine WMv.mono (c_M_endsRow F1 (by omega) o1 A1 R1 (by omega) row2 r1 (by omega) (fun t' ht' => (hRm t' ht').1)) (fun τ2 p2 q2 => ?_)
        obtain ⟨f2, r2, ag2⟩ := q2
        have F2 := f2.fix F1 (by decide)
        refine ⟨F2, WMi.mono (c_M_node (n := n) F2 (((f2.2 _ _ rfl).trans (f1.2 _ _ rfl)).trans hno) (by omega)) (fun v τ3 p3 q3 => ?_)⟩
        obtain ⟨rfl, f3, n3, ⟨s3, -, m3⟩, ag3⟩ := q3
        have F3 := f3.fix F2 (by decide)
        have o2 : τ2.1 42 70 = fs.length := (f2.2 _ _ rfl).trans o1
        rw [o2]
        have fw : Fr [(90, -1)] τ3 (wr τ3 90 fs.length n) := Fr.wr (frO_a (by decide) _)
        have agw : ∀ j : Nat, A7 τ3 (wr τ3 90 fs.length n) j := A7.fr fw (fun _ => ⟨rfl, rfl, rfl, rfl, rfl, rfl, rfl⟩)
        have R3 : (wr τ3 90 fs.length n).1 90 fs.length = n := wr_same _ _ _ _
        have Rk : ∀ i : Nat, i < fs.length → (wr τ3 90 fs.length n).1 90 i = τ1.1 90 i := fun i hi => by rw [wr_nk _ (by omega)]; exact (f3.2 _ _ rfl).trans (f2.2 _ _ rfl)
        have f13 : Fr sqX τ1 (wr τ3 90 fs.length n) := ((f2.mono (by decide)).tr (f3.mono (by decide))).tr (fw.mono (by decide))
        generalize wr τ3 90 fs.length n = ψ at *
        have F4 := fw.fix F3 (by decide)
        have Tp4 : Tp ψ tp := Tp1.keep f13 rfl (fun _ => ⟨rfl, rfl⟩)
        have la4 : LA ψ tp p := ((la1.keep f2 ⟨rfl, rfl, rfl, rfl⟩).keep f3 ⟨rfl, rfl, rfl, rfl⟩).keep fw ⟨rfl, rfl, rfl, rfl⟩
        have agA : ∀ j : Nat, j < A → A7 τ1 ψ j := fun j hj => ((ag2 j (Or.inl hj)).tr (ag3 j (by omega))).tr (agw j)
        have ag24 : ∀ j : Nat, j < n → A7 τ2 ψ j := fun j hj => (ag3 j (by omega)).tr (agw j)
        have sq4 : SQ ψ tp T ((f.1, some (jo ja f.2.1 (jo jn f.2.2 t)), none) :: fs) s (n + 1) (n + 1) := by
          refine ⟨⟨F4, Tp4, Rd1.keep f13 (fun _ => ⟨rfl, rfl⟩)⟩, ⟨base, A, n, by omega, ⟨((fw.2 _ _ rfl).trans (f3.2 _ _ rfl)).trans ((f2.2 _ _ rfl).trans A1), R3⟩, r2.a7 (by omega) (fun j q1 q2 => ag24 j q2), ?_, ?_, rest1.keep (fun j hj => agA j (by omega)) (fun i hi => ⟨((fw.2 _ _ rfl).trans (f3.2 _ _ rfl)).trans (f2.2 _ _ rfl), Rk i hi, ((fw.2 _ _ rfl).trans (f3.2 _ _ rfl)).trans (f2.2 _ _ rfl)⟩)⟩, ?_, ?_, ?_, ?_⟩
          · obtain ⟨⟨z1, -, -, -, -, z6⟩, -⟩ := agw n
            exact ⟨z1.trans s3, z6.trans m3⟩
          · cases hf : f.1 with
            | none => rw [hf] at own1; exact ⟨((fw.2 _ _ rfl).trans (f3.2 _ _ rfl)).trans ((f2.2 _ _ rfl).trans own1.1), own1.2⟩
            | some l =>
              rw [hf] at own1
              obtain ⟨⟨z1, z2, -⟩, -⟩ := agA base (by omega)
              exact ⟨((fw.2 _ _ rfl).trans (f3.2 _ _ rfl)).trans ((f2.2 _ _ rfl).trans own1.1), own1.2.1, z1.trans own1.2.2.1, z2.trans own1.2.2.2⟩
          · rw [fw.2 _ _ rfl, f3.2 _ _ rfl, o2]; simp
          · rw [hcr, fw.2 _ _ rfl, f3.2 _ _ rfl, f2.2 _ _ rfl, f1.2 _ _ rfl]; exact hwi
          · rw [fw.2 _ _ rfl, f3.2 _ _ rfl, f2.2 _ _ rfl, f1.2 _ _ rfl]; exact hsr
          · rw [fw.2 _ _ rfl, n3]; omega
        refine ⟨F3, by omega, WMv.mono (mark_go F4 Tp4 la4 (by decide) (by decide) (by decide) c2) (fun χ pp qq => ?_)⟩
        have fχ : Fr sqX σ χ := (fr1.tr f13).tr (qq.1.mono (by decide))
        refine ⟨_, rfl, pre_eq fχ.1, fχ, rfl, ?_, qq.2, n + 1, sq4.go qq.1, by omega⟩
        rw [qq.1.2 _ _ rfl, fw.2 _ _ rfl, f3.2 _ _ rfl, f2.2 _ _ rfl]; exact w1
    · -- a further part
      rw [b2i_n0] at c
      have e1 : endP tp (f :: fs) t p = .ok (.inl ((f.1, f.2.1, some (jo jn f.2.2 t)) :: fs, nbk tp p + 1)) := by
        simp only [endP]
        rw [if_pos c]
      rw [e1]
      refine WMv.mono (mark_go F1 Tp1 la1 (by decide) (by decide) (by decide) c) (fun ψ pp qq => ?_)
      have fψ : Fr sqX σ ψ := fr1.tr (qq.1.mono (by decide))
      exact ⟨_, rfl, pre_eq fψ.1, fψ, rfl, (qq.1.2 _ _ rfl).trans w1, qq.2, n, sq1.go qq.1, by omega⟩
end MPend
