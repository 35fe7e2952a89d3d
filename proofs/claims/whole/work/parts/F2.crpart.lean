/-! THE READER: parts -/
section CRPart
variable {E : EV} {d : Nat} {σ : St} {tp : List Int} {T : Tb}
theorem c_Reader_takeOpening {f : Int} (hF : Fix σ) (hf : f = 0 ∨ f = 1) : WMi E m_Reader_takeOpening d [aP 12, aI f] σ (fun r τ => r = f ∧ Fr atX σ τ ∧ τ.1 12 6 = σ.1 12 6 + f) := by
  have fw : ∀ v, Fr atX σ (wr σ 12 6 v) := fun v => Fr.wr (frO_k (by decide))
  refine e_Reader_takeOpening _ hF ⟨by omega, fun c => b_Reader_takeOpening_14 _ _ _ _ ⟨sf_12 hF, hf, ?_⟩, fun c => b_Reader_takeOpening_14 _ _ _ _ ⟨sf_12 hF, hf, ?_⟩⟩
  · exact ⟨_, rfl, pre_eq (fw _).1, rfl, fw _, by rw [wr_same]; omega⟩
  · exact ⟨_, rfl, pre_eq (fw _).1, rfl, fw _, by rw [wr_same]; omega⟩
theorem letN_nb {tp : List Int} {a b : Nat} (h : nbk tp a = nbk tp b) : letN tp a = letN tp b := by unfold letN tk te; rw [h]
theorem crs_none (fs : List Fm2) : crs ((none, none, none) :: fs) = crs fs := by simp [crs]
theorem crs_some (l : Nat) (fs : List Fm2) : crs ((some l, none, none) :: fs) = crs fs + 1 := by simp [crs]; omega
theorem byt_lt2 {tp : List Int} {i : Nat} {c : Int} (h : byt tp i = c) (hc : 0 ≤ c) : i < tp.length := by
  apply Nat.lt_of_not_le
  intro hh
  have : byt tp i = -1 := by unfold byt; rw [if_neg (by omega)]
  omega
theorem Sy.app1 {K : List Int} {x : Int} (h : Sy K) (hx : 0 ≤ x ∧ x ≤ 65) : Sy (K ++ [x]) := h.app (Sy.cons hx (fun y hy => by cases hy))
theorem c_part (hT : okTab T) {N : Nat} (hG : ∀ N', N' < N → GroupC E tp T N') : PartC E tp T N := by
  intro D n fs p q s K σ x y hN hfs hx hy hcr hD hI hnb hp hn hs hK
  obtain ⟨n, rfl⟩ : ∃ n', n = n' + 1 := ⟨n - 1, by omega⟩
  obtain ⟨D2, rfl⟩ : ∃ D2, D = D2 + 6 := ⟨D - 6, by omega⟩
  have hF := hI.1.1
  have hq := hI.2.1.2
  have hnp := nbk_b hp
  have hb := byt_b hI.1.2.1.2.2.2 (nbk tp p)
  subst hx; subst hy
  refine e_Reader_readPart _ _ hF (WMi.mono (c_Reader_next (d := D2 + 4) hF hI.1.2.1 hI.2.1.1 hq) (fun r τ1 p1 q1 => ?_))
  rw [hnb] at q1
  obtain ⟨rfl, f1, e1⟩ := q1
  have F1 := f1.fix hF (by decide)
  have r1 := hI.go f1 (q' := nbk tp p) e1 hnp.2
  have g1 : Fr rgX σ τ1 := f1.mono (by decide)
  have hlet := letN_nb (tp := tp) (a := nbk tp p) (b := p) (nbk_i hp)
  have hlb := letN_b (tp := tp) (p := p)
  -- what comes behind a group within
  have inner : ∀ (w : Option Nat) (c : Int) (pp s1 : Nat) (K1 : List Int) (υ υ4 : St) (v4 : Int) (wrap : Tr → Tr) (pcd : Nat), (c = 41 ∨ c = 62) → (∀ R P t p1, byt tp (nbk tp p1) ≠ 42 → byt tp (nbk tp p1) ≠ 58 → endP tp ((w, R, P) :: fs) t p1 = if byt tp (nbk tp p1) = c then endP tp fs (wrap (jo ja R (jo jn P t))) (nbk tp p1 + 1) else .error (nbk tp p1)) → (∀ g, nrm g = nrm g → okw g → tok T g → (okw (wrap g) ∧ tok T (wrap g)) ∧ nrm (wrap g) = wrap (nrm g) ∧ s + sg (wrap g) = s1 + sg g ∧ K ++ cC (wrap g) = K1 ++ cC g) → p < pp → Fr rgX σ υ → runS tp T (n + 1) fs p s = runS tp T n ((w, none, none) :: fs) pp s1 → GroupR tp T υ n w fs pp s1 K1 v4 υ4 → (v4 = 0 → ∃ v, some (aI 0) = some (aI v) ∧ σ.2 <+: υ4.2 ∧ PartR tp T σ (n + 1) fs p s K v υ4) ∧ (¬ v4 = 0 → WMi E m_Reader_takeMark (D2 + 5) [aP 12, aI c] υ4 (fun v6 σ6 => rI v6 ∧ ((v6 = 0 → ∃ v, some (aI 0) = some (aI v) ∧ σ.2 <+: σ6.2 ∧ PartR tp T σ (n + 1) fs p s K v σ6) ∧ (¬ v6 = 0 → ∃ v, some (aI 1) = some (aI v) ∧ σ.2 <+: σ6.2 ∧ PartR tp T σ (n + 1) fs p s K v σ6)))) := by
    intro w c pp s1 K1 υ υ4 v4 wrap pcd hc hend hwr hpp fυ hrun hgr
    obtain ⟨f4, hr⟩ := hgr
    have f04 := fυ.tr f4
    rcases hr with ⟨rfl, f, k1, k2⟩ | ⟨rfl, g, t, R, P, p2, q2, m2, ⟨t1, t2, t3⟩, r4, ⟨k1, k2, k3⟩, k4, k5, k6, k7, k8⟩
    · exact ⟨fun _ => ⟨_, rfl, pre_eq f04.1, f04, Or.inl ⟨rfl, f, by rw [hrun, k1], k2⟩⟩, fun q => absurd rfl q⟩
    · refine ⟨fun q => absurd q (by decide), fun _ => ?_⟩
      have hq2 := r4.2.1.2
      have hnq := nbk_b hq2
      have hn2 := nbk_b k2
      have F4 := r4.1.1
      refine WMi.mono (c_Reader_takeMark (d := D2 + 3) F4 r4.1.2.1 r4.2.1.1 hq2 (by omega)) (fun v6 τ6 p6 q6 => ?_)
      rw [k1] at q6
      obtain ⟨rfl, f6, e6⟩ := q6
      have f06 := f04.tr (f6.mono (by decide))
      have he := hend R P t p2 k7 k8
      obtain ⟨⟨w1, w2⟩, w3, w4, w5⟩ := hwr g rfl t1 t2
      refine ⟨b2i_r _, fun c2 => ?_, fun c2 => ?_⟩
      · rw [b2i_0] at c2
        rw [if_neg c2] at e6
        refine ⟨_, rfl, pre_eq f06.1, f06, Or.inl ⟨rfl, nbk tp p2, ?_, e6⟩⟩
        rw [hrun, k5]
        unfold cont
        rw [he, if_neg c2]
      · rw [b2i_n0] at c2
        rw [if_pos c2] at e6
        have hlt := byt_lt2 c2 (by omega)
        have r6 := r4.go f6 (q' := nbk tp p2 + 1) e6 (by omega)
        refine ⟨_, rfl, pre_eq f06.1, f06, Or.inr ⟨rfl, wrap g, nbk tp p2 + 1, nbk tp p2 + 1, m2, ⟨w1, w2, by omega⟩, ?_, ⟨rfl, by omega, by omega⟩, by omega, ?_⟩⟩
        · rw [w4, w5]; exact r6
        · rw [hrun, k5, w3, w4, k6]
          unfold cont
          rw [he, if_pos c2]
  refine ⟨F1, by omega, fun c => ?_, fun c => ?_⟩
  · -- a sign
    refine WMi.mono (c_Reader_nextLetter (d := D2 + 3) F1 r1.1.2.1 e1 hnp.2) (fun v3 τ3 p3 q3 => ?_)
    rw [hlet, nbk_i hp] at q3
    obtain ⟨rfl, f3, e3⟩ := q3
    have F3 := f3.fix F1 (by decide)
    have r3 := r1.go f3 (q' := nbk tp p) e3 hnp.2
    have g3 := g1.tr (f3.mono (by decide))
    have bad : (letN tp p = -1 ∨ (T (letN tp p).toNat).1 = 0 ∨ 10 ≤ s) → ∃ v, some (aI 0) = some (aI v) ∧ σ.2 <+: τ3.2 ∧ PartR tp T σ (n + 1) fs p s K v τ3 := by
      intro hbad
      refine ⟨_, rfl, pre_eq g3.1, g3, Or.inl ⟨rfl, nbk tp p, ?_, e3⟩⟩
      have : bgP tp T fs p s = .error (nbk tp p) := by unfold bgP; rw [if_neg (fun q => c q.1), if_pos hbad]
      rw [runS, this]
    refine ⟨F3, r3.1.2.2.2.1, wmi_p (c_Table_has r3.1.2.2 hT (by omega)) ⟨F3, b2i_r _, fun c2 => bad ?_, fun c2 => ⟨by rw [r3.2.2.1]; omega, fun c3 => ?_, fun c3 => bad (Or.inr (Or.inr (by rw [r3.2.2.1] at c3; omega)))⟩⟩⟩
    · rw [b2i_0] at c2
      rcases hlb with q | q
      · exact Or.inl q
      · right; left
        have hr := (hT.r (letN tp p).toNat (by omega)).1
        unfold tb tW at c2
        rw [if_pos (by omega)] at c2
        omega
    · rw [b2i_n0] at c2
      rw [r3.2.2.1] at c3
      have hl : 0 ≤ letN tp p ∧ letN tp p < 26 ∧ tk tp p = 1 ∧ te tp p = nbk tp p + 1 := by
        rcases hlb with q | q
        · rw [q] at c2; unfold tb at c2; rw [if_neg (by omega)] at c2; omega
        · exact q
      have htw : 0 < (T (letN tp p).toNat).1 := by
        unfold tb tW at c2
        rw [if_pos (by omega)] at c2
        exact c2
      obtain ⟨l, hle⟩ : ∃ l : Nat, letN tp p = (l : Int) := ⟨(letN tp p).toNat, by omega⟩
      have hl26 : l < 26 := by omega
      have hlt : nbk tp p < tp.length := (tk_1.mp hl.2.2.1).1
      rw [hle, show ((l : Nat) : Int).toNat = l by omega] at htw
      have hpb := nbk_b (tp := tp) (p := nbk tp p + 1) (by omega)
      -- what the machine does
      have e0 : bgP tp T fs p s = if byt tp (nbk tp (nbk tp p + 1)) = 60 then (if (T l).2.2.1 = 0 ∨ 7 ≤ fs.length ∨ 3 ≤ crs fs then .error (nbk tp (nbk tp p + 1)) else .ok (.inl ((some l, none, none), nbk tp (nbk tp p + 1) + 1, s + 1))) else .ok (.inr (.var l, nbk tp p + 1)) := by
        unfold bgP
        rw [if_neg (fun q => c q.1), hle, show ((l : Nat) : Int).toNat = l by omega, if_neg (by omega)]
      rw [hle, r3.2.2.1, e3]
      have fw : Fr rgX τ3 (wr (wr τ3 12 6 ((nbk tp p : Int) + 1)) 12 11 ((s : Int) + 1)) := (Fr.wr (frO_k (by decide))).tr (Fr.wr (frO_k (by decide)))
      have r4 : RI (wr (wr τ3 12 6 ((nbk tp p : Int) + 1)) 12 11 ((s : Int) + 1)) tp T (nbk tp p + 1) (s + 1) K := r3.fr fw (by rw [wr_nk _ (by decide), wr_same]; omega) (by omega) (by rw [wr_same]; omega) (r3.2.2.2.keep ((Fr.wr (X := [(12, 6), (12, 11)]) (frO_k (by decide))).tr (Fr.wr (frO_k (by decide)))) rfl rfl (fun _ => rfl))
      have g4 := g3.tr fw
      generalize wr (wr τ3 12 6 ((nbk tp p : Int) + 1)) 12 11 ((s : Int) + 1) = τ4 at *
      refine WMv.mono (c_Draft_put (d := D2 + 4) r4.2.2.2 (by omega) (by omega)) (fun τ5 p5 q5 => ?_)
      have g5 := g4.tr (q5.1.mono (by decide))
      have r5 := r4.fr (q5.1.mono (by decide)) (q' := nbk tp p + 1) ((q5.1.2 _ _ rfl).trans r4.2.1.1) (by omega) ((q5.1.2 _ _ rfl).trans r4.2.2.1) q5.2
      refine ⟨r5.1.1, WMi.mono (c_Reader_next (d := D2 + 4) r5.1.1 r5.1.2.1 r5.2.1.1 (by omega)) (fun v9 τ6 p6 q6 => ?_)⟩
      obtain ⟨rfl, f6, e6⟩ := q6
      have g6 := g5.tr (f6.mono (by decide))
      have r6 := r5.go f6 (q' := nbk tp (nbk tp p + 1)) e6 hpb.2
      have hb6 := byt_b hI.1.2.1.2.2.2 (nbk tp (nbk tp p + 1))
      refine ⟨r6.1.1, by omega, fun c4 => ?_, fun c4 => ?_⟩
      · -- something is inside it
        rw [if_pos c4] at e0
        have hlt6 := byt_lt2 c4 (by decide)
        have ek : τ3.1 14 1 = (K.length : Int) := r3.2.2.2.2.1
        rw [ek]
        refine WMv.mono (c_Draft_change (d := D2 + 5) (p := K.length) (x := (l : Int) + 32) r6.2.2.2 (by simp) (by omega)) (fun τ7 p7 q7 => ?_)
        have hset : (K ++ [(l : Int)]).set K.length ((l : Int) + 32) = K ++ [(l : Int) + 32] := by
          rw [List.set_append_right _ _ (Nat.le_refl _)]; simp
        rw [hset] at q7
        have g7 := g6.tr (q7.1.mono (by decide))
        have r7 := r6.fr (q7.1.mono (by decide)) (q' := nbk tp (nbk tp p + 1)) ((q7.1.2 _ _ rfl).trans r6.2.1.1) hpb.2 ((q7.1.2 _ _ rfl).trans r6.2.2.1) q7.2
        have hcr' := (hT.r l hl26).2.2.1
        have htb : tb tU T (l : Int) = (T l).2.2.1 := tb_nat hl26
        -- not allowed
        have no : ((T l).2.2.1 = 0 ∨ 7 ≤ fs.length ∨ 3 ≤ crs fs) → WP E m_Reader_readPart (D2 + 6) 168 [(0, aP 12), (1, aI ((fs.length : Int) - 1)), (2, aI (crs fs))] [aP 12] τ7 (fun r τ => ∃ v, r = some (aI v) ∧ σ.2 <+: τ.2 ∧ PartR tp T σ (n + 1) fs p s K v τ) := by
          intro hno
          rw [if_pos hno] at e0
          refine b_Reader_readPart_168 _ _ _ (b_Reader_readPart_169 _ _ _ _ r7.1.1 ⟨sf_12 r7.1.1, WMi.mono (c_Reader_takeOpening r7.1.1 (Or.inl rfl)) (fun v8 τ8 p8 q8 => ?_)⟩)
          obtain ⟨rfl, f8, e8⟩ := q8
          have g8 := g7.tr (f8.mono (by decide))
          refine ⟨f8.fix r7.1.1 (by decide), by decide, fun _ => ⟨_, rfl, pre_eq g8.1, g8, Or.inl ⟨rfl, nbk tp (nbk tp p + 1), by rw [runS, e0], ?_⟩⟩, fun q => absurd rfl q⟩
          rw [e8, r7.2.1.1]; omega
        refine ⟨r7.1.1, r7.1.2.2.2.1, wmi_p (c_Table_hasCore (d := D2 + 4) r7.1.2.2 hT (by omega)) ⟨b2i_r _, fun c5 => no ?_, fun c5 => ⟨by omega, fun c6 => no (by omega), fun c6 => ⟨by omega, fun c7 => no (by omega), fun c7 => ?_⟩⟩⟩⟩
        · rw [b2i_0, htb] at c5; omega
        · rw [b2i_n0, htb] at c5
          rw [if_neg (by omega)] at e0
          refine b_Reader_readPart_169 _ _ _ _ r7.1.1 ⟨sf_12 r7.1.1, WMi.mono (c_Reader_takeOpening r7.1.1 (Or.inr rfl)) (fun v8 τ8 p8 q8 => ?_)⟩
          obtain ⟨rfl, f8, e8⟩ := q8
          have g8 := g7.tr (f8.mono (by decide))
          rw [r7.2.1.1] at e8
          have r8 := r7.go f8 (q' := nbk tp (nbk tp p + 1) + 1) (by rw [e8]; omega) (by omega)
          refine ⟨r8.1.1, by decide, fun q => absurd q (by decide), fun _ => ?_⟩
          have hrun : runS tp T (n + 1) fs p s = runS tp T n ((some l, none, none) :: fs) (nbk tp (nbk tp p + 1) + 1) (s + 1) := by rw [runS, e0]
          have hcs := crs_some l fs
          refine WMi.mono (hG (N - 1) (by omega) (D2 + 5) n (some l) fs (nbk tp (nbk tp p + 1) + 1) (nbk tp (nbk tp p + 1) + 1) (s + 1) (K ++ [(l : Int) + 32]) τ8 _ _ (by omega) (by omega) (by omega) (by rw [hcs]; omega) (by rw [hcs]; omega) (by omega) r8 rfl (by omega) (by omega) (by omega) (by simp only [List.length_append, List.length_singleton]; omega)) (fun v4 υ4 hp4 hgr => ?_)
          refine ⟨hgr.1.fix r8.1.1 (by decide), by rcases hgr.2 with q | q; omega; omega, ?_⟩
          exact inner (some l) 62 (nbk tp (nbk tp p + 1) + 1) (s + 1) (K ++ [(l : Int) + 32]) τ8 υ4 v4 (fun g => .pow g l) 0 (Or.inr rfl) (fun R P t p1 h1 h2 => by
            rw [endP, if_neg h1, if_neg h2, if_neg (by omega)]) (fun g _ o1 o2 => ⟨⟨⟨o1, hl26⟩, ⟨htw, by omega⟩, o2⟩, rfl, by simp only [sg]; omega, by simp [cC]⟩) (by omega) g8 hrun hgr
      · -- nothing is inside it
        rw [if_neg c4] at e0
        refine ⟨_, rfl, pre_eq g6.1, g6, Or.inr ⟨rfl, .var l, nbk tp p + 1, nbk tp (nbk tp p + 1), n, ⟨hl26, htw, by simp only [sg]; omega⟩, r6, ⟨nbk_i (by omega), by omega, by omega⟩, by omega, ?_⟩⟩
        rw [runS, e0]
        rfl
  · -- a group in brackets
    have hlt := byt_lt2 c (by decide)
    refine ⟨by omega, fun c2 => ?_, fun c2 => ?_⟩
    · have e0 : bgP tp T fs p s = .error (nbk tp p) := by
        unfold bgP
        rw [if_neg (by omega), if_pos]
        left
        rcases hlb with q | q
        · exact q
        · have := (tk_1.mp q.2.2.1).2.1
          rw [c] at this
          exact absurd this (by decide)
      refine b_Reader_readPart_21 _ _ _ _ F1 ⟨sf_12 F1, WMi.mono (c_Reader_takeOpening F1 (Or.inl rfl)) (fun v8 τ8 p8 q8 => ?_)⟩
      obtain ⟨rfl, f8, e8⟩ := q8
      have g8 := g1.tr (f8.mono (by decide))
      refine ⟨f8.fix F1 (by decide), by decide, fun _ => ⟨_, rfl, pre_eq g8.1, g8, Or.inl ⟨rfl, nbk tp p, by rw [runS, e0], ?_⟩⟩, fun q => absurd rfl q⟩
      rw [e8, e1]; omega
    · have e0 : bgP tp T fs p s = .ok (.inl ((none, none, none), nbk tp p + 1, s)) := by
        unfold bgP
        rw [if_pos ⟨c, by omega⟩]
      refine b_Reader_readPart_21 _ _ _ _ F1 ⟨sf_12 F1, WMi.mono (c_Reader_takeOpening F1 (Or.inr rfl)) (fun v8 τ8 p8 q8 => ?_)⟩
      obtain ⟨rfl, f8, e8⟩ := q8
      have g8 := g1.tr (f8.mono (by decide))
      rw [e1] at e8
      have r8 := r1.go f8 (q' := nbk tp p + 1) (by rw [e8]; omega) (by omega)
      refine ⟨r8.1.1, by decide, fun q => absurd q (by decide), fun _ => ?_⟩
      have hrun : runS tp T (n + 1) fs p s = runS tp T n ((none, none, none) :: fs) (nbk tp p + 1) s := by rw [runS, e0]
      have hcs := crs_none fs
      refine WMi.mono (hG (N - 1) (by omega) (D2 + 5) n none fs (nbk tp p + 1) (nbk tp p + 1) s K τ8 _ _ (by omega) (by omega) (by omega) (by rw [hcs]) (by rw [hcs]; exact hcr) (by omega) r8 rfl (by omega) (by omega) hs hK) (fun v4 υ4 hp4 hgr => ?_)
      refine ⟨hgr.1.fix r8.1.1 (by decide), by rcases hgr.2 with q | q; omega; omega, ?_⟩
      exact inner none 41 (nbk tp p + 1) s K τ8 υ4 v4 (fun g => g) 0 (Or.inl rfl) (fun R P t p1 h1 h2 => by
        rw [endP, if_neg h1, if_neg h2, if_neg (by omega)]) (fun g _ o1 o2 => ⟨⟨o1, o2⟩, rfl, rfl, rfl⟩) (by omega) g8 hrun hgr
theorem c_groups (hT : okTab T) : ∀ N, GroupC E tp T N := by
  intro N
  induction N using Nat.strongRecOn with
  | ind N ih => exact c_group (c_part hT ih)
end CRPart
