/-! THE READER: the whole text -/
def alX (a : Int) : List (Int × Int) := [(12, 6), (12, 8), (12, 9), (12, 10), (12, 11), (14, 1), (15, -1), (16, -1), (17, -1), (a + 1, -1), (a + 2, -1), (a + 3, -1), (a + 4, -1)]
def RAI (σ : St) (a : Int) (s : RdS) (τ : St) : Prop := Cf (18 * s.2.2.2.length) (300 * s.2.2.2.length) (alX a) σ τ ∧ RTab τ a s.1 ∧ (τ.1 12 8 = (s.2.2.2.length : Int) ∧ τ.1 12 9 = s.2.1 ∧ τ.1 12 10 = s.2.2.1) ∧ ∀ (i : Nat) (L : Ln), s.2.2.2[i]? = some L → LnC (a + 4) τ (τ.1 17 i) L
theorem tk_0 {tp : List Int} {p : Nat} : tk tp p = 0 ↔ ¬ nbk tp p < tp.length := by
  unfold tk
  by_cases h : nbk tp p < tp.length
  · rw [if_pos h]
    constructor
    · intro q
      split at q
      · split at q <;> omega
      · split at q
        · split at q <;> omega
        · omega
    · intro q; exact absurd h q
  · rw [if_neg h]; exact ⟨fun _ => h, fun _ => rfl⟩
theorem tbX_lt {a : Int} (h : 92 < a) : ltX (a + 4) (tbX a) := by
  intro p hp
  simp [tbX] at hp
  rcases hp with rfl | rfl | rfl | rfl | rfl <;> simp <;> omega
theorem tb_al {a : Int} : frL (tbX a) (alX a) = true := by simp [frL, tbX, alX]
theorem at_al {a : Int} : frL atX (alX a) = true := by simp [frL, atX, alX]
theorem lq_al {a : Int} : frL lqX (alX a) = true := by simp [frL, lqX, alX]
theorem tbX_12 {a j : Int} (h : 92 < a) (hj : j ≠ 6) : frO (tbX a) 12 j = true := by simp [frO, tbX]; omega
theorem tbX_b {a b j : Int} (h : 92 < a) (hb : b ≤ 92) (h12 : b ≠ 12) : frO (tbX a) b j = true := by simp [frO, tbX]; omega
section CRAll
variable {E : EV} {d : Nat} {σ : St} {tp : List Int} {a : Int}
theorem RAI.go {τ υ : St} {s : RdS} (h : RAI σ a s τ) (hf : Fr atX τ υ) : RAI σ a s υ := by
  obtain ⟨h1, h2, ⟨h3, h4, h5⟩, h6⟩ := h
  refine ⟨h1.tr ((hf.mono at_al).cf 0 0), h2.go hf, ⟨(hf.2 _ _ rfl).trans h3, (hf.2 _ _ rfl).trans h4, (hf.2 _ _ rfl).trans h5⟩, fun i L hL => ?_⟩
  rw [hf.2 17 i rfl]
  exact (h6 i L hL).cf (hf.cf 0 0) (imX_lt rfl (by have := h2.1; omega))
theorem c_Reader_readAll {s0 : RdS} (hS : StrE E) (hq0 : RQ σ tp 0) (h0 : RAI σ a s0 σ) (hk0 : okR s0) (hB : a + 4 ≤ σ.2.length) : WMi E m_Reader_readAll (d + 40) [aP 12] σ (fun r τ => Fix τ ∧ Cf 90 1600 (alX a) σ τ ∧ ((r = 0 ∧ ∃ f : Nat, rdAll tp (tp.length + 1) s0 0 = .error f ∧ τ.1 12 6 = (f : Int)) ∨ (r = 1 ∧ ∃ s, rdAll tp (tp.length + 1) s0 0 = .ok s ∧ okR s ∧ RAI σ a s τ))) := by
  have h92 := h0.2.1.1
  have hl400 := hq0.2.1.2.2.1
  generalize hG : rdAll tp (tp.length + 1) s0 0 = G
  have key : ∀ z : Nat × RdS × Nat × Nat × St, ((z.1 ≤ z.2.2.1 ∧ z.2.2.1 ≤ tp.length) ∧ (RQ z.2.2.2.2 tp z.2.2.2.1 ∧ nbk tp z.2.2.2.1 = nbk tp z.2.2.1) ∧ (okR z.2.1 ∧ RAI σ a z.2.1 z.2.2.2.2) ∧ rdAll tp (tp.length + 1 - z.1) z.2.1 z.2.2.1 = G) → WP E m_Reader_readAll (d + 40) 2 [(0, aP 12), (1, aI z.1)] [] z.2.2.2.2 (fun r τ => ∃ v, r = some (aI v) ∧ σ.2 <+: τ.2 ∧ Fix τ ∧ Cf 90 1600 (alX a) σ τ ∧ ((v = 0 ∧ ∃ f : Nat, G = .error f ∧ τ.1 12 6 = (f : Int)) ∨ (v = 1 ∧ ∃ s, G = .ok s ∧ okR s ∧ RAI σ a s τ))) := by
    refine lpx (fun z => tp.length + 1 - z.1) _ _ (fun z hI ih => ?_)
    obtain ⟨x, s, p, q, τ⟩ := z
    obtain ⟨⟨i1, i2⟩, ⟨i3, i4⟩, ⟨i5, i6⟩, i7⟩ := hI
    simp only at i1 i2 i3 i4 i5 i6 i7 ih ⊢
    have hF := i3.1
    have hnp := nbk_b i2
    have hte := te_b i2
    have h4 := i5.2.2.2.2.1
    have l5 := i3.2.1.1
    have hfu : tp.length + 1 - x = (tp.length - x) + 1 := by omega
    have hfu2 : tp.length + 1 - (x + 1) = tp.length - x := by omega
    rw [hfu] at i7
    have hM4 : s.2.2.2.length ≤ 4 := i5.2.2.2.2.1
    have big : ∀ {υ : St} {s' : RdS}, s'.2.2.2.length ≤ 4 → RAI σ a s' υ → Cf 90 1600 (alX a) σ υ := fun hh c => c.1.mono (by omega) (by omega) (by simp [frL, alX])
    -- what ends each piece
    have tail : ∀ (s' : RdS) (p1 q1 : Nat) (υ : St), s'.2.2.2.length ≤ 4 → RQ υ tp q1 → nbk tp q1 = nbk tp p1 → p1 ≤ tp.length → RAI σ a s' υ → (∀ p2, nMk tp 59 (.ok p1) = .ok p2 → okR s' ∧ p < p2) → G = (match nMk tp 59 (.ok p1) with | .error f => .error f | .ok p2 => rdAll tp (tp.length - x) s' p2) → WP E m_Reader_readAll (d + 40) 140 [(0, aP 12), (1, aI x), (2, aI 1)] [] υ (fun r τ => ∃ v, r = some (aI v) ∧ σ.2 <+: τ.2 ∧ Fix τ ∧ Cf 90 1600 (alX a) σ τ ∧ ((v = 0 ∧ ∃ f : Nat, G = .error f ∧ τ.1 12 6 = (f : Int)) ∨ (v = 1 ∧ ∃ s, G = .ok s ∧ okR s ∧ RAI σ a s τ))) := by
      intro s' p1 q1 υ t0 t1 t2 t3 t4 t5 t6
      have hn1 := nbk_b t3
      refine b_Reader_readAll_140 _ _ t1.1 ⟨by decide, fun c => absurd c (by decide), fun _ => WMi.mono (c_Reader_takeMark (d := d + 37) t1.1 t1.2.1 t1.2.2.1 t1.2.2.2 (by decide)) (fun v2 τ2 p2 q2 => ?_)⟩
      rw [t2] at q2
      obtain ⟨rfl, f2, e2⟩ := q2
      have A2 := t4.go f2
      refine ⟨b2i_r _, fun c => ?_, fun c => ?_⟩
      · rw [b2i_n0] at c
        rw [if_pos c] at e2
        have hlt := byt_lt c (by decide)
        have hnm : nMk tp 59 (.ok p1) = .ok (nbk tp p1 + 1) := by unfold nMk; simp only [if_pos c]
        obtain ⟨o1, o2⟩ := t5 _ hnm
        rw [hnm] at t6
        have h9 := ih (x + 1, s', nbk tp p1 + 1, nbk tp p1 + 1, τ2) (by show tp.length + 1 - (x + 1) < tp.length + 1 - x; omega) ⟨⟨by show x + 1 ≤ nbk tp p1 + 1; omega, by show nbk tp p1 + 1 ≤ _; omega⟩, ⟨t1.go (q' := nbk tp p1 + 1) f2 e2 (by omega), rfl⟩, ⟨o1, A2⟩, by show rdAll tp (tp.length + 1 - (x + 1)) s' (nbk tp p1 + 1) = G; rw [hfu2, t6]⟩
        exact h9
      · rw [b2i_0] at c
        rw [if_neg c] at e2
        have hnm : nMk tp 59 (.ok p1) = .error (nbk tp p1) := by unfold nMk; simp only [if_neg c]
        rw [hnm] at t6
        exact ⟨_, rfl, A2.1.1, f2.fix t1.1 (by decide), big t0 A2, Or.inl ⟨rfl, nbk tp p1, t6, e2⟩⟩
    -- a piece that is wrong
    have wrong : ∀ (υ : St) (f : Nat), Fix υ → Cf 90 1600 (alX a) σ υ → G = .error f → υ.1 12 6 = (f : Int) → WP E m_Reader_readAll (d + 40) 140 [(0, aP 12), (1, aI x), (2, aI 0)] [] υ (fun r τ => ∃ v, r = some (aI v) ∧ σ.2 <+: τ.2 ∧ Fix τ ∧ Cf 90 1600 (alX a) σ τ ∧ ((v = 0 ∧ ∃ f : Nat, G = .error f ∧ τ.1 12 6 = (f : Int)) ∨ (v = 1 ∧ ∃ s, G = .ok s ∧ okR s ∧ RAI σ a s τ))) := by
      intro υ f u1 u2 u3 u4
      exact b_Reader_readAll_140 _ _ u1 ⟨by decide, fun _ => ⟨_, rfl, u2.1, u1, u2, Or.inl ⟨rfl, f, u3, u4⟩⟩, fun c => absurd rfl c⟩
    refine b_Reader_readAll_2 _ hF ⟨by omega, by omega, fun c => by omega, fun _ => WMi.mono (c_Reader_next (d := d + 38) hF i3.2.1 i3.2.2.1 i3.2.2.2) (fun v3 τ3 p3 q3 => ?_)⟩
    rw [i4] at q3
    obtain ⟨rfl, f3, e3⟩ := q3
    have Q3 := i3.go (q' := nbk tp p) f3 e3 hnp.2
    have A3 := i6.go f3
    have hb := byt_b i3.2.1.2.2.2 (nbk tp p)
    have hni := nbk_i i2
    refine ⟨Q3.1, by omega, fun c => ?_, fun c => ?_⟩
    · have hlt : nbk tp p < tp.length := by
        apply Nat.lt_of_not_le
        intro hh
        exact c (by unfold byt; rw [if_neg (by omega)])
      have ht0 : ¬ tk tp p = 0 := fun q => (tk_0.mp q) hlt
      -- one word after another
      have word : ∀ (k : Nat) (r : Int) (υ : St), k < 6 → r = -((k : Int) + 1) → RQ υ tp (nbk tp p) → RAI σ a s υ → WMi E m_Reader_takeWord (d + 39) [aP 12, aP r] υ (fun v τ => v = b2i (isW tp p k = true) ∧ RQ τ tp (if isW tp p k then te tp p else nbk tp p) ∧ RAI σ a s τ) := by
        intro k r υ hk hr hQ hA
        refine WMi.mono (c_Reader_takeWord (k := k) (d := d + 35) hS hQ.1 hQ.2.1 hQ.2.2.1 hQ.2.2.2 hk hr) (fun v τ' _ hq' => ?_)
        rw [isW_nb hni, te_nb hni, hni] at hq'
        obtain ⟨r1, r2, r3⟩ := hq'
        refine ⟨r1, hQ.go r2 ?_ ?_, hA.go r2⟩
        · rw [r3]; split <;> rfl
        · split; exact hte.2.1; exact hnp.2
      refine ⟨hS.2.2.1, WMi.mono (word 0 (-1) τ3 (by decide) (by decide) Q3 A3) (fun v6 τ6 p6 q6 => ?_)⟩
      obtain ⟨rfl, Q6, A6⟩ := q6
      refine ⟨Q6.1, b2i_r _, fun c1 => ?_, fun c1 => ?_⟩
      · rw [b2i_0] at c1
        rw [if_neg c1] at Q6
        refine ⟨hS.2.2.2.1, WMi.mono (word 1 (-2) τ6 (by decide) (by decide) Q6 A6) (fun v9 τ9 p9 q9 => ?_)⟩
        obtain ⟨rfl, Q9, A9⟩ := q9
        refine ⟨Q9.1, b2i_r _, fun c2 => ?_, fun c2 => ?_⟩
        · rw [b2i_0] at c2
          rw [if_neg c2] at Q9
          refine ⟨hS.2.2.2.2.1, WMi.mono (word 2 (-3) τ9 (by decide) (by decide) Q9 A9) (fun v12 τ12 p12 q12 => ?_)⟩
          obtain ⟨rfl, Q12, A12⟩ := q12
          refine ⟨Q12.1, b2i_r _, fun c3 => ?_, fun c3 => ?_⟩
          · rw [b2i_0] at c3
            rw [if_neg c3] at Q12
            have h8 := A12.2.2.1.1
            refine ⟨by omega, fun c4 => ?_, fun c4 => ⟨hS.2.2.2.2.2.2.1, WMi.mono (word 4 (-5) τ12 (by decide) (by decide) Q12 A12) (fun v16 τ16 p16 q16 => ?_)⟩⟩
            · refine b_Reader_readAll_138 _ (b_Reader_readAll_139 _ _ (wrong τ12 (nbk tp p) Q12.1 (big hM4 A12) ?_ Q12.2.2.1))
              rw [← i7, rdAll, if_neg ht0, if_neg c1, if_neg c2, if_neg c3, if_neg (by omega)]
            · obtain ⟨rfl, Q16, A16⟩ := q16
              refine ⟨Q16.1, b2i_r _, fun c5 => ?_, fun c5 => ?_⟩
              · rw [b2i_0] at c5
                rw [if_neg c5] at Q16
                refine b_Reader_readAll_138 _ (b_Reader_readAll_139 _ _ (wrong τ16 (nbk tp p) Q16.1 (big hM4 A16) ?_ Q16.2.2.1))
                rw [← i7, rdAll, if_neg ht0, if_neg c1, if_neg c2, if_neg c3, if_neg (fun q => c5 q.1)]
              · -- a line
                rw [b2i_n0] at c5
                rw [if_pos c5] at Q16
                have hm : s.2.2.2.length < 4 := by omega
                have hsp : G = match rdLn tp s.1 (te tp p) with
                    | .error f => .error f
                    | .ok (L, p1) => rdAll tp (tp.length - x) (s.1, s.2.1, s.2.2.1, s.2.2.2 ++ [L]) p1 := by
                  rw [← i7, rdAll, if_neg ht0, if_neg c1, if_neg c2, if_neg c3, if_pos ⟨c5, hm⟩]
                  rfl
                have l16 := A16.1.1.length_le
                refine WMi.mono (c_Reader_readLine (d := d + 9) (m := s.2.2.2.length) hS Q16 A16.2.1 i5.1 rfl hte.2.1 A16.2.2.1.1 hm (by omega)) (fun v18 τ18 p18 q18 => ?_)
                obtain ⟨c18, hr18⟩ := q18
                have F18 := c18.fix Q16.1 (by decide)
                have l92 := Q16.1.len
                have ca : Cf (18 * s.2.2.2.length + 18) (300 * s.2.2.2.length + 300) (alX a) σ τ18 := A16.1.tr (c18.mono (Nat.le_refl _) (Nat.le_refl _) lq_al)
                rcases hr18 with ⟨rfl, f, k1, k2⟩ | ⟨rfl, L, p1, q1, k1, ⟨k2, k3⟩, k4, k5, k6, k7⟩
                · refine ⟨by decide, fun _ => b_Reader_readAll_138 _ (b_Reader_readAll_139 _ _ (wrong τ18 f F18 (ca.mono (by omega) (by omega) (by simp [frL, alX])) ?_ k2)), fun q => absurd rfl q⟩
                  rw [hsp, k1]
                · refine ⟨by decide, fun q => absurd q (by decide), fun _ => b_Reader_readAll_139 _ _ (tail (s.1, s.2.1, s.2.2.1, s.2.2.2 ++ [L]) p1 q1 τ18 (by simp; omega) k4 k2 k3 ⟨?_, A16.2.1.cf c18 rfl rfl l92, ⟨?_, ?_, ?_⟩, fun i L' hL' => ?_⟩ (fun p2 hp2 => ?_) ?_)⟩
                  · show Cf (18 * (s.2.2.2 ++ [L]).length) (300 * (s.2.2.2 ++ [L]).length) (alX a) σ τ18
                    simp only [List.length_append, List.length_singleton]
                    exact ca.mono (by omega) (by omega) (by simp [frL, alX])
                  · show τ18.1 12 8 = ((s.2.2.2 ++ [L]).length : Int)
                    rw [k5]; simp
                  · exact (c18.2.2 12 9 (by omega) rfl).trans A16.2.2.1.2.1
                  · exact (c18.2.2 12 10 (by omega) rfl).trans A16.2.2.1.2.2
                  · have hL2 : (s.2.2.2 ++ [L])[i]? = some L' := hL'
                    by_cases hi : i < s.2.2.2.length
                    · rw [List.getElem?_append_left hi] at hL2
                      rw [k6 i (by omega)]
                      exact (A16.2.2.2 i L' hL2).cf c18 (imX_lt rfl (by omega))
                    · have hlt2 := (List.getElem?_eq_some_iff.mp hL2).1
                      simp only [List.length_append, List.length_singleton] at hlt2
                      obtain rfl : i = s.2.2.2.length := by omega
                      have : L' = L := by simpa using hL2.symm
                      subst this
                      exact k7
                  · have hrd : rdLn tp s.1 (te tp p) = .ok (L, p2) := by rw [k1]; unfold lnE; rw [hp2]
                    have := rdLn_ok i5.1 hte.2.1 hrd
                    exact ⟨okR_line i5 this.2 hm, by omega⟩
                  · rw [hsp, k1]
                    unfold lnE
                    cases nMk tp 59 (.ok p1) <;> rfl
          · -- a sign
            rw [b2i_n0] at c3
            rw [if_pos c3] at Q12
            have hsp : G = match rdSgn tp s.1 (te tp p) with
                | .error f => .error f
                | .ok (T', p1) => rdAll tp (tp.length - x) (T', s.2) p1 := by
              rw [← i7, rdAll, if_neg ht0, if_neg c1, if_neg c2, if_pos c3]
              rfl
            refine WMi.mono (c_Reader_readTold (d := d + 33) hS Q12 A12.2.1 i5.1 i5.2.1 rfl hte.2.1) (fun v20 τ20 p20 q20 => ?_)
            obtain ⟨f20, hr20⟩ := q20
            have F20 := tbX_fix Q12.1 h92 f20
            have ca : Cf (18 * s.2.2.2.length) (300 * s.2.2.2.length) (alX a) σ τ20 := A12.1.tr ((f20.mono tb_al).cf 0 0)
            rcases hr20 with ⟨rfl, f, k1, k2⟩ | ⟨rfl, T', p1, q1, k1, ⟨k2, k3⟩, k4, k5⟩
            · exact wrong τ20 f F20 (ca.mono (by omega) (by omega) (by simp [frL, alX])) (by rw [hsp, k1]) k2
            · refine tail (T', s.2) p1 q1 τ20 hM4 k4 k2 k3 ⟨ca, k5, ⟨?_, ?_, ?_⟩, fun i L hL => ?_⟩ (fun p2 hp2 => ?_) ?_
              · exact (f20.2 _ _ (tbX_12 h92 (by decide))).trans A12.2.2.1.1
              · exact (f20.2 _ _ (tbX_12 h92 (by decide))).trans A12.2.2.1.2.1
              · exact (f20.2 _ _ (tbX_12 h92 (by decide))).trans A12.2.2.1.2.2
              · rw [f20.2 17 i (tbX_b h92 (by decide) (by decide))]
                exact (A12.2.2.2 i L hL).cf (f20.cf 0 0) (tbX_lt h92)
              · have hrd : rdSgn tp s.1 (te tp p) = .ok (T', p2) := by rw [k1]; unfold sgE; rw [hp2]
                have hk := rdSgn_ok i5.1 i5.2.1 hte.2.1 hrd
                exact ⟨⟨hk.1, hk.2.1, okMo_mono (rdSgn_mono hrd) i5.2.2⟩, by omega⟩
              · rw [hsp, k1]
                unfold sgE
                cases nMk tp 59 (.ok p1) <;> rfl
        · -- the gap
          rw [b2i_n0] at c2
          rw [if_pos c2] at Q9
          have hsp : G = match nMk tp 59 (nN tp 0 3 (.ok (te tp p))).2 with
              | .error f => .error f
              | .ok p1 => rdAll tp (tp.length - x) (s.1, s.2.1, (nN tp 0 3 (.ok (te tp p))).1, s.2.2.2) p1 := by
            rw [← i7, rdAll, if_neg ht0, if_neg c1, if_pos c2]
            rfl
          refine WMi.mono (c_Reader_readNumber (d := d + 37) Q9.1 Q9.2.1 Q9.2.2.1 Q9.2.2.2 (by omega) (by omega)) (fun v21 τ21 p21 q21 => ?_)
          obtain ⟨f21, hr21⟩ := q21
          have F21 := f21.fix Q9.1 (by decide)
          have A21 := A9.go f21
          rcases hr21 with ⟨k1, rfl, k3⟩ | ⟨w, k1, rfl, k3⟩
          · refine ⟨F21, by decide, fun _ => b_Reader_readAll_89 _ _ (wrong _ (nbk tp (te tp p)) (Fr.fix (Fr.wr (X := [(12, 10)]) (frO_k (by decide))) F21 (by decide)) (((big hM4 A21)).wr_ (frO_k (by simp [alX]))) ?_ ((wr_nk _ (by decide)).trans k3)), fun q => absurd rfl q⟩
            rw [hsp, nN_none k1]
            rfl
          · have hw := rdN_b hte.2.1 k1
            have Q21 := Q9.go f21 k3 hw.2.2
            have fw : Fr [(12, 10)] τ21 (wr τ21 12 10 w.1) := Fr.wr (frO_k (by decide))
            refine ⟨F21, by omega, fun q => by omega, fun _ => b_Reader_readAll_89 _ _ (tail (s.1, s.2.1, w.1, s.2.2.2) w.2 w.2 _ hM4 ⟨fw.fix F21 (by decide), Q21.2.1.keep fw rfl (fun _ => rfl), (fw.2 _ _ rfl).trans k3, hw.2.2⟩ rfl hw.2.2 ⟨A21.1.wr_ (frO_k (by simp [alX])), A21.2.1.cf (fw.cf 0 0) rfl rfl F21.len, ⟨(fw.2 _ _ rfl).trans A21.2.2.1.1, (fw.2 _ _ rfl).trans A21.2.2.1.2.1, wr_same _ _ _ _⟩, fun i L hL => ?_⟩ (fun p2 hp2 => ⟨okR_gap i5 hw.1, by have := nMk_pos (by decide) hw.2.2 hp2; omega⟩) ?_)⟩
            · rw [fw.2 17 i rfl]
              exact (A21.2.2.2 i L hL).cf (fw.cf 0 0) (imX_lt rfl (by omega))
            · rw [hsp, nN_some k1]
      · -- the side
        rw [b2i_n0] at c1
        rw [if_pos c1] at Q6
        have hsp : G = match nMk tp 59 (nN tp 1 24 (.ok (te tp p))).2 with
            | .error f => .error f
            | .ok p1 => rdAll tp (tp.length - x) (s.1, (nN tp 1 24 (.ok (te tp p))).1, s.2.2.1, s.2.2.2) p1 := by
          rw [← i7, rdAll, if_neg ht0, if_pos c1]
          rfl
        refine WMi.mono (c_Reader_readNumber (d := d + 37) Q6.1 Q6.2.1 Q6.2.2.1 Q6.2.2.2 (by omega) (by omega)) (fun v21 τ21 p21 q21 => ?_)
        obtain ⟨f21, hr21⟩ := q21
        have F21 := f21.fix Q6.1 (by decide)
        have A21 := A6.go f21
        rcases hr21 with ⟨k1, rfl, k3⟩ | ⟨w, k1, rfl, k3⟩
        · refine ⟨F21, by decide, fun _ => b_Reader_readAll_53 _ _ (wrong _ (nbk tp (te tp p)) (Fr.fix (Fr.wr (X := [(12, 9)]) (frO_k (by decide))) F21 (by decide)) (((big hM4 A21)).wr_ (frO_k (by simp [alX]))) ?_ ((wr_nk _ (by decide)).trans k3)), fun q => absurd rfl q⟩
          rw [hsp, nN_none k1]
          rfl
        · have hw := rdN_b hte.2.1 k1
          have Q21 := Q6.go f21 k3 hw.2.2
          have fw : Fr [(12, 9)] τ21 (wr τ21 12 9 w.1) := Fr.wr (frO_k (by decide))
          refine ⟨F21, by omega, fun q => by omega, fun _ => b_Reader_readAll_53 _ _ (tail (s.1, w.1, s.2.2.1, s.2.2.2) w.2 w.2 _ hM4 ⟨fw.fix F21 (by decide), Q21.2.1.keep fw rfl (fun _ => rfl), (fw.2 _ _ rfl).trans k3, hw.2.2⟩ rfl hw.2.2 ⟨A21.1.wr_ (frO_k (by simp [alX])), A21.2.1.cf (fw.cf 0 0) rfl rfl F21.len, ⟨(fw.2 _ _ rfl).trans A21.2.2.1.1, wr_same _ _ _ _, (fw.2 _ _ rfl).trans A21.2.2.1.2.2⟩, fun i L hL => ?_⟩ (fun p2 hp2 => ⟨okR_side i5 hw.1, by have := nMk_pos (by decide) hw.2.2 hp2; omega⟩) ?_)⟩
          · rw [fw.2 17 i rfl]
            exact (A21.2.2.2 i L hL).cf (fw.cf 0 0) (imX_lt rfl (by omega))
          · rw [hsp, nN_some k1]
    · -- the end
      have ht0 : tk tp p = 0 := tk_0.mpr (fun hlt => by have := hb.2.2 hlt; omega)
      refine ⟨_, rfl, A3.1.1, Q3.1, big hM4 A3, Or.inr ⟨rfl, s, ?_, i5, A3⟩⟩
      rw [← i7, rdAll, if_pos ht0]
  have h9 := key (0, s0, 0, 0, σ) ⟨⟨Nat.le_refl _, Nat.zero_le _⟩, ⟨hq0, rfl⟩, ⟨hk0, h0⟩, hG⟩
  exact e_Reader_readAll h9
end CRAll
