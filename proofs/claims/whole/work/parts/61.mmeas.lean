/-- what measures() leaves, from place k on -/
def Meas (τ : St) (T : Tb) (g : Int) (t : Tr) (k : Int) : Prop := ∀ (j : Nat) (u : Tr), k ≤ j → (sb 0 t)[j]? = some u → τ.1 52 j = wid T g u ∧ τ.1 53 j = hei T g u ∧ τ.1 54 j = j + (rc 0 u).length
def mX : List (Int × Int) := [(52, -1), (53, -1), (54, -1)]
theorem mxL_b (f : Tr → Int) (L : List Tr) (h : ∀ w ∈ L, 0 ≤ f w ∧ f w ≤ 147) : 0 ≤ mxL f L ∧ mxL f L ≤ 147 := by
  induction L with
  | nil => simp [mxL]
  | cons w L ih =>
    have h5 := ih (fun z hz => h z (List.mem_cons_of_mem _ hz))
    have h6 := h w List.mem_cons_self
    simp only [mxL] at h5 ⊢
    omega
section MMeas
variable {E : EV} {d : Nat} {σ : St} {T : Tb} {M : Mo} {P : List Mo} {tp : List Int}
theorem c_M_measures {t : Tr} {g : Int} (hF : Fix σ) (hR : RowIs σ (rc 0 t)) (hT : TabR σ T) (hg : σ.1 47 1 = g) (hkT : okTab T) (hgg : 0 ≤ g ∧ g ≤ 3) (ht : ok t) (h10 : sg t ≤ 10) (htk : tok T t) : WMv E m_M_measures (d + 1) [aP 42] σ (fun τ => Fr mX σ τ ∧ Meas τ T g t 0) := by
  have hl2 := (rc_len2 ht 0).1
  refine e_M_measures hF ?_
  rw [hR.1]
  refine lpd 0 (fun k τ => WP E m_M_measures (d + 1) 7 [(0, aP 42), (1, aI k)] [] τ _) (fun k τ => -1 ≤ k ∧ k < (rc 0 t).length ∧ Fr mX σ τ ∧ Meas τ T g t (k + 1)) (fun k τ hI ih => ?_) _ _ ⟨by omega, by omega, Fr.refl _ _, fun j u hj hu => ?_⟩
  · obtain ⟨i1, i2, i3, i4⟩ := hI
    have hTf := i3.fix hF (by decide)
    refine b_M_measures_7 _ hTf ⟨by omega, fun c => ⟨rfl, pre_eq i3.1, i3, by rw [show k + 1 = 0 by omega] at i4; exact i4⟩, fun c => ?_⟩
    have hj : k.toNat < (sb 0 t).length := by rw [sb_len]; omega
    have hkn : ((k.toNat : Nat) : Int) = k := by omega
    have hue := List.getElem?_eq_getElem hj
    generalize hu0 : (sb 0 t)[k.toNat] = u at hue
    obtain ⟨u1, u2, u3, u4⟩ := sbT_at ht 0 (σ.1 50) 0 hR.2 _ u hue
    obtain ⟨A, B, s1, s2, s3⟩ := sb_block ht 0 _ u hue
    have utk := s3 T htk
    rw [show (0 : Int) + ((k.toNat : Nat) : Int) = k by omega] at u1
    have hx : σ.1 50 k = nd u := by have h9 := u1; rw [rc0_nd u2] at h9; exact h9.hd
    have hxt : τ.1 50 k = nd u := (i3.2 _ _ rfl).trans hx
    have hnd := nd_pts u2 (by omega)
    have hnj := nd_j u2 (by omega)
    have hsz := size_b hkT hgg u2 utk
    -- once the three numbers of this place are laid
    have done : ∀ υ : St, Fr mX σ υ → (∀ a j, j ≠ k → frO [(52, -1), (53, -1), (54, -1)] a j = false → υ.1 a j = τ.1 a j) → υ.1 52 k = wid T g u → υ.1 53 k = hei T g u → υ.1 54 k = k + (rc 0 u).length → WP E m_M_measures (d + 1) 271 [(0, aP 42), (1, aI k)] [] υ (fun r σ' => r = none ∧ σ.2 <+: σ'.2 ∧ Fr mX σ σ' ∧ Meas σ' T g t 0) := by
      intro υ f1 f2 f3 f4 f5
      refine b_M_measures_271 _ (ih (by omega) υ ⟨by omega, by omega, f1, fun j w hj2 hw => ?_⟩)
      by_cases hjk : (j : Int) = k
      · have : j = k.toNat := by omega
        subst this
        rw [hue] at hw
        cases hw
        rw [hkn]
        exact ⟨f3, f4, f5⟩
      · rw [f2 _ _ hjk rfl, f2 _ _ hjk rfl, f2 _ _ hjk rfl]
        exact i4 j w (by omega) hw
    refine ⟨by omega, wmi_p (c_M_isSign (by rw [hxt]; omega)) ⟨hTf, b2i_r _, fun c2 => ?_, fun c2 => ?_⟩⟩
    · -- parts beside or above
      rw [b2i_0, hxt] at c2
      have hju : isJ u = true := hnj.1.mp (by omega)
      have blk : sb 0 t = (A ++ [u]) ++ (sbF (ch u) ++ B) := by rw [s1, sb0_ch u2]; simp
      have hchk := ch_ok u2
      have inner : ∀ (b : Int), (b = 0 ∨ b = 1) → (b = 1 ↔ isM u = true) → WP E m_M_measures (d + 1) 114 [(0, aP 42), (1, aI k)] [aI b] τ (fun r σ' => r = none ∧ σ.2 <+: σ'.2 ∧ Fr mX σ σ' ∧ Meas σ' T g t 0) := by
        intro b hb hbM
        refine b_M_measures_114 _ _ ?_
        have hchb : ∀ q ∈ ch u, (1 ≤ wid T g q ∧ wid T g q ≤ 147) ∧ 1 ≤ hei T g q ∧ hei T g q ≤ 147 := by
          intro q hq
          have h5 := hchk q hq
          have h6 : tok T q := by
            cases u with
            | mul x y =>
              have : ∀ z : Tr, tok T z → ∀ w ∈ pM z, tok T w := by
                intro z
                induction z with
                | mul z1 z2 ih1 ih2 => intro hz w hw; simp only [pM, List.mem_cons] at hw; rcases hw with rfl | hw; exact hz.1; exact ih2 hz.2 w hw
                | _ => intro hz w hw; simp [pM] at hw; subst hw; exact hz
              exact this _ utk q hq
            | add x y =>
              have : ∀ z : Tr, tok T z → ∀ w ∈ pA z, tok T w := by
                intro z
                induction z with
                | add z1 z2 ih1 ih2 => intro hz w hw; simp only [pA, List.mem_cons] at hw; rcases hw with rfl | hw; exact hz.1; exact ih2 hz.2 w hw
                | _ => intro hz w hw; simp [pA] at hw; subst hw; exact hz
              exact this _ utk q hq
            | _ => simp [isJ, isM, isA] at hju
          have h7 := size_b hkT hgg h5.1 h6
          omega
        have hchl : ((ch u).length : Int) ≤ 20 := by
          have := fr_len (fun q hq => (hchk q hq).1)
          have h9 := congrArg List.length (rc0_nd u2)
          simp only [List.length_cons] at h9
          omega
        have key : ∀ z : List Tr × List Tr × Nat, (z.1 ++ z.2.1 = ch u ∧ (∃ A2 B2, sb 0 t = A2 ++ (sbF z.2.1 ++ B2) ∧ A2.length = z.2.2) ∧ k < z.2.2 ∧ (z.2.2 : Int) + (fr z.2.1).length = k + (rc 0 u).length) → WP E m_M_measures (d + 1) 128 [(0, aP 42), (1, aI k), (2, aI b), (3, aI (alL (fun q => if b = 1 then wid T g q else hei T g q) g z.1)), (4, aI (mxL (fun q => if b = 1 then hei T g q else wid T g q) z.1)), (5, aI z.2.2), (6, aI z.1.length)] [] τ (fun r σ' => r = none ∧ σ.2 <+: σ'.2 ∧ Fr mX σ σ' ∧ Meas σ' T g t 0) := by
          refine lpx (fun z => z.2.1.length) _ _ (fun z hI ih2 => ?_)
          obtain ⟨ds, qs, at1⟩ := z
          obtain ⟨k1, ⟨A2, B2, k2, k3⟩, k4, k5⟩ := hI
          simp only at k1 k2 k3 k4 k5 ih2 ⊢
          have hlen : (ch u).length = ds.length + qs.length := by rw [← k1]; simp
          refine b_M_measures_128 _ _ _ _ _ _ hTf ⟨by omega, wmi_p (c_M_partsOf (by rw [hxt]; omega)) ⟨hTf, by omega, by rw [hxt, hnd.1]; omega, fun c3 => ?_, fun c3 => ?_⟩⟩
          · -- all parts are through
            rw [hxt, hnd.1] at c3
            have hq0 : qs = [] := List.eq_nil_of_length_eq_zero (by omega)
            subst hq0
            rw [List.append_nil] at k1
            subst k1
            rw [fr_nil] at k5
            simp only [List.length_nil] at k5
            have eW : (if b = 0 then mxL (fun q => if b = 1 then hei T g q else wid T g q) (ch u) else alL (fun q => if b = 1 then wid T g q else hei T g q) g (ch u)) = wid T g u ∧ (if b = 0 then alL (fun q => if b = 1 then wid T g q else hei T g q) g (ch u) else mxL (fun q => if b = 1 then hei T g q else wid T g q) (ch u)) = hei T g u := by
              cases u with
              | mul x y =>
                have hb1 : b = 1 := hbM.mpr rfl
                subst hb1
                simp only [ch] at hchb ⊢
                exact ⟨wid_pM _, hei_pM _ (fun q hq => by have := hchb q hq; omega)⟩
              | add x y =>
                have hb0 : b = 0 := by rcases hb with h0 | h1; exact h0; have := hbM.mp h1; simp [isM] at this
                subst hb0
                simp only [ch] at hchb ⊢
                exact ⟨wid_pA _ (fun q hq => by have := hchb q hq; omega), hei_pA _⟩
              | _ => simp [isJ, isM, isA] at hju
            have lay : ∀ s2 x3 x4 : Int, s2 = wid T g u → (if b = 0 then x3 else x4) = hei T g u → WP E m_M_measures (d + 1) 246 [(0, aP 42), (1, aI k), (2, aI b), (3, aI x3), (4, aI x4), (5, aI at1)] [aI s2, aI k, aP 52] τ (fun r σ' => r = none ∧ σ.2 <+: σ'.2 ∧ Fr mX σ σ' ∧ Meas σ' T g t 0) := by
              intro s2 x3 x4 hs2 hx34
              have fw1 : Fr mX σ (wr τ 52 k s2) := i3.tr (Fr.wr (frO_a (by decide) _))
              have F1 := fw1.fix hF (by decide)
              have v1 : (wr τ 52 k s2).1 42 14 = 53 := ff_38 F1
              have lay2 : ∀ y, y = hei T g u → WP E m_M_measures (d + 1) 262 [(0, aP 42), (1, aI k), (5, aI at1)] [aI y, aI k, aP ((wr τ 52 k s2).1 42 14)] (wr τ 52 k s2) (fun r σ' => r = none ∧ σ.2 <+: σ'.2 ∧ Fr mX σ σ' ∧ Meas σ' T g t 0) := by
                intro y hy
                rw [v1]
                have fw2 : Fr mX σ (wr (wr τ 52 k s2) 53 k y) := fw1.tr (Fr.wr (frO_a (by decide) _))
                have F2 := fw2.fix hF (by decide)
                have v2 : (wr (wr τ 52 k s2) 53 k y).1 42 15 = 54 := ff_39 F2
                refine b_M_measures_262 _ _ _ _ _ ⟨⟨24, sf_53 F1, by omega, by omega, by omega⟩, sf_42 F2, ?_, ?_⟩
                · rw [v2]; exact ⟨24, sf_54 F2, by omega, by omega, by omega⟩
                · rw [v2]
                  refine done _ (fw2.tr (Fr.wr (frO_a (by decide) _))) (fun a j hjk _ => ?_) ?_ ?_ ?_
                  · rw [wr_nk _ hjk, wr_nk _ hjk, wr_nk _ hjk]
                  · rw [wr_na _ (by decide), wr_na _ (by decide), wr_same, hs2]
                  · rw [wr_na _ (by decide), wr_same, hy]
                  · rw [wr_same]; omega
              refine b_M_measures_246 _ _ _ _ _ _ _ _ ⟨⟨24, sf_52 hTf, by omega, by omega, by omega⟩, sf_42 F1, by omega, fun c4 => lay2 _ (by rw [if_pos c4] at hx34; exact hx34), fun c4 => lay2 _ (by rw [if_neg c4] at hx34; exact hx34)⟩
            refine ⟨by omega, fun c4 => lay _ _ _ ?_ eW.2, fun c4 => lay _ _ _ ?_ eW.2⟩
            · have := eW.1; rw [if_pos c4] at this; exact this
            · have := eW.1; rw [if_neg c4] at this; exact this
          · -- one part more
            rw [hxt, hnd.1] at c3
            cases qs with
            | nil => simp at hlen; omega
            | cons q qs =>
              have hqm : q ∈ ch u := by rw [← k1]; simp
              have hqk := hchk q hqm
              have hqb := hchb q hqm
              have hat : (sb 0 t)[at1]? = some q := by
                rw [k2, ← k3, sbF_cons, sb0_ch hqk.1]
                simp
              have hm := i4 at1 q (by omega) hat
              have hat24 : at1 < 24 := by
                have := (List.getElem?_eq_some_iff.mp hat).1
                rw [sb_len] at this
                omega
              have hql := (rc_len2 hqk.1 0)
              have hqp := sg_pos hqk.1
              rw [fr_cons, List.length_append] at k5
              simp only [List.length_cons] at hlen c3
              have gnow : τ.1 47 1 = g := (i3.2 _ _ rfl).trans hg
              -- the end of the part
              have nxt : WP E m_M_measures (d + 1) 216 [(0, aP 42), (1, aI k), (2, aI b), (3, aI (alL (fun q => if b = 1 then wid T g q else hei T g q) g (ds ++ [q]))), (4, aI (mxL (fun q => if b = 1 then hei T g q else wid T g q) (ds ++ [q]))), (5, aI at1), (6, aI ds.length)] [] τ (fun r σ' => r = none ∧ σ.2 <+: σ'.2 ∧ Fr mX σ σ' ∧ Meas σ' T g t 0) := by
                refine b_M_measures_216 _ _ _ _ _ _ hTf ⟨by omega, ?_⟩
                rw [hm.2.2]
                have := ih2 (ds ++ [q], qs, at1 + (rc 0 q).length) (by show qs.length < (q :: qs).length; simp) ⟨by simpa using k1, ⟨A2 ++ sb 0 q, B2, by rw [k2, sbF_cons]; simp, by rw [List.length_append, k3, sb_len]⟩, by show k < ((at1 + (rc 0 q).length : Nat) : Int); omega, by show ((at1 + (rc 0 q).length : Nat) : Int) + (fr qs).length = _; omega⟩
                simp only [List.length_append, List.length_cons, List.length_nil] at this
                rw [show ((ds.length + (0 + 1) : Nat) : Int) = (ds.length : Int) + 1 by omega, show ((at1 + (rc 0 q).length : Nat) : Int) = (at1 : Int) + ((rc 0 q).length : Int) by omega] at this
                exact this
              have hds : ∀ w ∈ ds ++ [q], 0 ≤ (fun q => if b = 1 then hei T g q else wid T g q) w := by
                intro w hw
                have hwm : w ∈ ch u := by rw [← k1]; rcases List.mem_append.mp hw with h5 | h5; exact List.mem_append_left _ h5; rw [List.mem_singleton] at h5; subst h5; simp
                have := hchb w hwm
                dsimp only
                split <;> omega
              have esn := mxL_snoc (fun q => if b = 1 then hei T g q else wid T g q) ds q hds
              have eal := alL_snoc (fun q => if b = 1 then wid T g q else hei T g q) g ds q
              have hmx : 0 ≤ mxL (fun q => if b = 1 then hei T g q else wid T g q) ds ∧ mxL (fun q => if b = 1 then hei T g q else wid T g q) ds ≤ 147 := by
                refine mxL_b _ ds (fun w hw => ?_)
                have h6 := hchb w (by rw [← k1]; exact List.mem_append_left _ hw)
                split <;> omega
              have acr : ∀ s0 : Int, s0 = (if b = 1 then hei T g q else wid T g q) → WP E m_M_measures (d + 1) 203 [(0, aP 42), (1, aI k), (2, aI b), (3, aI (alL (fun q => if b = 1 then wid T g q else hei T g q) g (ds ++ [q]))), (4, aI (mxL (fun q => if b = 1 then hei T g q else wid T g q) ds)), (5, aI at1), (6, aI ds.length)] [aI s0] τ (fun r σ' => r = none ∧ σ.2 <+: σ'.2 ∧ Fr mX σ σ' ∧ Meas σ' T g t 0) := by
                intro s0 hs0
                have hs0b : 1 ≤ s0 ∧ s0 ≤ 147 := by rw [hs0]; split <;> omega
                refine b_M_measures_203 _ _ _ _ _ _ _ ⟨by omega, by omega, fun c4 => ?_, fun c4 => ?_⟩
                · rw [show mxL (fun q => if b = 1 then hei T g q else wid T g q) ds = mxL (fun q => if b = 1 then hei T g q else wid T g q) (ds ++ [q]) by rw [esn]; rw [← hs0]; omega]
                  exact nxt
                · rw [show s0 = mxL (fun q => if b = 1 then hei T g q else wid T g q) (ds ++ [q]) by rw [esn]; rw [← hs0]; omega]
                  exact nxt
              have gp : ∀ s1 s2 : Int, s1 = (if b = 1 then wid T g q else hei T g q) → s2 = (if 0 < ds.length then g else 0) → WP E m_M_measures (d + 1) 179 [(0, aP 42), (1, aI k), (2, aI b), (4, aI (mxL (fun q => if b = 1 then hei T g q else wid T g q) ds)), (5, aI at1), (6, aI ds.length)] [aI s2, aI s1, aI (alL (fun q => if b = 1 then wid T g q else hei T g q) g ds)] τ (fun r σ' => r = none ∧ σ.2 <+: σ'.2 ∧ Fr mX σ σ' ∧ Meas σ' T g t 0) := by
                intro s1 s2 hs1 hs2
                have e5 : alL (fun q => if b = 1 then wid T g q else hei T g q) g ds + (s1 + s2) = alL (fun q => if b = 1 then wid T g q else hei T g q) g (ds ++ [q]) := by rw [eal, hs1, hs2]
                refine b_M_measures_179 _ _ _ _ _ _ _ _ hTf ⟨by omega, fun c4 => ⟨by omega, ?_⟩, fun c4 => ⟨by omega, ?_⟩⟩
                · rw [e5]
                  exact acr _ (by rw [hm.1, if_neg (by omega)])
                · rw [e5]
                  exact acr _ (by rw [hm.2.1, if_pos (by omega)])
              have fst : ∀ s1 : Int, s1 = (if b = 1 then wid T g q else hei T g q) → WP E m_M_measures (d + 1) 164 [(0, aP 42), (1, aI k), (2, aI b), (4, aI (mxL (fun q => if b = 1 then hei T g q else wid T g q) ds)), (5, aI at1), (6, aI ds.length)] [aI s1, aI (alL (fun q => if b = 1 then wid T g q else hei T g q) g ds)] τ (fun r σ' => r = none ∧ σ.2 <+: σ'.2 ∧ Fr mX σ σ' ∧ Meas σ' T g t 0) := by
                intro s1 hs1
                refine b_M_measures_164 _ _ _ _ _ _ _ hTf ⟨by omega, fun c4 => gp _ _ hs1 (by rw [if_neg (by omega)]), fun c4 => ?_⟩
                rw [gnow]
                exact gp _ _ hs1 (by rw [if_pos (by omega)])
              refine ⟨by omega, fun c4 => ⟨by omega, fst _ (by rw [hm.2.1, if_neg (by omega)])⟩, fun c4 => ⟨by omega, fst _ (by rw [hm.1, if_pos (by omega)])⟩⟩
        have h0 := key ([], ch u, k.toNat + 1) ⟨rfl, ⟨A ++ [u], B, blk, by simp [s2]⟩, by show k < ((k.toNat + 1 : Nat) : Int); omega, by
          have h9 := congrArg List.length (rc0_nd u2)
          simp only [List.length_cons] at h9
          show ((k.toNat + 1 : Nat) : Int) + ((fr (ch u)).length : Int) = _
          omega⟩
        simp only [alL, mxL, List.map_nil, List.sum_nil, List.length_nil] at h0
        rw [show ((k.toNat + 1 : Nat) : Int) = k + 1 by omega] at h0
        simpa using h0
      refine ⟨by omega, by rw [hxt]; omega, fun c3 => inner 0 (Or.inl rfl) ?_, fun c3 => inner 1 (Or.inr rfl) ?_⟩
      · rw [hxt] at c3
        have := hnj.2.mp c3
        cases u <;> simp_all [isA, isM]
      · rw [hxt] at c3
        have h5 : isA u ≠ true := fun q => c3 (hnj.2.mpr q)
        simp [isJ] at hju
        simp_all
    · -- a sign
      rw [b2i_n0, hxt] at c2
      have hus : isS u = true := by
        cases hh : isJ u with
        | false => exact (isS_tn u2 hh).1
        | true => exact absurd (hnj.1.mpr hh) (by omega)
      have hsn := rc_sign hus
      rw [rc0_nd u2] at hsn
      have hndl : nd u = (lett u : Int) + 1 + (if holdsT u then 100 else 0) := (List.cons.inj hsn).1
      have hlt := lett_lt u2 hus
      have hlet : nd u % 100 - 1 = lett u := by rw [hndl]; split <;> omega
      have hsw : wid T g u = (T (lett u)).1 ∧ hei T g u = (T (lett u)).2.1 := by cases u <;> simp_all [isS, wid, hei, lett]
      have hh2 : 100 ≤ nd u ↔ holdsT u = true := by rw [hndl]; cases holdsT u <;> simp <;> omega
      have tab : ∀ υ : St, Fr mX σ υ → υ.1 43 (lett u) = (T (lett u)).1 ∧ υ.1 44 (lett u) = (T (lett u)).2.1 := fun υ f => ⟨(f.2 _ _ rfl).trans (hT _ hlt).1, (f.2 _ _ rfl).trans (hT _ hlt).2.1⟩
      refine ⟨by omega, wmi_p (c_M_letterOf (by rw [hxt]; omega)) ?_⟩
      rw [hxt, hlet]
      have fw1 : Fr mX σ (wr τ 52 k (τ.1 43 (lett u))) := i3.tr (Fr.wr (frO_a (by decide) _))
      have F1 := fw1.fix hF (by decide)
      have x1 : (wr τ 52 k (τ.1 43 (lett u))).1 50 k = nd u := (fw1.2 _ _ rfl).trans hx
      refine ⟨hTf, by omega, by omega, by omega, wmi_p (c_M_letterOf (by omega)) ?_⟩
      rw [x1, hlet]
      have fw2 : Fr mX σ (wr (wr τ 52 k (τ.1 43 (lett u))) 53 k ((wr τ 52 k (τ.1 43 (lett u))).1 44 (lett u))) := fw1.tr (Fr.wr (frO_a (by decide) _))
      have F2 := fw2.fix hF (by decide)
      have fin : ∀ e, e = k + (rc 0 u).length → WP E m_M_measures (d + 1) 93 [(0, aP 42), (1, aI k)] [aI e, aI k, aP 54] (wr (wr τ 52 k (τ.1 43 (lett u))) 53 k ((wr τ 52 k (τ.1 43 (lett u))).1 44 (lett u))) (fun r σ' => r = none ∧ σ.2 <+: σ'.2 ∧ Fr mX σ σ' ∧ Meas σ' T g t 0) := by
        intro e he
        refine b_M_measures_93 _ _ _ _ ⟨⟨24, sf_54 F2, by omega, by omega, by omega⟩, done _ (fw2.tr (Fr.wr (frO_a (by decide) _))) (fun a j hjk _ => ?_) ?_ ?_ ?_⟩
        · rw [wr_nk _ hjk, wr_nk _ hjk, wr_nk _ hjk]
        · rw [wr_na _ (by decide), wr_na _ (by decide), wr_same, (tab τ i3).1, hsw.1]
        · rw [wr_na _ (by decide), wr_same, (tab _ fw1).2, hsw.2]
        · rw [wr_same, he]
      refine ⟨F1, by omega, by omega, by omega, by omega, fun c3 => ?_, fun c3 => fin _ ?_⟩
      · have hho := hh2.mp (by omega)
        cases u with
        | pow w l =>
          have hne : (sb 0 t)[k.toNat + 1]? = some w := by
            rw [s1, sb0_ch u2]
            simp only [ch, sbF_cons]
            rw [List.getElem?_append_right (by omega), show k.toNat + 1 - A.length = 1 by omega]
            have hw : ok w := u2.1
            rw [sb0_ch hw]
            simp
          have hm := (i4 (k.toNat + 1) w (by omega) hne).2.2
          have hw2 := (rc_len2 u2.1 0).2
          have hw3 := sg_pos u2.1
          have hl5 : (rc 0 (.pow w l)).length = (rc 0 w).length + 1 := rfl
          refine ⟨by omega, fin _ ?_⟩
          rw [wr_na _ (by decide)]
          rw [show ((k.toNat + 1 : Nat) : Int) = k + 1 by omega] at hm
          rw [hm]
          omega
        | _ => simp [holdsT] at hho
      · have hho : holdsT u = false := by cases hh : holdsT u with | false => rfl | true => exact absurd (hh2.mpr hh) (by omega)
        cases u with
        | var l => rfl
        | _ => simp_all [isS, holdsT]
  · have := (List.getElem?_eq_some_iff.mp hu).1
    rw [sb_len] at this
    omega
end MMeas
