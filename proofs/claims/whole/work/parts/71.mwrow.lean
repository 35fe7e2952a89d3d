/-- at the loop's head: the top frame waits for its next part -/
def HdS (σ : St) (f : Fm) : List Fm → Prop
  | [] => f.1 = 0 ∧ f.2.1 = 0 ∧ (f.2.2.1 = [] ∨ (f.2.2.2 = false ∧ ∃ u, f.2.2.1 = [u]))
  | g :: R => SlT σ R.length f f.2.2.1.length ∧ σ.1 68 R.length = b2i (f.2.2.2 = true) ∧ okB f ∧ f.2.2.1 ≠ [] ∧ LowS σ (g :: R)
section MWRow
variable {E : EV} {d : Nat} {σ : St} {T : Tb} {M : Mo} {P : List Mo} {tp : List Int}
theorem c_M_writesRow {t : Tr} {X0 : List Int} (hF : Fix σ) (hR : RowIs σ (rc 0 t)) (h : TxIs σ X0) (ht : ok t) (h10 : sg t ≤ 10) (hn : X0.length + (tx 0 t).length < 2600) : WMv E m_M_writesRow (d + 1) [aP 42] σ (fun τ => Fr wrX σ τ ∧ TxIs τ (X0 ++ tx 0 t)) := by
  have hl2 := (rc_len2 ht 0).1
  generalize hW : X0 ++ tx 0 t = W
  have hWl : W.length < 2600 := by rw [← hW, List.length_append]; omega
  refine e_M_writesRow ?_
  have key : ∀ z : Nat × St × Fm × List Fm × List Int, (Fr wrX σ z.2.1 ∧ TxIs z.2.1 z.2.2.2.2 ∧ z.2.2.2.2 ++ (hdT z.2.2.1.1 z.2.2.1.2.2.2 z.2.2.1.2.2.1 ++ (cl z.2.2.1.2.1 ++ lowT z.2.2.2.1)) = W ∧ (∃ pre, rc 0 t = pre ++ fr (rowF (z.2.2.1 :: z.2.2.2.1)) ∧ pre.length = z.1) ∧ (∀ u ∈ rowF (z.2.2.1 :: z.2.2.2.1), ok u ∧ sg u ≤ 10) ∧ z.2.2.2.1.length ≤ z.1 ∧ HdS z.2.1 z.2.2.1 z.2.2.2.1) →
      WP E m_M_writesRow (d + 1) 4 [(0, aP 42), (1, aI ((z.2.2.2.1.length : Int) - 1)), (2, aI z.1)] [] z.2.1 (fun r τ => r = none ∧ σ.2 <+: τ.2 ∧ Fr wrX σ τ ∧ TxIs τ W) := by
    refine lpx (fun z => (fr (rowF (z.2.2.1 :: z.2.2.2.1))).length) _ _ (fun z hI ih => ?_)
    obtain ⟨k, τ, f0, R0, X⟩ := z
    obtain ⟨i1, i2, i3, ⟨pre, i4, i4'⟩, i5, i6, i7⟩ := hI
    simp only at i1 i2 i3 i4 i4' i5 i6 i7 ih ⊢
    have hT := i1.fix hF (by decide)
    have hsz : τ.1 42 10 = (rc 0 t).length := (i1.2 _ _ rfl).trans hR.1
    have hrl := congrArg List.length i4
    rw [List.length_append] at hrl
    -- what comes after a part is done
    have down : ∀ (R : List Fm) (f : Fm) (υ : St) (Y : List Int), Fr wrX σ υ → TxIs υ Y → Y ++ lowT (f :: R) = W → (∃ pre, rc 0 t = pre ++ fr (rowF (f :: R)) ∧ pre.length = k + 1) → (∀ u ∈ rowF (f :: R), ok u ∧ sg u ≤ 10) → R.length ≤ k → k < (rc 0 t).length → LowS υ (f :: R) → (fr (rowF (f :: R))).length < (fr (rowF (f0 :: R0))).length →
        WP E m_M_writesRow (d + 1) 244 [(0, aP 42), (1, aI ((R.length : Int) - 1)), (2, aI k), (3, aI 1)] [] υ (fun r τ => r = none ∧ σ.2 <+: τ.2 ∧ Fr wrX σ τ ∧ TxIs τ W) := by
      intro R
      induction R with
      | nil =>
        intro f υ Y d1 d2 d3 d4 d5 d6 d7 d8 d9
        have hU := d1.fix hF (by decide)
        obtain ⟨b, c, us, one⟩ := f
        obtain ⟨rfl, rfl, rfl⟩ : b = 0 ∧ c = 0 ∧ us = [] := d8
        refine b_M_writesRow_244 _ _ _ hU ⟨by decide, fun q => absurd q (by decide), fun _ => ⟨by decide, fun _ => b_M_writesRow_316 _ _ ?_, fun q => absurd (by decide) q⟩⟩
        have h9 := ih (k + 1, υ, (0, 0, [], true), [], Y) d9 ⟨d1, d2, by simpa [hdT, lowT, sp1] using d3, d4, d5, by simp, rfl, rfl, Or.inl rfl⟩
        simp only at h9
        rw [show ((k + 1 : Nat) : Int) = (k : Int) + 1 by omega] at h9
        exact h9
      | cons g R ihR =>
        intro f υ Y d1 d2 d3 d4 d5 d6 d7 d8 d9
        have hU := d1.fix hF (by decide)
        obtain ⟨b, c, us, one⟩ := f
        obtain ⟨⟨s1, s2, s3⟩, s4, s5⟩ := d8
        simp only at s1 s2 s3
        simp only [List.length_cons] at d6
        rw [show (((g :: R).length : Nat) : Int) - 1 = (R.length : Int) by simp]
        have fw : Fr wrX υ (wr (wr υ 66 R.length (υ.1 66 R.length - 1)) 68 R.length 1) := (Fr.wr (frO_a (by decide) _)).tr (Fr.wr (frO_a (by decide) _))
        have f2 := d1.tr fw
        have hV := f2.fix hF (by decide)
        have t2 : TxIs (wr (wr υ 66 R.length (υ.1 66 R.length - 1)) 68 R.length 1) Y := ⟨by rw [wr_na _ (by decide), wr_na _ (by decide)]; exact d2.1, d2.2.congr (fun i hi => by rw [wr_na _ (by decide), wr_na _ (by decide)])⟩
        have low2 : LowS (wr (wr υ 66 R.length (υ.1 66 R.length - 1)) 68 R.length 1) (g :: R) := s5.congr (fun i hi => by
          simp only [List.length_cons] at hi
          have hne : (i : Int) ≠ R.length := by omega
          exact ⟨by rw [wr_na _ (by decide), wr_na _ (by decide)], by rw [wr_na _ (by decide), wr_na _ (by decide)], by rw [wr_na _ (by decide), wr_nk _ hne]⟩)
        have sl2 : SlT (wr (wr υ 66 R.length (υ.1 66 R.length - 1)) 68 R.length 1) R.length (b, c, us, true) us.length := ⟨by rw [wr_na _ (by decide), wr_na _ (by decide)]; exact s1, by rw [wr_na _ (by decide), wr_na _ (by decide)]; exact s2, by rw [wr_na _ (by decide), wr_same, s3]; omega⟩
        have on2 : (wr (wr υ 66 R.length (υ.1 66 R.length - 1)) 68 R.length 1).1 68 R.length = b2i (true = true) := by rw [wr_same, b2i_t rfl]
        have hlt : R.length < 24 := by omega
        have htl : (us.length : Int) ≤ 20 := by
          obtain ⟨pre2, p1, p2⟩ := d4
          have q1 := congrArg List.length p1
          rw [List.length_append] at q1
          have q2 := fr_len (fun u hu => (d5 u hu).1)
          have q3 : (rowF ((b, c, us, one) :: g :: R)).length = us.length + (rowF (g :: R)).length := by rw [rowF_cons, List.length_append]
          omega
        refine b_M_writesRow_244 _ _ _ hU ⟨by decide, fun q => absurd q (by decide), fun _ => ⟨by omega, fun q => by omega, fun _ => ⟨by omega, by omega, by omega, by omega, by rw [wr_same, s3]; omega, fun q => ?_, fun q => ?_⟩⟩⟩
        · rw [wr_same, s3] at q
          refine b_M_writesRow_283 _ _ _ hV ⟨by decide, fun q => absurd rfl q, fun _ => b_M_writesRow_244 _ _ _ hV ⟨by decide, fun _ => b_M_writesRow_316 _ _ ?_, fun q => absurd rfl q⟩⟩
          have h9 := ih (k + 1, wr (wr υ 66 R.length (υ.1 66 R.length - 1)) 68 R.length 1, (b, c, us, true), g :: R, Y) d9 ⟨f2, t2, by simp only [hdT_one]; exact d3, d4, d5, by simp only [List.length_cons]; omega, sl2, on2, s4, by intro q2; have q3 : us = [] := q2; subst q3; exact q (by simp), low2⟩
          simp only [List.length_cons] at h9
          rw [show ((k + 1 : Nat) : Int) = (k : Int) + 1 by omega, show ((R.length + 1 : Nat) : Int) - 1 = (R.length : Int) by omega] at h9
          exact h9
        · rw [wr_same, s3] at q
          have hus : us = [] := List.eq_nil_of_length_eq_zero (by omega)
          subst hus
          have ec : (wr (wr υ 66 R.length (υ.1 66 R.length - 1)) 68 R.length 1).1 67 R.length = c := by rw [wr_na _ (by decide), wr_na _ (by decide)]; exact s2
          have hc : c = 0 ∨ c = 41 ∨ c = 62 := s4.2
          have pop : ∀ (ω : St) (Z : List Int), Fr wrX σ ω → TxIs ω Z → Z ++ lowT (g :: R) = W → LowS ω (g :: R) → WP E m_M_writesRow (d + 1) 310 [(0, aP 42), (1, aI R.length), (2, aI k), (3, aI 1)] [] ω (fun r τ => r = none ∧ σ.2 <+: τ.2 ∧ Fr wrX σ τ ∧ TxIs τ W) := by
            intro ω Z e1 e2 e3 e4
            refine b_M_writesRow_310 _ _ _ ?_
            have h9 := ihR g ω Z e1 e2 e3 d4 d5 (by omega) d7 e4 d9
            rw [show (R.length : Int) + -1 = (R.length : Int) - 1 by omega]
            exact h9
          refine b_M_writesRow_283 _ _ _ hV ⟨by decide, fun _ => ⟨by omega, by rw [ec]; omega, fun q2 => ?_, fun q2 => ⟨by omega, ?_⟩⟩, fun q => absurd q (by decide)⟩
          · rw [ec] at q2
            subst q2
            exact pop _ Y f2 t2 (by simpa [lowT, sp1, cl] using d3) low2
          · rw [ec] at q2 ⊢
            have hY : Y.length < 2600 := by have := congrArg List.length d3; rw [List.length_append] at this; omega
            refine WMv.mono (c_M_writes hV t2 hY) (fun ω hp hq => ?_)
            refine pop ω (Y ++ [c]) (f2.tr (hq.1.mono (by decide))) hq.2 ?_ (low2.congr (fun i hi => ⟨hq.1.2 _ _ rfl, hq.1.2 _ _ rfl, hq.1.2 _ _ rfl⟩))
            rw [← d3]
            simp [lowT, sp1, cl, q2]
    refine b_M_writesRow_4 _ _ hT ⟨by omega, by rw [hsz]; omega, fun c => ?_, fun c => ?_⟩
    · rw [hsz] at c
      have h0 : fr (rowF (f0 :: R0)) = [] := List.eq_nil_of_length_eq_zero (by omega)
      have h1 := fr_len (fun u hu => (i5 u hu).1)
      rw [h0] at h1
      have h2 : rowF (f0 :: R0) = [] := List.eq_nil_of_length_eq_zero (by simpa using h1)
      rw [rowF_cons] at h2
      have h3 : f0.2.2.1 = [] := (List.append_eq_nil_iff.mp h2).1
      cases R0 with
      | nil =>
        obtain ⟨j1, j2, -⟩ := i7
        have hX : X = W := by rw [← i3, h3, j2]; simp [hdT, cl, lowT]
        rw [← hX]
        exact ⟨rfl, pre_eq i1.1, i1, i2⟩
      | cons g R => exact absurd h3 i7.2.2.2.1
    · rw [hsz] at c
      have hkl : k < (rc 0 t).length := by omega
      obtain ⟨b, cc, rs, one⟩ := f0
      cases rs with
      | nil =>
        cases R0 with
        | nil => simp [rowF, fr_nil] at hrl; omega
        | cons g R => exact absurd rfl i7.2.2.2.1
      | cons u us =>
        have hu := i5 u (by rw [rowF_cons]; simp)
        have hnd := nd_pts hu.1 (by omega)
        have hnj := nd_j hu.1 (by omega)
        have e1 : fr (rowF ((b, cc, u :: us, one) :: R0)) = nd u :: fr (ch u ++ rowF ((b, cc, us, one) :: R0)) := by
          rw [rowF_cons, rowF_cons]
          simp only [List.cons_append, fr_cons, fr_app, rc0_nd hu.1, List.append_assoc]
        have hx0 : σ.1 50 k = nd u := by
          have h5 := hR.2
          rw [i4, e1] at h5
          have h6 := h5.at_app
          rw [i4', show (0 : Int) + (k : Int) = k by omega] at h6
          exact h6
        have hlen1 : (fr (ch u ++ rowF ((b, cc, us, one) :: R0))).length < (fr (rowF ((b, cc, u :: us, one) :: R0))).length := by rw [e1]; simp
        have hrow1 : ∃ pre, rc 0 t = pre ++ fr (ch u ++ rowF ((b, cc, us, one) :: R0)) ∧ pre.length = k + 1 := ⟨pre ++ [nd u], by rw [i4, e1]; simp, by simp [i4']⟩
        have hok1 : ∀ w ∈ ch u ++ rowF ((b, cc, us, one) :: R0), ok w ∧ sg w ≤ 10 := by
          intro w hw
          rcases List.mem_append.mp hw with hw | hw
          · have := ch_ok hu.1 w hw
            exact ⟨this.1, by omega⟩
          · refine i5 w ?_
            rw [rowF_cons] at hw ⊢
            exact List.mem_cons_of_mem _ hw
        have low0 : LowS τ ((b, cc, us, one) :: R0) := by
          cases R0 with
          | nil =>
            obtain ⟨j1, j2, j3⟩ := i7
            refine ⟨j1, j2, ?_⟩
            rcases j3 with j3 | ⟨-, w, j3⟩
            · simp at j3
            · simp at j3; exact j3.2
          | cons g R =>
            obtain ⟨⟨j1, j2, j3⟩, j4, j5, j6, j7⟩ := i7
            exact ⟨⟨j1, j2, by rw [j3]; simp⟩, j5, j7⟩
        have hb : b = 0 ∨ b = 42 ∨ b = 58 := by
          cases R0 with
          | nil => exact Or.inl i7.1
          | cons g R => exact i7.2.2.1.1
        have bet : ∀ υ : St, LowS υ ((b, cc, us, one) :: R0) → ¬ ((R0.length : Int) - 1 < 0) → υ.1 65 ((R0.length : Int) - 1) = b := by
          intro υ hlow hge
          cases R0 with
          | nil => simp at hge
          | cons g R =>
            rw [show (((g :: R).length : Nat) : Int) - 1 = (R.length : Int) by simp]
            exact hlow.1.1
        -- a new frame is laid
        have push : ∀ (υ : St) (Y : List Int) (b' c' x4 : Int), Fr wrX σ υ → TxIs υ Y → Y ++ (hdT b' false (ch u) ++ (cl c' ++ lowT ((b, cc, us, one) :: R0))) = W → LowS υ ((b, cc, us, one) :: R0) → ch u ≠ [] → okB (b', c', ch u, false) → (x4 = 0 ∨ x4 = 1) → c' = (if 200 ≤ nd u then (if x4 = 0 then 0 else 41) else 62) → WP E m_M_writesRow (d + 1) 182 [(0, aP 42), (1, aI R0.length), (2, aI k), (4, aI x4)] [aI b', aI R0.length, aP 65] υ (fun r τ => r = none ∧ σ.2 <+: τ.2 ∧ Fr wrX σ τ ∧ TxIs τ W) := by
          intro υ Y b' c' x4 p1 p2 p3 p4 p5 p6 p7 p8
          have hU := p1.fix hF (by decide)
          have g1 : Fr wrX σ (wr υ 65 R0.length b') := p1.tr (Fr.wr (frO_a (by decide) _))
          have F1 := g1.fix hF (by decide)
          have v9 : (wr υ 65 R0.length b').1 42 9 = 50 := ff_35 F1
          have v31 : (wr υ 65 R0.length b').1 42 31 = 66 := ff_51 F1
          have r1 : (wr υ 65 R0.length b').1 50 k = nd u := (g1.2 _ _ rfl).trans hx0
          have g2 : Fr wrX σ (wr (wr υ 65 R0.length b') 66 R0.length (ch u).length) := g1.tr (Fr.wr (frO_a (by decide) _))
          have F2 := g2.fix hF (by decide)
          have w9 : (wr (wr υ 65 R0.length b') 66 R0.length (ch u).length).1 42 9 = 50 := ff_35 F2
          have w32 : (wr (wr υ 65 R0.length b') 66 R0.length (ch u).length).1 42 32 = 67 := ff_52 F2
          have r2 : (wr (wr υ 65 R0.length b') 66 R0.length (ch u).length).1 50 k = nd u := (g2.2 _ _ rfl).trans hx0
          have last : WP E m_M_writesRow (d + 1) 231 [(0, aP 42), (1, aI R0.length), (2, aI k)] [aI c', aI R0.length, aP 67] (wr (wr υ 65 R0.length b') 66 R0.length (ch u).length) (fun r τ => r = none ∧ σ.2 <+: τ.2 ∧ Fr wrX σ τ ∧ TxIs τ W) := by
            have g3 : Fr wrX σ (wr (wr (wr υ 65 R0.length b') 66 R0.length (ch u).length) 67 R0.length c') := g2.tr (Fr.wr (frO_a (by decide) _))
            have F3 := g3.fix hF (by decide)
            have v33 : (wr (wr (wr υ 65 R0.length b') 66 R0.length (ch u).length) 67 R0.length c').1 42 33 = 68 := ff_53 F3
            refine b_M_writesRow_231 _ _ _ _ _ ⟨⟨24, sf_67 F2, by omega, by omega, by omega⟩, sf_42 F3, ?_, ?_⟩
            · rw [v33]; exact ⟨24, sf_68 F3, by omega, by omega, by omega⟩
            · rw [v33]
              have g4 : Fr wrX σ (wr (wr (wr (wr υ 65 R0.length b') 66 R0.length (ch u).length) 67 R0.length c') 68 R0.length 0) := g3.tr (Fr.wr (frO_a (by decide) _))
              have sl : SlT (wr (wr (wr (wr υ 65 R0.length b') 66 R0.length (ch u).length) 67 R0.length c') 68 R0.length 0) R0.length (b', c', ch u, false) (ch u).length := ⟨by rw [wr_na _ (by decide), wr_na _ (by decide), wr_na _ (by decide), wr_same], by rw [wr_na _ (by decide), wr_same], by rw [wr_na _ (by decide), wr_na _ (by decide), wr_same]⟩
              have on : (wr (wr (wr (wr υ 65 R0.length b') 66 R0.length (ch u).length) 67 R0.length c') 68 R0.length 0).1 68 R0.length = b2i (false = true) := by rw [wr_same, b2i_f (by simp)]
              have lw : LowS (wr (wr (wr (wr υ 65 R0.length b') 66 R0.length (ch u).length) 67 R0.length c') 68 R0.length 0) ((b, cc, us, one) :: R0) := p4.congr (fun i hi => by
                simp only [List.length_cons] at hi
                have hne : (i : Int) ≠ R0.length := by omega
                rw [wr_nk _ hne, wr_nk _ hne, wr_nk _ hne, wr_nk _ hne, wr_nk _ hne, wr_nk _ hne, wr_nk _ hne, wr_nk _ hne, wr_nk _ hne, wr_nk _ hne, wr_nk _ hne, wr_nk _ hne]
                exact ⟨rfl, rfl, rfl⟩)
              have tt : TxIs (wr (wr (wr (wr υ 65 R0.length b') 66 R0.length (ch u).length) 67 R0.length c') 68 R0.length 0) Y := ⟨by rw [wr_na _ (by decide), wr_na _ (by decide), wr_na _ (by decide), wr_na _ (by decide)]; exact p2.1, p2.2.congr (fun i hi => by rw [wr_na _ (by decide), wr_na _ (by decide), wr_na _ (by decide), wr_na _ (by decide)])⟩
              refine b_M_writesRow_316 _ _ ?_
              have h9 := ih (k + 1, _, (b', c', ch u, false), (b, cc, us, one) :: R0, Y) (by show (fr (rowF ((b', c', ch u, false) :: (b, cc, us, one) :: R0))).length < _; rw [rowF_cons]; exact hlen1) ⟨g4, tt, p3, by show ∃ pre, rc 0 t = pre ++ fr (rowF ((b', c', ch u, false) :: (b, cc, us, one) :: R0)) ∧ pre.length = k + 1; rw [rowF_cons]; exact hrow1, by show ∀ w ∈ rowF ((b', c', ch u, false) :: (b, cc, us, one) :: R0), _; rw [rowF_cons]; exact hok1, by show R0.length + 1 ≤ k + 1; omega, sl, on, p6, p5, lw⟩
              simp only [List.length_cons] at h9
              rw [show ((k + 1 : Nat) : Int) = (k : Int) + 1 by omega, show ((R0.length + 1 : Nat) : Int) - 1 = (R0.length : Int) by omega] at h9
              exact h9
          refine b_M_writesRow_182 _ _ _ _ _ _ ⟨⟨24, sf_65 hU, by omega, by omega, by omega⟩, sf_42 F1, sf_42 F1, ?_, ?_⟩
          · rw [v9]; exact ⟨24, sf_50 F1, by omega, by omega, by omega⟩
          · rw [v9, r1]
            refine wmi_p (c_M_partsOf (by omega)) ?_
            rw [hnd.1, v31, w9, r2, w32]
            refine ⟨⟨24, sf_66 F1, by omega, by omega, by omega⟩, sf_42 F2, sf_42 F2, ⟨24, sf_50 F2, by omega, by omega, by omega⟩, by omega, fun q => ⟨by omega, fun q2 => ?_, fun q2 => ?_⟩, fun q => ?_⟩
            · rw [if_pos q, if_pos q2] at p8; rw [← p8]; exact last
            · rw [if_pos q, if_neg q2] at p8; rw [← p8]; exact last
            · rw [if_neg q] at p8; rw [← p8]; exact last
        have body : ∀ (υ : St) (Y : List Int), Fr wrX σ υ → TxIs υ Y → Y ++ (tx (kx b) u ++ lowT ((b, cc, us, one) :: R0)) = W → LowS υ ((b, cc, us, one) :: R0) → WP E m_M_writesRow (d + 1) 35 [(0, aP 42), (1, aI ((R0.length : Int) - 1)), (2, aI k)] [] υ (fun r τ => r = none ∧ σ.2 <+: τ.2 ∧ Fr wrX σ τ ∧ TxIs τ W) := by
          intro υ Y q1 q2 q3 q4
          have hU := q1.fix hF (by decide)
          have hxu : υ.1 50 k = nd u := (q1.2 _ _ rfl).trans hx0
          have hYl : Y.length + (tx (kx b) u).length ≤ W.length := by rw [← q3, List.length_append, List.length_append]; omega
          have htl := (tx_len hu.1 (kx b)).1
          have eR : (R0.length : Int) - 1 + 1 = R0.length := by omega
          -- a join, its head written or not
          have join : ∀ (ω : St) (Z : List Int) (x3 x4 : Int), Fr wrX σ ω → TxIs ω Z → LowS ω ((b, cc, us, one) :: R0) → 200 ≤ nd u → ch u ≠ [] → (x4 = 0 ∨ x4 = 1) → (x3 = 0 ∨ x3 = 1) → Z ++ (hdT (if x3 = 0 then 42 else 58) false (ch u) ++ (cl (if x4 = 0 then 0 else 41) ++ lowT ((b, cc, us, one) :: R0))) = W → WP E m_M_writesRow (d + 1) 147 [(0, aP 42), (1, aI ((R0.length : Int) - 1)), (2, aI k), (3, aI x3), (4, aI x4)] [] ω (fun r τ => r = none ∧ σ.2 <+: τ.2 ∧ Fr wrX σ τ ∧ TxIs τ W) := by
            intro ω Z x3 x4 j1 j2 j3 j4 j5 j6 j7 j8
            have hO := j1.fix hF (by decide)
            have hxo : ω.1 50 k = nd u := (j1.2 _ _ rfl).trans hx0
            refine b_M_writesRow_147 _ _ _ _ hO ⟨by omega, by omega, fun _ => ⟨by omega, fun z => ?_, fun z => ?_⟩, fun z => by omega⟩
            · rw [eR]
              rw [if_pos z] at j8
              refine push ω Z 42 _ x4 j1 j2 j8 j3 j5 ⟨Or.inr (Or.inl rfl), ?_⟩ j6 (by rw [if_pos j4])
              rcases j6 with j6 | j6 <;> simp [j6]
            · rw [eR]
              rw [if_neg z] at j8
              refine push ω Z 58 _ x4 j1 j2 j8 j3 j5 ⟨Or.inr (Or.inr rfl), ?_⟩ j6 (by rw [if_pos j4])
              rcases j6 with j6 | j6 <;> simp [j6]
          cases u with
          | var l =>
            have hl : vN l < 26 := hu.1
            have en : nd (.var l) = (vN l : Int) + 1 := rfl
            refine b_M_writesRow_35 _ _ hU ⟨by omega, wmi_p (c_M_isSign (by omega)) ⟨hU, b2i_r _, fun c2 => by rw [b2i_0] at c2; omega, fun _ => ⟨by omega, wmi_p (c_M_letterOf (by omega)) ⟨hU, WMv.mono (c_M_writes hU q2 (by omega)) (fun ω hp hq => ?_)⟩⟩⟩⟩
            have hO := hq.1.fix hU (by decide)
            have hxo : ω.1 50 k = nd (.var l) := (hq.1.2 _ _ rfl).trans hxu
            refine b_M_writesRow_63 _ _ hO ⟨by omega, by omega, fun _ => ?_, fun z => by omega⟩
            refine down R0 (b, cc, us, one) ω _ (q1.tr (hq.1.mono (by decide))) hq.2 ?_ (by simpa [ch] using hrow1) (by simpa [ch] using hok1) i6 hkl (q4.congr (fun i hi => ⟨hq.1.2 _ _ rfl, hq.1.2 _ _ rfl, hq.1.2 _ _ rfl⟩)) (by simpa [ch] using hlen1)
            rw [hxu, en, show 97 + (((vN l : Int) + 1) % 100 - 1) = 97 + (vN l : Int) by omega, ← q3]
            simp [tx]
          | pow w l =>
            have hl : l < 26 := hu.1.2
            have en : nd (.pow w l) = (l : Int) + 101 := rfl
            have hll : (tx (kx b) (.pow w l)).length = (tx 0 w).length + 3 := by simp [tx]
            refine b_M_writesRow_35 _ _ hU ⟨by omega, wmi_p (c_M_isSign (by omega)) ⟨hU, b2i_r _, fun c2 => by rw [b2i_0] at c2; omega, fun _ => ⟨by omega, wmi_p (c_M_letterOf (by omega)) ⟨hU, WMv.mono (c_M_writes hU q2 (by omega)) (fun ω hp hq => ?_)⟩⟩⟩⟩
            have hO := hq.1.fix hU (by decide)
            have hxo : ω.1 50 k = nd (.pow w l) := (hq.1.2 _ _ rfl).trans hxu
            refine b_M_writesRow_63 _ _ hO ⟨by omega, by omega, fun z => by omega, fun _ => ⟨by omega, by omega, fun _ => b_M_writesRow_91 _ _ _ hO ⟨by decide, fun _ => b_M_writesRow_115 _ _ _ (b_M_writesRow_116 _ _ _ _ hO ⟨by omega, by omega, fun z => by omega, fun _ => WMv.mono (c_M_writes hO hq.2 (by simp; omega)) (fun χ hp2 hq2 => ?_)⟩), fun z => absurd rfl z⟩, fun z => by omega⟩⟩
            have hC := hq2.1.fix hO (by decide)
            have hxc : χ.1 50 k = nd (.pow w l) := (hq2.1.2 _ _ rfl).trans hxo
            refine b_M_writesRow_136 _ _ _ _ hC ⟨by decide, fun _ => b_M_writesRow_147 _ _ _ _ hC ⟨by omega, by omega, fun z => by omega, fun _ => ?_⟩, fun z => absurd rfl z⟩
            rw [eR]
            refine push χ _ 0 62 0 ((q1.tr (hq.1.mono (by decide))).tr (hq2.1.mono (by decide))) hq2.2 ?_ ((q4.congr (fun i hi => ⟨hq.1.2 _ _ rfl, hq.1.2 _ _ rfl, hq.1.2 _ _ rfl⟩)).congr (fun i hi => ⟨hq2.1.2 _ _ rfl, hq2.1.2 _ _ rfl, hq2.1.2 _ _ rfl⟩)) (by simp [ch]) ⟨Or.inl rfl, Or.inr (Or.inr rfl)⟩ (Or.inl rfl) (by rw [if_neg (by omega)])
            rw [hxu, en, show 97 + (((l : Int) + 101) % 100 - 1) = 97 + (l : Int) by omega, ← q3]
            simp [tx, ch, hdT, sp1, cl, kx]
          | mul x y =>
            have hM : nd (.mul x y) < 300 := Int.not_le.mp (fun z => by have := hnj.2.mp z; simp [isA] at this)
            have hJ : 200 ≤ nd (.mul x y) := hnj.1.mpr rfl
            refine b_M_writesRow_35 _ _ hU ⟨by omega, wmi_p (c_M_isSign (by omega)) ⟨hU, b2i_r _, fun _ => ?_, fun c2 => by rw [b2i_n0] at c2; omega⟩⟩
            refine b_M_writesRow_63 _ _ hU ⟨by omega, by omega, fun z => by omega, fun _ => ⟨by omega, by omega, fun _ => b_M_writesRow_91 _ _ _ hU ⟨by decide, fun _ => b_M_writesRow_115 _ _ _ (b_M_writesRow_116 _ _ _ _ hU ⟨by omega, by omega, fun _ => b_M_writesRow_136 _ _ _ _ hU ⟨by decide, fun _ => ?_, fun z => absurd rfl z⟩, fun z => by omega⟩), fun z => absurd rfl z⟩, fun z => by omega⟩⟩
            refine join υ Y 0 0 q1 q2 q4 hJ (by simp [ch, pM]) (Or.inl rfl) (Or.inl rfl) ?_
            rw [txM] at q3
            simpa [cl, ch] using q3
          | add x y =>
            have hA : 300 ≤ nd (.add x y) := hnj.2.mpr rfl
            refine b_M_writesRow_35 _ _ hU ⟨by omega, wmi_p (c_M_isSign (by omega)) ⟨hU, b2i_r _, fun _ => ?_, fun c2 => by rw [b2i_n0] at c2; omega⟩⟩
            have plain : kx b ≠ 1 → WP E m_M_writesRow (d + 1) 115 [(0, aP 42), (1, aI ((R0.length : Int) - 1)), (2, aI k), (3, aI 1)] [] υ (fun r τ => r = none ∧ σ.2 <+: τ.2 ∧ Fr wrX σ τ ∧ TxIs τ W) := by
              intro hk1
              refine b_M_writesRow_115 _ _ _ (b_M_writesRow_116 _ _ _ _ hU ⟨by omega, by omega, fun _ => b_M_writesRow_136 _ _ _ _ hU ⟨by decide, fun _ => ?_, fun z => absurd rfl z⟩, fun z => by omega⟩)
              refine join υ Y 1 0 q1 q2 q4 (by omega) (by simp [ch, pA]) (Or.inl rfl) (Or.inr rfl) ?_
              simp only [tx, if_neg hk1] at q3
              rw [txA] at q3
              simpa [cl, ch] using q3
            refine b_M_writesRow_63 _ _ hU ⟨by omega, by omega, fun z => by omega, fun _ => ⟨by omega, by omega, fun z => by omega, fun _ => b_M_writesRow_91 _ _ _ hU ⟨by decide, fun z => absurd z (by decide), fun _ => ⟨by omega, fun z => plain ?_, fun z => ⟨by omega, by rw [bet υ q4 z]; omega, fun z2 => plain ?_, fun z2 => ?_⟩⟩⟩⟩⟩
            · have : R0 = [] := List.eq_nil_of_length_eq_zero (by omega)
              subst this
              have : b = 0 := i7.1
              subst this
              decide
            · rw [bet υ q4 z] at z2
              simp [kx, z2]
            · rw [bet υ q4 z] at z2
              subst z2
              have hk1 : kx 42 = 1 := rfl
              refine b_M_writesRow_116 _ _ _ _ hU ⟨by omega, by omega, fun _ => b_M_writesRow_136 _ _ _ _ hU ⟨by decide, fun z => absurd z (by decide), fun _ => WMv.mono (c_M_writes hU q2 (by omega)) (fun ω hp hq => ?_)⟩, fun z => by omega⟩
              refine join ω (Y ++ [40]) 1 1 (q1.tr (hq.1.mono (by decide))) hq.2 (q4.congr (fun i hi => ⟨hq.1.2 _ _ rfl, hq.1.2 _ _ rfl, hq.1.2 _ _ rfl⟩)) (by omega) (by simp [ch, pA]) (Or.inr rfl) (Or.inr rfl) ?_
              rw [← q3]
              have e5 := txA x y
              simp only [tx, hk1, if_true, ch]
              rw [if_neg (by decide), if_neg (by decide), ← e5]
              simp [cl]
          | _ => exact absurd hu.1 (by simp [ok])
        have hXl : X.length + 1 ≤ W.length := by
          have := (tx_len hu.1 (kx b)).1
          rw [← i3]
          simp only [hdT, List.length_append]
          omega
        have no : one = false → X ++ (tx (kx b) u ++ lowT ((b, cc, us, one) :: R0)) = W := by
          intro q
          subst q
          rw [← i3]
          simp [hdT, lowT]
        have hone : ¬ ((R0.length : Int) - 1 < 0) → τ.1 68 ((R0.length : Int) - 1) = b2i (one = true) := by
          intro hge
          cases R0 with
          | nil => simp at hge
          | cons g R =>
            rw [show (((g :: R).length : Nat) : Int) - 1 = (R.length : Int) by simp]
            exact i7.2.1
        refine ⟨by omega, fun q => body τ X i1 i2 (no ?_) low0, fun q => ⟨by omega, by rw [hone q]; exact b2i_r _, fun z => body τ X i1 i2 (no ?_) low0, fun z => ⟨by omega, ?_⟩⟩⟩
        · have : R0 = [] := List.eq_nil_of_length_eq_zero (by omega)
          subst this
          rcases i7.2.2 with j3 | j3
          · simp at j3
          · exact j3.1
        · rw [hone q, b2i_0] at z
          simpa using z
        · rw [hone q, b2i_n0] at z
          rw [bet τ low0 q]
          refine WMv.mono (c_M_writes hT i2 (by omega)) (fun ω hp hq => body ω (X ++ [b]) (i1.tr (hq.1.mono (by decide))) hq.2 ?_ (low0.congr (fun i hi => ⟨hq.1.2 _ _ rfl, hq.1.2 _ _ rfl, hq.1.2 _ _ rfl⟩)))
          rw [← i3]
          simp [hdT, lowT, z]
  have h9 := key (0, σ, (0, 0, [t], false), [], X0) ⟨Fr.refl _ _, h, by simp [hdT, kx, sp1, cl, lowT, hW], ⟨[], by simp [rowF, fr_one], rfl⟩, by simpa [rowF] using ⟨ht, h10⟩, by simp, rfl, rfl, Or.inr ⟨rfl, t, rfl⟩⟩
  simpa using h9
end MWRow
