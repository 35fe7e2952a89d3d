/-- where the parts of a row lie, one behind the other -/
def chn (T : Tb) (g b S D L U ak wk dk hk : Int) : Int → List (Tr × Qd) → Prop
  | _, [] => True
  | so, z :: zs => (z.2.1 = S ∧ z.2.2.1 = D) ∧ (z.2.2.2.1 - S * wid T g z.1 = L + (if b = 1 then so else ak + wk - wid T g z.1) * S ∧ z.2.2.2.2 - S * hei T g z.1 = U + (if b = 1 then dk + hk - hei T g z.1 else so) * S) ∧ ((0 ≤ (if b = 1 then so else ak + wk - wid T g z.1) ∧ (if b = 1 then so else ak + wk - wid T g z.1) + 2 * wid T g z.1 ≤ 294) ∧ 0 ≤ (if b = 1 then dk + hk - hei T g z.1 else so) ∧ (if b = 1 then dk + hk - hei T g z.1 else so) + 2 * hei T g z.1 ≤ 294) ∧ chn T g b S D L U ak wk dk hk (so + 2 * ((if b = 1 then wid T g z.1 else hei T g z.1) + g)) zs
theorem chn_M {T : Tb} {g S D L U ak wk dk hk Y : Int} (hT : okTab T) (hg : 0 ≤ g ∧ g ≤ 3) (hY : Y - S * hk = U + dk * S) (hd : 0 ≤ dk ∧ dk + 2 * hk ≤ 294) {t : Tr} : ∀ (q : Qd) (so : Int), okU T t → q.1 = S → q.2.1 = D → q.2.2.2 = Y → q.2.2.1 - S * wid T g t = L + so * S → hei T g t ≤ hk → 0 ≤ so → so + 2 * wid T g t ≤ 294 → chn T g 1 S D L U ak wk dk hk so (pMq T g q t) := by
  have one : ∀ (u : Tr) (q : Qd) (so : Int), okU T u → q.1 = S → q.2.1 = D → q.2.2.2 = Y → q.2.2.1 - S * wid T g u = L + so * S → hei T g u ≤ hk → 0 ≤ so → so + 2 * wid T g u ≤ 294 → ∀ zs, chn T g 1 S D L U ak wk dk hk (so + 2 * (wid T g u + g)) zs → chn T g 1 S D L U ak wk dk hk so ((u, q) :: zs) := by
    intro u q so hu h1 h2 h3 h4 h5 h6 h7 zs hz
    have hs := okU_sz hT hg hu
    simp only [chn, if_true]
    refine ⟨⟨h1, h2⟩, ⟨h4, ?_⟩, ⟨⟨h6, h7⟩, by omega, by omega⟩, hz⟩
    rw [h3, Int.sub_mul, Int.add_mul, Int.mul_comm hk S, Int.mul_comm (hei T g u) S]
    omega
  induction t with
  | mul a b iha ihb =>
    intro q so hu h1 h2 h3 h4 h5 h6 h7
    have hab := okU_mul hu
    have sa := okU_sz hT hg hab.1
    have sb := okU_sz hT hg hab.2
    have ew : wid T g (.mul a b) = wid T g a + g + wid T g b := rfl
    have eh : hei T g (.mul a b) = max (hei T g a) (hei T g b) := rfl
    have eww : S * wid T g (.mul a b) = S * wid T g a + S * g + S * wid T g b := by rw [ew, Int.mul_add, Int.mul_add]
    have e2 : (so + 2 * (wid T g a + g)) * S = so * S + (S * wid T g a + S * g) + (S * wid T g a + S * g) := by
      rw [Int.add_mul, Int.mul_comm (2 * (wid T g a + g)) S, Int.mul_left_comm S 2, Int.mul_add S]; omega
    refine one a (qMa T g a b q) so hab.1 h1 h2 h3 ?_ (by omega) h6 (by omega) _ (ihb (qMb T g a b q) _ hab.2 h1 h2 h3 ?_ (by omega) (by omega) (by omega))
    · show q.2.2.1 + q.1 * (wid T g a - wid T g (.mul a b)) - S * wid T g a = L + so * S
      rw [h1, Int.mul_sub]
      omega
    · show q.2.2.1 + q.1 * (wid T g (.mul a b) - wid T g b) - S * wid T g b = L + (so + 2 * (wid T g a + g)) * S
      rw [h1, Int.mul_sub, e2]
      omega
  | _ => intro q so hu h1 h2 h3 h4 h5 h6 h7; exact one _ _ so hu h1 h2 h3 h4 h5 h6 h7 [] trivial
theorem chn_A {T : Tb} {g S D L U ak wk dk hk X : Int} (hT : okTab T) (hg : 0 ≤ g ∧ g ≤ 3) (hX : X - S * wk = L + ak * S) (hd : 0 ≤ ak ∧ ak + 2 * wk ≤ 294) {t : Tr} : ∀ (q : Qd) (so : Int), okU T t → q.1 = S → q.2.1 = D → q.2.2.1 = X → q.2.2.2 - S * hei T g t = U + so * S → wid T g t ≤ wk → 0 ≤ so → so + 2 * hei T g t ≤ 294 → chn T g 0 S D L U ak wk dk hk so (pAq T g q t) := by
  have one : ∀ (u : Tr) (q : Qd) (so : Int), okU T u → q.1 = S → q.2.1 = D → q.2.2.1 = X → q.2.2.2 - S * hei T g u = U + so * S → wid T g u ≤ wk → 0 ≤ so → so + 2 * hei T g u ≤ 294 → ∀ zs, chn T g 0 S D L U ak wk dk hk (so + 2 * (hei T g u + g)) zs → chn T g 0 S D L U ak wk dk hk so ((u, q) :: zs) := by
    intro u q so hu h1 h2 h3 h4 h5 h6 h7 zs hz
    have hs := okU_sz hT hg hu
    simp only [chn, show ¬ ((0 : Int) = 1) by decide, if_false]
    refine ⟨⟨h1, h2⟩, ⟨?_, h4⟩, ⟨⟨by omega, by omega⟩, h6, h7⟩, hz⟩
    rw [h3, Int.sub_mul, Int.add_mul, Int.mul_comm wk S, Int.mul_comm (wid T g u) S]
    omega
  induction t with
  | add a b iha ihb =>
    intro q so hu h1 h2 h3 h4 h5 h6 h7
    have hab := okU_add hu
    have sa := okU_sz hT hg hab.1
    have sb := okU_sz hT hg hab.2
    have ew : hei T g (.add a b) = hei T g a + g + hei T g b := rfl
    have eh : wid T g (.add a b) = max (wid T g a) (wid T g b) := rfl
    have eww : S * hei T g (.add a b) = S * hei T g a + S * g + S * hei T g b := by rw [ew, Int.mul_add, Int.mul_add]
    have e2 : (so + 2 * (hei T g a + g)) * S = so * S + (S * hei T g a + S * g) + (S * hei T g a + S * g) := by
      rw [Int.add_mul, Int.mul_comm (2 * (hei T g a + g)) S, Int.mul_left_comm S 2, Int.mul_add S]; omega
    refine one a (qAa T g a b q) so hab.1 h1 h2 h3 ?_ (by omega) h6 (by omega) _ (ihb (qAb T g a b q) _ hab.2 h1 h2 h3 ?_ (by omega) (by omega) (by omega))
    · show q.2.2.2 + q.1 * (hei T g a - hei T g (.add a b)) - S * hei T g a = U + so * S
      rw [h1, Int.mul_sub]
      omega
    · show q.2.2.2 + q.1 * (hei T g (.add a b) - hei T g b) - S * hei T g b = U + (so + 2 * (hei T g a + g)) * S
      rw [h1, Int.mul_sub, e2]
      omega
  | _ => intro q so hu h1 h2 h3 h4 h5 h6 h7; exact one _ _ so hu h1 h2 h3 h4 h5 h6 h7 [] trivial
def p3X : List (Int × Int) := [(61, -1), (62, -1), (63, -1)]
theorem fr_take_lt {ts : List Tr} (h : ∀ u ∈ ts, ok u) {i : Nat} (hi : i < ts.length) : (fr (ts.take i)).length < (fr ts).length := by
  have e : ts = ts.take i ++ ts[i] :: ts.drop (i + 1) := by rw [List.getElem_cons_drop, List.take_append_drop]
  have h1 := congrArg (fun x => (fr x).length) e
  simp only [fr_app, fr_cons, List.length_append] at h1
  have h2 := (rc_len2 (h _ (List.getElem_mem hi)) 0).2
  have h3 := sg_pos (h _ (List.getElem_mem hi))
  omega
theorem GrpAt.keep {σ τ : St} {n : Nat} {S D L U : Int} (h : GrpAt σ n S D L U) (e : (τ.1 55 n = σ.1 55 n ∧ τ.1 56 n = σ.1 56 n) ∧ τ.1 57 n = σ.1 57 n ∧ τ.1 58 n = σ.1 58 n ∧ τ.1 59 n = σ.1 59 n ∧ τ.1 60 n = σ.1 60 n) : GrpAt τ n S D L U := by
  obtain ⟨⟨a1, a2⟩, ⟨a3, a4⟩, a5, a6⟩ := h
  obtain ⟨⟨e1, e2⟩, e3, e4, e5, e6⟩ := e
  exact ⟨⟨e1.trans a1, e2.trans a2⟩, ⟨e3.trans a3, e4.trans a4⟩, e5.trans a5, e6.trans a6⟩
theorem Pl.keep {σ τ : St} {T : Tb} {g sd j : Int} {u : Tr} {q : Qd} (h : Pl σ T g sd j u q) (e1 : τ.1 61 j = σ.1 61 j ∧ τ.1 62 j = σ.1 62 j ∧ τ.1 63 j = σ.1 63 j) (e2 : σ.1 42 27 ≤ τ.1 42 27) (e3 : ∀ n : Nat, (n : Int) < σ.1 42 27 → (τ.1 55 n = σ.1 55 n ∧ τ.1 56 n = σ.1 56 n) ∧ τ.1 57 n = σ.1 57 n ∧ τ.1 58 n = σ.1 58 n ∧ τ.1 59 n = σ.1 59 n ∧ τ.1 60 n = σ.1 60 n) : Pl τ T g sd j u q := by
  obtain ⟨n, L, U, ⟨a1, a2⟩, a3, a4, a5, a6⟩ := h
  refine ⟨n, L, U, ⟨e1.1.trans a1, by omega⟩, a3.keep (e3 n a2), ?_, ?_, a6⟩
  · rw [e1.2.1, e1.2.2]; exact a4
  · rw [e1.2.1, e1.2.2]; exact a5
section MParts
variable {E : EV} {d : Nat} {T : Tb} {M : Mo} {P : List Mo} {tp : List Int}
theorem l_M_places {R : Option AV → St → Prop} {τ0 : St} {t u : Tr} {q : Qd} {k n0 : Nat} {g sd b so0 L U ak dk : Int} {A B : List Tr} (hF : Fix τ0) (hM : Meas τ0 T g t 0) (hgn : τ0.1 47 1 = g) (hrow : τ0.1 50 k = nd u) (hkT : okTab T) (hg : 0 ≤ g ∧ g ≤ 3) (hu : okU T u) (hj : isJ u = true) (hq : okQ T g sd u q) (hblk : sb 0 t = A ++ (sb 0 u ++ B)) (hA : A.length = k) (hlen : (sb 0 t).length ≤ 19) (hb : b = 1 ∧ isM u = true ∧ so0 = ak ∨ b = 0 ∧ isA u = true ∧ so0 = dk)
    (hg0 : τ0.1 61 k = n0 ∧ (n0 : Int) < τ0.1 42 27) (hga : GrpAt τ0 n0 q.1 q.2.1 L U) (hak : τ0.1 62 k = ak ∧ τ0.1 63 k = dk) (hbd : (0 ≤ ak ∧ ak + 2 * wid T g u ≤ 294) ∧ 0 ≤ dk ∧ dk + 2 * hei T g u ≤ 294) (hxy : q.2.2.1 - q.1 * wid T g u = L + ak * q.1 ∧ q.2.2.2 - q.1 * hei T g u = U + dk * q.1) (hLU : (0 ≤ L ∧ L ≤ 2 * sd * q.2.1) ∧ 0 ≤ U ∧ U ≤ 2 * sd * q.2.1)
    (kont : ∀ τ, Fr p3X τ0 τ → (∀ j : Int, (j ≤ k ∨ k + (rc 0 u).length ≤ j) → τ.1 61 j = τ0.1 61 j ∧ τ.1 62 j = τ0.1 62 j ∧ τ.1 63 j = τ0.1 63 j) → (∀ (i : Nat) z, (chq T g q u)[i]? = some z → Pl τ T g sd ((k : Int) + 1 + (fr (((chq T g q u).take i).map Prod.fst)).length) z.1 z.2) → WP E m_M_places (d + 1) 307 [(0, aP 42), (2, aI k)] [] τ R) :
    WP E m_M_places (d + 1) 156 [(0, aP 42), (2, aI k), (3, aI b), (4, aI so0), (5, aI (k + 1)), (6, aI 0)] [] τ0 R := by
  have hnd := nd_pts hu.1 (by have := hu.2.1; omega)
  have hfst := chq_fst T g q u
  have hl1 : (rc 0 u).length = (fr (ch u)).length + 1 := by rw [rc0_nd hu.1]; simp
  have hl2 : k + (rc 0 u).length ≤ 19 := by
    have := congrArg List.length hblk
    rw [List.length_append, List.length_append, sb_len u 0] at this
    omega
  have hchok := chq_ok (sd := sd) hkT hg hu hq
  have hm0 := hM k u (by omega) (by rw [hblk, sb0_ch hu.1, ← hA]; simp)
  generalize hwk : wid T g u = wk at *
  generalize hhk : hei T g u = hk at *
  have hchain : chn T g b q.1 q.2.1 L U ak wk dk hk so0 (chq T g q u) := by
    rcases hb with ⟨rfl, h1, rfl⟩ | ⟨rfl, h1, rfl⟩
    · cases u with
      | mul x y => exact chn_M hkT hg (Y := q.2.2.2) hxy.2 hbd.2 q so0 hu rfl rfl rfl (by rw [hwk]; exact hxy.1) (by omega) hbd.1.1 (by rw [hwk]; exact hbd.1.2)
      | _ => simp [isM] at h1
    · cases u with
      | add x y => exact chn_A hkT hg (X := q.2.2.1) hxy.1 hbd.1 q so0 hu rfl rfl rfl (by rw [hhk]; exact hxy.2) (by omega) hbd.2.1 (by rw [hhk]; exact hbd.2.2)
      | _ => simp [isA] at h1
  have hb01 : b = 0 ∨ b = 1 := by omega
  have key : ∀ z : List (Tr × Qd) × List (Tr × Qd) × Int × St, (z.1 ++ z.2.1 = chq T g q u ∧ chn T g b q.1 q.2.1 L U ak wk dk hk z.2.2.1 z.2.1 ∧ Fr p3X τ0 z.2.2.2 ∧ (∀ j : Int, (j ≤ k ∨ k + (rc 0 u).length ≤ j) → z.2.2.2.1 61 j = τ0.1 61 j ∧ z.2.2.2.1 62 j = τ0.1 62 j ∧ z.2.2.2.1 63 j = τ0.1 63 j) ∧ (∀ (i : Nat) y, z.1[i]? = some y → Pl z.2.2.2 T g sd ((k : Int) + 1 + (fr ((z.1.take i).map Prod.fst)).length) y.1 y.2)) →
      WP E m_M_places (d + 1) 156 [(0, aP 42), (2, aI k), (3, aI b), (4, aI z.2.2.1), (5, aI ((k : Int) + 1 + (fr (z.1.map Prod.fst)).length)), (6, aI z.1.length)] [] z.2.2.2 R := by
    refine lpx (fun z => z.2.1.length) _ _ (fun z hI ih => ?_)
    obtain ⟨ps, rs, so, τ⟩ := z
    obtain ⟨i1, i2, i3, i4, i5⟩ := hI
    simp only at i1 i2 i3 i4 i5 ih ⊢
    have hT := i3.fix hF (by decide)
    have hx : τ.1 50 k = nd u := (i3.2 _ _ rfl).trans hrow
    have hcl : (ch u).length = ps.length + rs.length := by rw [← hfst, ← i1]; simp
    have hkb : (0 : Int) ≤ k ∧ (k : Int) < 24 := by omega
    have hfl : (fr (ch u)).length = (fr (ps.map Prod.fst)).length + (fr (rs.map Prod.fst)).length := by rw [← hfst, ← i1, List.map_append, fr_app, List.length_append]
    have hfl2 := fr_len (fun w hw => (ch_ok hu.1 w hw).1)
    refine b_M_places_156 _ _ _ _ _ hT ⟨hkb, wmi_p (c_M_partsOf (by rw [hx]; omega)) ?_⟩
    rw [hx, hnd.1]
    refine ⟨hT, by omega, by omega, fun c => ?_, fun c => ?_⟩
    · have h0 : rs = [] := List.eq_nil_of_length_eq_zero (by omega)
      subst h0
      rw [List.append_nil] at i1
      subst i1
      exact kont τ i3 i4 i5
    · cases rs with
      | nil => simp at hcl; omega
      | cons y rs =>
        simp only [chn] at i2
        obtain ⟨⟨n1, n2⟩, ⟨n3, n4⟩, n5, n6⟩ := i2
        have hym : y ∈ chq T g q u := by rw [← i1]; simp
        have hyk := hchok y hym
        have hyl := (rc_len2 hyk.1.1 0).2
        have hys := sg_pos hyk.1.1
        have hfy : (fr ((y :: rs).map Prod.fst)).length = (rc 0 y.1).length + (fr (rs.map Prod.fst)).length := by rw [List.map_cons, fr_cons, List.length_append]
        have hpos : (sb 0 t)[k + 1 + (fr (ps.map Prod.fst)).length]? = some y.1 := by
          have e1 : sb 0 t = (A ++ u :: sbF (ps.map Prod.fst)) ++ (y.1 :: (sbF (ch y.1) ++ sbF (rs.map Prod.fst) ++ B)) := by
            rw [hblk, sb0_ch hu.1, ← hfst, ← i1, List.map_append, List.map_cons, sbF_app, sbF_cons, sb0_ch hyk.1.1]
            simp
          have e2 : (A ++ u :: sbF (ps.map Prod.fst)).length = k + 1 + (fr (ps.map Prod.fst)).length := by
            rw [List.length_append, List.length_cons, sbF_len]; omega
          rw [e1, List.getElem?_append_right (by omega), e2]
          simp
        obtain ⟨m1, m2, m3⟩ := hM _ _ (by omega) hpos
        generalize hpo : (fr (ps.map Prod.fst)).length = po at *
        have hpc : ((k + 1 + po : Nat) : Int) = (k : Int) + 1 + po := by omega
        rw [hpc] at m1 m2 m3
        have hpb : (0 : Int) ≤ (k : Int) + 1 + po ∧ (k : Int) + 1 + po < 24 := by omega
        have hne : ((k : Int)) ≠ (k : Int) + 1 + po := by omega
        have v1 : τ.1 52 ((k : Int) + 1 + po) = wid T g y.1 := (i3.2 _ _ rfl).trans m1
        have v2 : τ.1 53 ((k : Int) + 1 + po) = hei T g y.1 := (i3.2 _ _ rfl).trans m2
        have v3 : τ.1 54 ((k : Int) + 1 + po) = (k : Int) + 1 + po + (rc 0 y.1).length := (i3.2 _ _ rfl).trans m3
        have v4 : τ.1 52 k = wk := (i3.2 _ _ rfl).trans hm0.1
        have v5 : τ.1 53 k = hk := (i3.2 _ _ rfl).trans hm0.2.1
        have w0 := i4 k (Or.inl (Int.le_refl _))
        have v6 : τ.1 61 k = n0 := w0.1.trans hg0.1
        have v7 : τ.1 62 k = ak := w0.2.1.trans hak.1
        have v8 : τ.1 63 k = dk := w0.2.2.trans hak.2
        have v9 : τ.1 47 1 = g := (i3.2 _ _ rfl).trans hgn
        generalize hav : (if b = 1 then so else ak + wk - wid T g y.1) = av at *
        generalize hdv : (if b = 1 then dk + hk - hei T g y.1 else so) = dv at *
        -- what stands once the three are laid
        have fw1 : Fr p3X τ (wr τ 61 ((k : Int) + 1 + po) (τ.1 61 k)) := Fr.wr (frO_a (by decide) _)
        have fw2 : Fr p3X τ (wr (wr τ 61 ((k : Int) + 1 + po) (τ.1 61 k)) 62 ((k : Int) + 1 + po) av) := fw1.tr (Fr.wr (frO_a (by decide) _))
        have fw3 : Fr p3X τ (wr (wr (wr τ 61 ((k : Int) + 1 + po) (τ.1 61 k)) 62 ((k : Int) + 1 + po) av) 63 ((k : Int) + 1 + po) dv) := fw2.tr (Fr.wr (frO_a (by decide) _))
        have x1 : ∀ j, j ≠ (k : Int) + 1 + po → (wr (wr (wr τ 61 ((k : Int) + 1 + po) (τ.1 61 k)) 62 ((k : Int) + 1 + po) av) 63 ((k : Int) + 1 + po) dv).1 61 j = τ.1 61 j ∧ (wr (wr (wr τ 61 ((k : Int) + 1 + po) (τ.1 61 k)) 62 ((k : Int) + 1 + po) av) 63 ((k : Int) + 1 + po) dv).1 62 j = τ.1 62 j ∧ (wr (wr (wr τ 61 ((k : Int) + 1 + po) (τ.1 61 k)) 62 ((k : Int) + 1 + po) av) 63 ((k : Int) + 1 + po) dv).1 63 j = τ.1 63 j := fun j hj => ⟨by rw [wr_na _ (by decide), wr_na _ (by decide), wr_nk _ hj], by rw [wr_na _ (by decide), wr_nk _ hj, wr_na _ (by decide)], by rw [wr_nk _ hj, wr_na _ (by decide), wr_na _ (by decide)]⟩
        have x2 : (wr (wr (wr τ 61 ((k : Int) + 1 + po) (τ.1 61 k)) 62 ((k : Int) + 1 + po) av) 63 ((k : Int) + 1 + po) dv).1 61 ((k : Int) + 1 + po) = n0 ∧ (wr (wr (wr τ 61 ((k : Int) + 1 + po) (τ.1 61 k)) 62 ((k : Int) + 1 + po) av) 63 ((k : Int) + 1 + po) dv).1 62 ((k : Int) + 1 + po) = av ∧ (wr (wr (wr τ 61 ((k : Int) + 1 + po) (τ.1 61 k)) 62 ((k : Int) + 1 + po) av) 63 ((k : Int) + 1 + po) dv).1 63 ((k : Int) + 1 + po) = dv := ⟨by rw [wr_na _ (by decide), wr_na _ (by decide), wr_same, v6], by rw [wr_na _ (by decide), wr_same], by rw [wr_same]⟩
        have F1 := fw1.fix hT (by decide)
        have F2 := fw2.fix hT (by decide)
        have F3 := fw3.fix hT (by decide)
        have v1' : (wr τ 61 ((k : Int) + 1 + po) (τ.1 61 k)).1 = (wr τ 61 ((k : Int) + 1 + po) (τ.1 61 k)).1 := rfl
        have st4 : ∀ sz, sz = (if b = 1 then wid T g y.1 else hei T g y.1) → WP E m_M_places (d + 1) 281 [(0, aP 42), (2, aI k), (3, aI b), (5, aI ((k : Int) + 1 + po)), (6, aI ps.length)] [aI sz, aI 2, aI so] (wr (wr (wr τ 61 ((k : Int) + 1 + po) (τ.1 61 k)) 62 ((k : Int) + 1 + po) av) 63 ((k : Int) + 1 + po) dv) R := by
          intro sz hsz
          refine b_M_places_281 _ _ _ _ _ _ _ F3 ⟨hpb, ?_⟩
          rw [fw3.2 47 _ rfl, fw3.2 54 _ rfl, v9, v3, hsz]
          have h9 := ih (ps ++ [y], rs, so + 2 * ((if b = 1 then wid T g y.1 else hei T g y.1) + g), wr (wr (wr τ 61 ((k : Int) + 1 + po) (τ.1 61 k)) 62 ((k : Int) + 1 + po) av) 63 ((k : Int) + 1 + po) dv) (by show rs.length < (y :: rs).length; simp) ⟨by show (ps ++ [y]) ++ rs = _; rw [← i1]; simp, n6, i3.tr fw3, fun j hj => ?_, fun i z hz => ?_⟩
          · simp only at h9
            have e1 : (fr ((ps ++ [y]).map Prod.fst)).length = po + (rc 0 y.1).length := by rw [List.map_append, fr_app, List.length_append, hpo]; simp [fr_one]
            rw [e1, List.length_append] at h9
            rw [show (k : Int) + 1 + ((po + (rc 0 y.1).length : Nat) : Int) = (k : Int) + 1 + po + (rc 0 y.1).length by omega, show ((ps.length + [y].length : Nat) : Int) = (ps.length : Int) + 1 by simp] at h9
            exact h9
          · have hj' : j ≠ (k : Int) + 1 + po := by omega
            obtain ⟨a1, a2, a3⟩ := x1 j hj'
            obtain ⟨b1, b2, b3⟩ := i4 j hj
            exact ⟨a1.trans b1, a2.trans b2, a3.trans b3⟩
          · show Pl _ T g sd ((k : Int) + 1 + (fr (((ps ++ [y]).take i).map Prod.fst)).length) z.1 z.2
            by_cases hi : i < ps.length
            · have hz' : ps[i]? = some z := by rw [← hz]; exact (List.getElem?_append_left hi).symm
              have et : (ps ++ [y]).take i = ps.take i := by rw [List.take_append_of_le_length (by omega)]
              rw [et]
              have hlt := fr_take_lt (ts := ps.map Prod.fst) (fun w hw => by
                obtain ⟨z2, hz2, rfl⟩ := List.mem_map.mp hw
                exact (hchok z2 (by rw [← i1]; simp [hz2])).1.1) (i := i) (by simpa using hi)
              rw [← List.map_take, hpo] at hlt
              exact (i5 i z hz').keep (x1 _ (by omega)) (by rw [fw3.2 _ _ rfl]; exact Int.le_refl _) (fun n _ => ⟨⟨fw3.2 _ _ rfl, fw3.2 _ _ rfl⟩, fw3.2 _ _ rfl, fw3.2 _ _ rfl, fw3.2 _ _ rfl, fw3.2 _ _ rfl⟩)
            · have hz2 := (List.getElem?_eq_some_iff.mp hz).1
              simp only [List.length_append, List.length_singleton] at hz2
              have hie : i = ps.length := by omega
              subst hie
              have hzy : z = y := by simpa using hz.symm
              subst hzy
              have et : (ps ++ [z]).take ps.length = ps := by simp
              rw [et, hpo]
              have f3 : Fr p3X τ0 (wr (wr (wr τ 61 ((k : Int) + 1 + po) (τ.1 61 k)) 62 ((k : Int) + 1 + po) av) 63 ((k : Int) + 1 + po) dv) := i3.tr fw3
              refine ⟨n0, L, U, ⟨x2.1, by rw [f3.2 _ _ rfl]; exact hg0.2⟩, ?_, ?_, ?_, ?_⟩
              · rw [n1, n2]
                exact hga.keep ⟨⟨f3.2 _ _ rfl, f3.2 _ _ rfl⟩, f3.2 _ _ rfl, f3.2 _ _ rfl, f3.2 _ _ rfl, f3.2 _ _ rfl⟩
              · rw [x2.2.1, x2.2.2]; exact n5
              · rw [x2.2.1, x2.2.2, n1]; exact ⟨n3, n4⟩
              · rw [n2]; exact hLU
        have st3 : ∀ dv', dv' = dv → WP E m_M_places (d + 1) 256 [(0, aP 42), (2, aI k), (3, aI b), (4, aI so), (5, aI ((k : Int) + 1 + po)), (6, aI ps.length)] [aI dv', aI ((k : Int) + 1 + po), aP 63] (wr (wr τ 61 ((k : Int) + 1 + po) (τ.1 61 k)) 62 ((k : Int) + 1 + po) av) R := by
          intro dv' hdv'
          subst hdv'
          have y1 : (wr (wr (wr τ 61 ((k : Int) + 1 + po) (τ.1 61 k)) 62 ((k : Int) + 1 + po) av) 63 ((k : Int) + 1 + po) dv').1 42 14 = 53 := ff_38 F3
          have y2 : (wr (wr (wr τ 61 ((k : Int) + 1 + po) (τ.1 61 k)) 62 ((k : Int) + 1 + po) av) 63 ((k : Int) + 1 + po) dv').1 42 13 = 52 := ff_37 F3
          refine b_M_places_256 _ _ _ _ _ _ _ _ ⟨⟨24, sf_63 F2, by omega, by omega, by omega⟩, by omega, fun c => ⟨sf_42 F3, ?_, ?_⟩, fun c => ⟨sf_42 F3, ?_, ?_⟩⟩
          · rw [y1]; exact ⟨24, sf_53 F3, by omega, by omega, by omega⟩
          · rw [y1]
            exact st4 _ (by rw [fw3.2 _ _ rfl, v2, if_neg (by omega)])
          · rw [y2]; exact ⟨24, sf_52 F3, by omega, by omega, by omega⟩
          · rw [y2]
            exact st4 _ (by rw [fw3.2 _ _ rfl, v1, if_pos (by omega)])
        have st2 : ∀ av', av' = av → WP E m_M_places (d + 1) 219 [(0, aP 42), (2, aI k), (3, aI b), (4, aI so), (5, aI ((k : Int) + 1 + po)), (6, aI ps.length)] [aI av', aI ((k : Int) + 1 + po), aP 62] (wr τ 61 ((k : Int) + 1 + po) (τ.1 61 k)) R := by
          intro av' hav'
          subst hav'
          have y1 : (wr (wr τ 61 ((k : Int) + 1 + po) (τ.1 61 k)) 62 ((k : Int) + 1 + po) av').1 42 26 = 63 := ff_48 F2
          have y2 : (wr (wr τ 61 ((k : Int) + 1 + po) (τ.1 61 k)) 62 ((k : Int) + 1 + po) av').1 42 14 = 53 := ff_38 F2
          have z1 : (wr (wr τ 61 ((k : Int) + 1 + po) (τ.1 61 k)) 62 ((k : Int) + 1 + po) av').1 63 k = dk := by rw [wr_na _ (by decide), wr_na _ (by decide)]; exact v8
          have z2 : (wr (wr τ 61 ((k : Int) + 1 + po) (τ.1 61 k)) 62 ((k : Int) + 1 + po) av').1 53 k = hk := by rw [wr_na _ (by decide), wr_na _ (by decide)]; exact v5
          have z3 : (wr (wr τ 61 ((k : Int) + 1 + po) (τ.1 61 k)) 62 ((k : Int) + 1 + po) av').1 53 ((k : Int) + 1 + po) = hei T g y.1 := by rw [wr_na _ (by decide), wr_na _ (by decide)]; exact v2
          refine b_M_places_219 _ _ _ _ _ _ _ _ ⟨⟨24, sf_62 F1, by omega, by omega, by omega⟩, sf_42 F2, by omega, fun c => ?_, fun c => ⟨sf_42 F2, ?_, sf_42 F2, ?_, sf_42 F2, ?_, ?_⟩⟩
          · rw [y1]
            exact st3 _ (by rw [← hdv, if_neg (by omega)])
          · rw [y1]; exact ⟨24, sf_63 F2, by omega, by omega, by omega⟩
          · rw [y2]; exact ⟨24, sf_53 F2, by omega, by omega, by omega⟩
          · rw [y2]; exact ⟨24, sf_53 F2, by omega, by omega, by omega⟩
          · rw [y1, y2, z1, z2, z3]
            exact st3 _ (by rw [← hdv, if_pos (by omega)])
        refine ⟨hkb, hpb, by omega, fun c2 => ⟨hkb, hkb, hpb, ?_⟩, fun c2 => ?_⟩
        · rw [v7, v4, v1]
          exact st2 _ (by rw [← hav, if_neg (by omega)])
        · exact st2 _ (by rw [← hav, if_pos (by omega)])
  have h9 := key ([], chq T g q u, so0, τ0) ⟨rfl, hchain, Fr.refl _ _, fun j hj => ⟨rfl, rfl, rfl⟩, fun i y hy => by simp at hy⟩
  simpa [fr_nil] using h9
end MParts
