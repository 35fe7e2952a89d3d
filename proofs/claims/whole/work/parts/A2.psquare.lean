theorem byt_lt {tp : List Int} {i : Nat} {c : Int} (h : byt tp i = c) (hc : 0 ≤ c) : i < tp.length := Nat.not_le.mp (fun q => by unfold byt at h; rw [if_neg (by omega)] at h; omega)
theorem bgP_ok {tp : List Int} {T : Tb} {fs : List Fm2} {p s : Nat} (hT : okTab T) (hok : okFs T fs s) (hs : s ≤ 10) (hp : p ≤ tp.length) :
    (∀ g p1 s1, bgP tp T fs p s = .ok (.inl (g, p1, s1)) → okFs T (g :: fs) s1 ∧ (p < p1 ∧ p1 ≤ tp.length) ∧ s1 ≤ 10 ∧ (s1 = s ∨ s1 = s + 1) ∧ fs.length < 7) ∧
    (∀ t p1, bgP tp T fs p s = .ok (.inr (t, p1)) → okV T (crs fs) t ∧ sg t = 1 ∧ s + 1 ≤ 10 ∧ p < p1 ∧ p1 ≤ tp.length) := by
  have hcr := okFs_crs hok
  have hb := nbk_b hp
  unfold bgP
  by_cases c1 : byt tp (nbk tp p) = 40 ∧ fs.length < 7
  · rw [if_pos c1]
    have h1 := byt_lt c1.1 (by decide)
    refine ⟨fun g p1 s1 he => ?_, fun t p1 he => by simp at he⟩
    simp only [Except.ok.injEq, Sum.inl.injEq, Prod.mk.injEq] at he
    obtain ⟨rfl, rfl, rfl⟩ := he
    refine ⟨⟨trivial, trivial, ?_, fun l hl => (by cases hl), s, by simp [osg], hok⟩, by omega, hs, Or.inl rfl, c1.2⟩
    simp [crs]; exact hcr
  · rw [if_neg c1]
    by_cases c2 : letN tp p = -1 ∨ (T (letN tp p).toNat).1 = 0 ∨ 10 ≤ s
    · rw [if_pos c2]
      exact ⟨fun g p1 s1 he => by simp at he, fun t p1 he => by simp at he⟩
    · rw [if_neg c2]
      have hlb := letN_b (tp := tp) (p := p)
      have hl2 : 0 ≤ letN tp p ∧ letN tp p < 26 ∧ tk tp p = 1 ∧ te tp p = nbk tp p + 1 := by rcases hlb with q | q; exact absurd (Or.inl q) c2; exact q
      have h1 := (tk_1.mp hl2.2.2.1).1
      have hL26 : (letN tp p).toNat < 26 := by omega
      have tb := hT _ hL26
      have hne : (T (letN tp p).toNat).1 ≠ 0 := fun q => c2 (Or.inr (Or.inl q))
      have hs9 : s < 10 := Nat.not_le.mp (fun q => c2 (Or.inr (Or.inr q)))
      by_cases c3 : byt tp (nbk tp (nbk tp p + 1)) = 60
      · rw [if_pos c3]
        by_cases c4 : (T (letN tp p).toNat).2.2.1 = 0 ∨ 7 ≤ fs.length ∨ 3 ≤ crs fs
        · rw [if_pos c4]
          exact ⟨fun g p1 s1 he => by simp at he, fun t p1 he => by simp at he⟩
        · rw [if_neg c4]
          have h2 := byt_lt c3 (by decide)
          have h3 := nbk_b (tp := tp) (p := nbk tp p + 1) (by omega)
          refine ⟨fun g p1 s1 he => ?_, fun t p1 he => by simp at he⟩
          simp only [Except.ok.injEq, Sum.inl.injEq, Prod.mk.injEq] at he
          obtain ⟨rfl, rfl, rfl⟩ := he
          have hc0 : (T (letN tp p).toNat).2.2.1 ≠ 0 := fun q => c4 (Or.inl q)
          refine ⟨⟨trivial, trivial, ?_, fun l hl => ?_, s, by simp [osg], hok⟩, by omega, by omega, Or.inr rfl, Nat.not_le.mp (fun q => c4 (Or.inr (Or.inl q)))⟩
          · have : crs fs < 3 := Nat.not_le.mp (fun q => c4 (Or.inr (Or.inr q)))
            simp [crs]; omega
          · simp at hl
            subst hl
            exact ⟨hL26, by omega, by omega⟩
      · rw [if_neg c3]
        refine ⟨fun g p1 s1 he => by simp at he, fun t p1 he => ?_⟩
        simp only [Except.ok.injEq, Sum.inr.injEq, Prod.mk.injEq] at he
        obtain ⟨rfl, rfl⟩ := he
        exact ⟨⟨hL26, by show 0 < (T (letN tp p).toNat).1; omega, by show 0 + crs fs ≤ 3; omega⟩, rfl, by omega, by omega⟩
def fr0 : List Fm2 := [(none, none, none)]
def rdSquare (tp : List Int) (T : Tb) (p : Nat) : Except Nat (Tr × Nat) := runS tp T (tp.length + 1) fr0 p 0
def rsX : List (Int × Int) := (51, -1) :: (42, 12) :: (92, -1) :: sqX
def RsRes (tp : List Int) (T : Tb) (o : Except Nat (Tr × Nat)) (τ : St) : Prop := match o with
  | .error f => τ.1 42 53 = 1 ∧ τ.1 42 51 = f
  | .ok (t, p1) => (τ.1 42 53 = 0 ∧ LA τ tp p1) ∧ OwnIs τ (rc 0 t) ∧ okS T t
section MSquareR
variable {E : EV} {d : Nat} {σ : St} {tp : List Int} {T : Tb} {p : Nat}
theorem c_M_readsSquare (hF : Fix σ) (hTp : Tp σ tp) (hRd : RdT σ T) (hT : okTab T) (hw : σ.1 42 53 = 0) (hla : LA σ tp p) : WMv E m_M_readsSquare (d + 5) [aP 42] σ (fun τ => Fr rsX σ τ ∧ RsRes tp T (rdSquare tp T p) τ) := by
  have fw : Fr [(42, 66), (42, 70), (42, 71), (42, 72)] σ (wr (wr (wr (wr σ 42 66 0) 42 70 0) 42 71 0) 42 72 0) := (((Fr.wr (frO_k (by decide))).tr (Fr.wr (frO_k (by decide)))).tr (Fr.wr (frO_k (by decide)))).tr (Fr.wr (frO_k (by decide)))
  have o0 : (wr (wr (wr (wr σ 42 66 0) 42 70 0) 42 71 0) 42 72 0).1 42 70 = ((([] : List Fm2).length : Nat) : Int) := by rw [wr_nk _ (by decide), wr_nk _ (by decide), wr_same]; rfl
  have n0 : (wr (wr (wr (wr σ 42 66 0) 42 70 0) 42 71 0) 42 72 0).1 42 66 = ((0 : Nat) : Int) := by rw [wr_nk _ (by decide), wr_nk _ (by decide), wr_nk _ (by decide), wr_same]; rfl
  have w0 : (wr (wr (wr (wr σ 42 66 0) 42 70 0) 42 71 0) 42 72 0).1 42 71 = 0 := by rw [wr_nk _ (by decide), wr_same]
  have s0 : (wr (wr (wr (wr σ 42 66 0) 42 70 0) 42 71 0) 42 72 0).1 42 72 = 0 := wr_same _ _ _ _
  refine e_M_readsSquare hF ?_
  generalize wr (wr (wr (wr σ 42 66 0) 42 70 0) 42 71 0) 42 72 0 = υ at *
  have F0 := fw.fix hF (by decide)
  refine WMv.mono (c_M_opensGroup (n := 0) (f := none) (fs := []) (hi := 0) (ow := -1) F0 o0 (by decide) n0 (by omega) trivial ⟨rfl, Nat.le_refl _⟩) (fun τ1 p1 q1 => ?_)
  obtain ⟨f1, n1, fs1⟩ := q1
  have F1 := f1.fix F0 (by decide)
  have fr1 : Fr rsX σ τ1 := (fw.mono (by decide)).tr (f1.mono (by decide))
  -- the end
  have wrongEnd : ∀ ψ : St, Fr rsX σ ψ → ψ.1 42 53 = 1 → RsRes tp T (rdSquare tp T p) ψ → WP E m_M_readsSquare (d + 5) 57 [(0, aP 42)] [] ψ (fun r τ => r = none ∧ σ.2 <+: τ.2 ∧ Fr rsX σ τ ∧ RsRes tp T (rdSquare tp T p) τ) := by
    intro ψ g1 g2 g3
    refine b_M_readsSquare_57 (g1.fix hF (by decide)) ?_
    rw [g2]
    exact ⟨by decide, fun _ => ⟨rfl, pre_eq g1.1, g1, g3⟩, fun q => absurd q (by decide)⟩
  have key : ∀ z : Nat × List Fm2 × Nat × Nat × Nat × St, (Fr rsX σ z.2.2.2.2.2 ∧ SQ z.2.2.2.2.2 tp T z.2.1 z.2.2.2.1 z.2.2.2.2.1 z.2.2.2.2.1 ∧ z.2.2.2.2.2.1 42 53 = 0 ∧ LA z.2.2.2.2.2 tp z.2.2.1 ∧ okFs T z.2.1 z.2.2.2.1 ∧ (1 ≤ z.2.1.length ∧ z.2.1.length ≤ 7) ∧ z.2.2.2.1 ≤ 10 ∧ z.2.2.2.2.1 ≤ 2 + 14 * z.2.2.2.1 + 2 * (z.2.1.length - 1) ∧ tp.length + 1 ≤ z.1 + z.2.2.1 ∧ runS tp T z.1 z.2.1 z.2.2.1 z.2.2.2.1 = rdSquare tp T p) → WP E m_M_readsSquare (d + 5) 27 [(0, aP 42), (1, aI 1)] [] z.2.2.2.2.2 (fun r τ => r = none ∧ σ.2 <+: τ.2 ∧ Fr rsX σ τ ∧ RsRes tp T (rdSquare tp T p) τ) := by
    refine lpx (fun z => z.1) _ _ (fun z hI ih => ?_)
    obtain ⟨m, fs, q, s, n, τ⟩ := z
    obtain ⟨i1, i2, i3, i4, i5, i6, i7, i8, i9, i10⟩ := hI
    simp only at i1 i2 i3 i4 i5 i6 i7 i8 i9 i10 ih ⊢
    have hFT := i2.1.1
    have hql := i4.1
    cases m with
    | zero => omega
    | succ m =>
      simp only [runS] at i10
      obtain ⟨bg1, bg2⟩ := bgP_ok (p := q) hT i5 i7 hql
      refine b_M_readsSquare_27 _ hFT ⟨by decide, fun q => absurd q (by decide), fun _ => ?_⟩
      rw [i3]
      refine ⟨by decide, fun q => absurd rfl q, fun _ => WMi.mono (c_M_beginsPart i2 i3 i4 hT i5 i6 i7 (by omega)) (fun r ψ pp qq => ?_)⟩
      obtain ⟨g1, g2⟩ := qq
      have fψ : Fr rsX σ ψ := i1.tr (g1.mono (by decide))
      have Fψ := fψ.fix hF (by decide)
      cases hbg : bgP tp T fs q s with
      | error f =>
        rw [hbg] at g2 i10
        obtain ⟨rfl, g3, g4⟩ := g2
        dsimp only at i10
        refine ⟨Fψ, by decide, fun _ => b_M_readsSquare_54 _ (b_M_readsSquare_27 _ Fψ ⟨by decide, fun q => absurd q (by decide), fun _ => ?_⟩), fun q => absurd rfl q⟩
        rw [g3]
        refine ⟨by decide, fun _ => wrongEnd ψ fψ g3 ?_, fun q => absurd q (by decide)⟩
        rw [← i10]
        exact ⟨g3, g4⟩
      | ok v =>
        cases v with
        | inl w =>
          obtain ⟨g, p1, s1⟩ := w
          rw [hbg] at g2 i10
          obtain ⟨rfl, g3, g4, n', g5, g6, g7⟩ := g2
          dsimp only at i10
          obtain ⟨k1, k2, k3, k4, k5⟩ := bg1 g p1 s1 hbg
          refine ⟨Fψ, by decide, fun _ => b_M_readsSquare_54 _ ?_, fun q => absurd rfl q⟩
          refine ih (m, g :: fs, p1, s1, n', ψ) (Nat.lt_succ_self m) ⟨fψ, g5, g3, g4, k1, by simp; omega, k3, ?_, by show tp.length + 1 ≤ m + p1; omega, i10⟩
          show n' ≤ 2 + 14 * s1 + 2 * ((g :: fs).length - 1)
          simp only [List.length_cons]
          rcases k4 with q | q
          · have := g7 q; omega
          · omega
        | inr w =>
          obtain ⟨t, p1⟩ := w
          rw [hbg] at g2 i10
          obtain ⟨rfl, g3, g4, g5, g6⟩ := g2
          dsimp only at i10
          obtain ⟨k1, k2, k3, k4⟩ := bg2 t p1 hbg
          have hfne : fs ≠ [] := fun q => by rw [q] at i6; simp at i6
          have epp := endP_pos (tp := tp) (fs := fs) (t := t) (p := p1) k4.2
          have eok := okFs_end (T := T) (tp := tp) (fs := fs) (t := t) (p := p1) (s := s) hfne i5 k1
          have hend : WMi E m_M_endsPart (d + 4) [aP 42, aI n] ψ (fun v υ => Fr sqX ψ υ ∧ EnRes tp T (s + 1) (n + 1) (endP tp fs t p1) v υ) := e_M_endsPart _ (l_M_endsPart (σ := ψ) fs ψ n (n + 1) n p1 s t (Fr.refl _ _) g5 g6 g3 g4 i5 k1 (by omega) hfne i6.2 (by omega))
          refine ⟨Fψ, by omega, fun q => by omega, fun _ => WMi.mono hend (fun v χ pp2 qq2 => ?_)⟩
          obtain ⟨e1, e2⟩ := qq2
          have fχ : Fr rsX σ χ := fψ.tr (e1.mono (by decide))
          have Fχ := fχ.fix hF (by decide)
          cases hen : endP tp fs t p1 with
          | error f =>
            rw [hen] at e2 i10
            obtain ⟨rfl, e3, e4⟩ := e2
            dsimp only at i10
            refine b_M_readsSquare_54 _ (b_M_readsSquare_27 _ Fχ ⟨by decide, fun _ => wrongEnd χ fχ e3 ?_, fun q => absurd rfl q⟩)
            rw [← i10]
            exact ⟨e3, e4⟩
          | ok v2 =>
            cases v2 with
            | inl w2 =>
              obtain ⟨gs, p2⟩ := w2
              rw [hen] at e2 i10
              obtain ⟨rfl, e3, e4, n', e5, e6⟩ := e2
              dsimp only at i10
              obtain ⟨m1, m2, m3⟩ := eok.1 gs p2 hen
              have m4 := epp.1 gs p2 hen
              rw [k2] at m1
              refine b_M_readsSquare_54 _ (ih (m, gs, p2, s + 1, n', χ) (Nat.lt_succ_self m) ⟨fχ, e5, e3, e4, m1, ?_, k3, ?_, by show tp.length + 1 ≤ m + p2; omega, i10⟩)
              · show 1 ≤ gs.length ∧ gs.length ≤ 7
                have : 0 < gs.length := List.length_pos_iff.mpr m2
                omega
              · show n' ≤ 2 + 14 * (s + 1) + 2 * (gs.length - 1)
                omega
            | inr w2 =>
              obtain ⟨u, p2⟩ := w2
              rw [hen] at e2 i10
              obtain ⟨rfl, e3, e4, ow, R, P, e5, e6, e7, e8⟩ := e2
              dsimp only at i10
              obtain ⟨m1, m2⟩ := eok.2 u p2 hen
              have hsu : sg u ≤ 10 := by omega
              rw [← i10]
              refine b_M_readsSquare_54 _ (b_M_readsSquare_27 _ Fχ ⟨by decide, fun _ => b_M_readsSquare_57 Fχ ?_, fun q => absurd rfl q⟩)
              rw [e3]
              obtain ⟨-, ⟨base, A, r, h1, h2, h3, h4, h5, h6⟩, ho, -, -, -⟩ := e5
              have ho' : χ.1 42 70 = ((0 : Nat) : Int) := by rw [ho]; rfl
              have mR : ∀ t', R = some t' → mny 2 t' ≤ 1000 := fun t' ht' => by have := e8 t' ht'; have := mny_le (s := 2) this.1; omega
              have mP := mny_le (s := 1) e7.1
              have mU := mny_le (s := 2) m1.1
              refine ⟨by decide, fun q => absurd rfl q, fun _ => WMi.mono (c_M_endsGroup (i := 0) Fχ (by decide) ho' h2.1 h2.2 (by omega) h3 h4 (by omega) mR (by rw [e6]; omega)) (fun g ζ pp3 qq3 => ?_)⟩
              obtain ⟨f3, ⟨g', rfl, nd3⟩, ag3⟩ := qq3
              rw [e6] at nd3
              have Fζ := f3.fix Fχ (by decide)
              refine ⟨Fζ, WMv.mono (c_M_flattens Fζ nd3 (by omega) m1.1 hsu) (fun ξ pp4 qq4 => ?_)⟩
              have fξ : Fr rsX σ ξ := (fχ.tr (f3.mono (by decide))).tr (qq4.1.mono (by decide))
              refine ⟨rfl, pre_eq fξ.1, fξ, ⟨?_, ?_⟩, qq4.2, m1.1, hsu, by have := m1.2.2; omega, m1.2.1⟩
              · rw [qq4.1.2 _ _ rfl, f3.2 _ _ rfl]; exact e3
              · exact (e4.keep f3 ⟨rfl, rfl, rfl, rfl⟩).keep qq4.1 ⟨rfl, rfl, rfl, rfl⟩
  refine key (tp.length + 1, fr0, p, 0, 0 + 2, τ1) ⟨fr1, ⟨⟨F1, (hTp.keep fw rfl (fun _ => ⟨rfl, rfl⟩)).keep f1 rfl (fun _ => ⟨rfl, rfl⟩), (hRd.keep fw (fun _ => ⟨rfl, rfl⟩)).keep f1 (fun _ => ⟨rfl, rfl⟩)⟩, fs1, ?_, ?_, ?_, ?_⟩, ?_, ?_, ⟨trivial, trivial, by decide, fun l hl => (by cases hl), 0, rfl, rfl⟩, ⟨Nat.le_refl 1, by show 1 ≤ 7; decide⟩, by show 0 ≤ 10; omega, by show 0 + 2 ≤ 2 + 14 * 0 + 2 * 0; omega, by show tp.length + 1 ≤ tp.length + 1 + p; omega, rfl⟩
  · rw [f1.2 _ _ rfl, o0]; rfl
  · rw [f1.2 _ _ rfl, w0]; rfl
  · rw [f1.2 _ _ rfl, s0]; rfl
  · rw [n1]; rfl
  · show τ1.1 42 53 = 0
    rw [f1.2 _ _ rfl, fw.2 _ _ rfl]; exact hw
  · exact (hla.keep fw ⟨rfl, rfl, rfl, rfl⟩).keep f1 ⟨rfl, rfl, rfl, rfl⟩
end MSquareR
