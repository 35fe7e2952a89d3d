/-! THE SEARCH, and the calls that stand on it -/
theorem bstO_c {T : Tb} {M M' : Mo} (t : Tr) (h1 : M'.1 = M.1) (h2 : M'.2.1 = M.2.1) : bstO T M' t = bstO T M t := by
  have e : gr T M' = gr T M := by funext s; unfold gr; rw [h1, h2]
  have e2 : btr T M' = btr T M := by funext c b; unfold btr; rw [e]
  have e3 : nxtB T M' = nxtB T M := by funext o c; unfold nxtB; rw [e2]
  unfold bstO bstF
  rw [e3]
section CArr4
variable {E : EV} {d : Nat} {σ : St} {T : Tb} {M : Mo} {b : Int} {t : Tr} {P : List Mo} {tp : List Int}
theorem c_Arranger_find {x : Int} (h : CS σ b T M P tp) (hT : okTab T) (hk : okMo T M) (hx : SqC b σ x t) (ht : okS T t) (h6 : so t ≤ 6) : WMv E m_Arranger_find (d + 10) [aP 32, aP x, aP (σ.1 1 0), aP (σ.1 1 1), aP 10] σ (fun τ => ∃ u, bstO T M t = some u ∧ okS T u ∧ Cf 2 25 kX σ τ ∧ SqC σ.2.length τ (τ.1 32 13) u ∧ τ.1 32 10 = x ∧ τ.1 32 11 = M.1 ∧ τ.1 32 12 = M.2.1) := by
  have hF := h.1.1
  have hb := h.1.2.1
  have hl0 := hF.len
  have hx92 : CdB 92 σ x (cC t) := hx.lo hb
  have hcc := ht.cc
  have h1 := so_pos ht.1
  have hg := hk.2.1
  have hM := hk.1
  have hmo := h.2.1.2
  have sh_mo : ∀ {n m : Nat} {X : List (Int × Int)} {τ : St}, Cf n m X σ τ → imX X = true → sh τ (σ.1 1 1) = some (4, 3) ∧ τ.1 (σ.1 1 1) 1 = M.1 ∧ τ.1 (σ.1 1 1) 2 = M.2.1 := fun hc hX => by
    have := hmo.cf hc hX hb
    exact ⟨this.2.1, this.2.2.2.1.1, this.2.2.2.1.2⟩
  refine e_Arranger_find _ _ _ _ hF (WMi.mono (c_Arranger_makeSigns (g := M.2.1) hF hx92 h.2.1.1 hT ht.1 (by omega) h6) (fun r τ0 p0 q0 => ?_))
  obtain ⟨rfl, f0, C0, S0⟩ := q0
  -- what comes behind the loops
  have fin : ∀ (τ : St) (F : List Tr) (n : Int), rI n → (so t : Int) < n → Fr fpX σ τ → FoC τ T M.2.1 t F → SpC τ F 0 (so t) → WP E m_Arranger_find (d + 10) 11 [(0, aP 32), (1, aP x), (3, aP (σ.1 1 1)), (4, aP 10), (5, aI (so t)), (6, aI n)] [] τ (fun r τ => r = none ∧ σ.2 <+: τ.2 ∧ ∃ u, bstO T M t = some u ∧ okS T u ∧ Cf 2 25 kX σ τ ∧ SqC σ.2.length τ (τ.1 32 13) u ∧ τ.1 32 10 = x ∧ τ.1 32 11 = M.1 ∧ τ.1 32 12 = M.2.1) := by
    intro τ F n hn hlt f1 C1 S1
    have F1 := f1.fix hF (by decide)
    refine b_Arranger_find_11 _ _ _ _ _ F1 ⟨hn, by omega, fun _ => ⟨F1.dr.2.1, WMv.mono (c_Draft_clear F1.dr) (fun τ3 p3 q3 => ?_)⟩, fun c => absurd hlt c⟩
    have F3 := q3.1.fix F1 (by decide)
    have f3 : Fr (fpX ++ dX 10 11) σ τ3 := f1.trans q3.1
    have C3 := Fr.foc C1 q3.1 rfl dX_fo
    have S3 : SpC τ3 F 0 (so t) := by
      have := S1.mono (τ := τ3) [] ⟨q3.1.2 _ _ rfl, q3.1.2 _ _ rfl⟩
      rw [List.append_nil] at this
      exact this
    have m3 := sh_mo (f3.cf 0 0) rfl
    refine ⟨F3, ?_⟩
    have sp := c_Arranger_spanOfSigns (E := E) (d := d + 8) (σ := τ3) (f := 0) (n := so t) (by omega) (by omega)
    rw [show ((0 : Nat) : Int) * 7 + ((so t : Nat) : Int) = (so t : Int) by omega] at sp
    refine wmi_p sp ⟨F3, m3.1, ?_⟩
    rw [m3.2.1]
    refine WMi.mono (c_Arranger_bestForm F3 C3 hT hg hM ht.1 h1 h6 S3) (fun r τ4 p4 q4 => ?_)
    obtain ⟨⟨i, m, rfl, hi, hm, hmin⟩, rfl⟩ := q4
    have hbst := bstO_gS (T := T) (M := M) ht.1 h1 h6 hm hmin
    have hmk := gS_ok 6 0 (so t) h1 h6 (by omega) m hm
    have hml : (lv m).length = so t := by rw [hmk.2, List.length_range']
    have huk := sbs_okS ht hmk.1 (by rw [hmk.2, List.range_eq_range'])
    have huc := huk.1.cc
    have S4 := hx92.cf (f3.cf 0 0) (imX_lt rfl (by omega))
    refine ⟨F3, WMv.mono (c_Arranger_write ht.1 (by omega) m (d + 9) i 0 [] τ4 F3 C3 hi S4 q3.2 (by omega) (by omega) (by omega) (by simp only [List.length_nil]; omega)) (fun τ5 p5 q5 => ?_)⟩
    rw [List.nil_append] at q5
    have F5 := q5.1.fix F3 (by decide)
    have f5 : Fr (fpX ++ dX 10 11) σ τ5 := f3.tr (q5.1.mono (by decide))
    refine ⟨F5, q5.2.1.2.1, WMr.mono (c_Draft_made q5.2 (by omega)) (fun v τ6 p6 q6 => ?_)⟩
    obtain ⟨rfl, c6, s6⟩ := q6
    have F6 := c6.fix F5 rfl
    have l5 : τ5.2.length = σ.2.length := by rw [f5.1]
    have c7 : Cf 2 25 kX σ τ6 := ((f5.cf 0 0).mono (Nat.le_refl _) (Nat.le_refl _) (by decide)).tr (c6.mono (n' := 2) (m' := 25) (Y := kX) (Nat.le_refl _) (by omega) rfl) |>.mono (by omega) (by omega) (by decide)
    have m6 := sh_mo c7 rfl
    have l1 := (sh_len hmo.2.1).2
    have nex : σ.1 1 1 ≠ 32 := by
      have := hmo.1.1
      unfold imA at this
      omega
    have s6' : SqC σ.2.length τ6 (nx τ5) (sbs (oS t) m) := by
      rw [← l5]; exact s6
    have hnx : nx τ5 = (σ.2.length : Int) + 1 := by unfold nx; rw [l5]
    have e1 : (wr (wr τ6 32 13 (nx τ5)) 32 10 x).1 (σ.1 1 1) 1 = M.1 := by rw [wr_na _ nex, wr_na _ nex]; exact m6.2.1
    have e2 : (wr (wr (wr τ6 32 13 (nx τ5)) 32 10 x) 32 11 M.1).1 (σ.1 1 1) 2 = M.2.1 := by rw [wr_na _ nex, wr_na _ nex, wr_na _ nex]; exact m6.2.2
    rw [e1, e2]
    have c8 : Cf 2 25 kX σ (wr (wr (wr (wr τ6 32 13 (nx τ5)) 32 10 x) 32 11 M.1) 32 12 M.2.1) := (((c7.wr_ (frO_k (by decide))).wr_ (frO_k (by decide))).wr_ (frO_k (by decide))).wr_ (frO_k (by decide))
    refine ⟨F6, m6.1, m6.1, rfl, c8.1, sbs (oS t) m, hbst, huk.1, c8, ?_, ?_, ?_, ?_⟩
    · have e3 : (wr (wr (wr (wr τ6 32 13 (nx τ5)) 32 10 x) 32 11 M.1) 32 12 M.2.1).1 32 13 = nx τ5 := by rw [wr_nk _ (by decide), wr_nk _ (by decide), wr_nk _ (by decide), wr_same]
      rw [e3]
      have ea : ∀ a, a ≠ 32 → (wr (wr (wr (wr τ6 32 13 (nx τ5)) 32 10 x) 32 11 M.1) 32 12 M.2.1).1 a = τ6.1 a := fun a ha => by funext k; rw [wr_na _ ha, wr_na _ ha, wr_na _ ha, wr_na _ ha]
      obtain ⟨⟨b1, b2⟩, b3, b4, b5⟩ := s6'
      refine ⟨⟨b1, ?_⟩, b3, ?_, ?_⟩
      · rw [ea _ (by omega)]; exact b2
      · rw [ea _ (by omega)]; exact b4
      · rw [ea (nx τ5) (by omega), ea (τ6.1 (nx τ5) 0) (by omega)]; exact b5
    · rw [wr_nk _ (by decide), wr_nk _ (by decide), wr_same]
    · rw [wr_nk _ (by decide), wr_same]
    · rw [wr_same]
  -- the loop over how many
  have key : ∀ z : Nat × St × List Tr, ((2 ≤ z.1 ∧ z.1 ≤ so t + 1) ∧ Fr fpX σ z.2.1 ∧ FoC z.2.1 T M.2.1 t z.2.2 ∧ z.2.2.length = cT (so t) z.1 ∧ ∀ f' n', 1 ≤ n' → n' < z.1 → f' + n' ≤ so t → SpC z.2.1 z.2.2 f' n') → WP E m_Arranger_find (d + 10) 11 [(0, aP 32), (1, aP x), (3, aP (σ.1 1 1)), (4, aP 10), (5, aI (so t)), (6, aI z.1)] [] z.2.1 (fun r τ => r = none ∧ σ.2 <+: τ.2 ∧ ∃ u, bstO T M t = some u ∧ okS T u ∧ Cf 2 25 kX σ τ ∧ SqC σ.2.length τ (τ.1 32 13) u ∧ τ.1 32 10 = x ∧ τ.1 32 11 = M.1 ∧ τ.1 32 12 = M.2.1) := by
    refine lpx (fun z => 10 - z.1) _ _ (fun z hI ih => ?_)
    obtain ⟨n, τ, F⟩ := z
    obtain ⟨i1, i2, i3, i4, i5⟩ := hI
    simp only at i1 i2 i3 i4 i5 ih ⊢
    by_cases q : so t < n
    · exact fin τ F n (by omega) (by omega) i2 i3 (i5 0 (so t) h1 q (by omega))
    · have F1 := i2.fix hF (by decide)
      refine b_Arranger_find_11 _ _ _ _ _ F1 ⟨by omega, by omega, fun c => by omega, fun _ => ?_⟩
      have inner : ∀ z : Nat × St × List Tr, (z.1 + n ≤ so t + 1 ∧ Fr fpX σ z.2.1 ∧ FoC z.2.1 T M.2.1 t z.2.2 ∧ z.2.2.length = cT (so t) n + z.1 * cN n ∧ ∀ f' n', 1 ≤ n' → (n' < n ∨ (n' = n ∧ f' < z.1)) → f' + n' ≤ so t → SpC z.2.1 z.2.2 f' n') → WP E m_Arranger_find (d + 10) 21 [(0, aP 32), (1, aP x), (3, aP (σ.1 1 1)), (4, aP 10), (5, aI (so t)), (6, aI n), (7, aI z.1)] [] z.2.1 (fun r τ => r = none ∧ σ.2 <+: τ.2 ∧ ∃ u, bstO T M t = some u ∧ okS T u ∧ Cf 2 25 kX σ τ ∧ SqC σ.2.length τ (τ.1 32 13) u ∧ τ.1 32 10 = x ∧ τ.1 32 11 = M.1 ∧ τ.1 32 12 = M.2.1) := by
        refine lpx (fun z => 10 - z.1) _ _ (fun z hI ih2 => ?_)
        obtain ⟨f, υ, G⟩ := z
        obtain ⟨j1, j2, j3, j4, j5⟩ := hI
        simp only at j1 j2 j3 j4 j5 ih2 ⊢
        have F2 := j2.fix hF (by decide)
        refine b_Arranger_find_21 _ _ _ _ _ _ F2 ⟨by omega, by omega, fun c => ?_, fun c => ?_⟩
        · obtain rfl : f = so t + 1 - n := by omega
          have h9 := ih (n + 1, υ, G) (by show 10 - (n + 1) < 10 - n; omega) ⟨⟨by show 2 ≤ n + 1; omega, by show n + 1 ≤ _; omega⟩, j2, j3, by show G.length = cT (so t) (n + 1); rw [j4]; rfl, fun f' n' k1 k2 k3 => by
            have k2' : n' < n + 1 := k2
            exact j5 f' n' k1 (by omega) k3⟩
          simp only at h9
          rw [show ((n + 1 : Nat) : Int) = (n : Int) + 1 by omega] at h9
          exact h9
        · have hfn : f + n ≤ so t := by omega
          have m2 := sh_mo (j2.cf 0 0) rfl
          rw [m2.2.2]
          have hgl := gS_len (f := f) (n := n) (by omega) (by omega)
          have hcb := cT_b h6 hfn
          refine ⟨m2.1, WMv.mono (c_Arranger_makeSpan (d := d + 6) F2 j3 hT hg ht.1 i1.1 (by omega) (fun f' n' k1 k2 k3 k4 => j5 f' n' k1 (Or.inl k2) (by omega)) (by omega)) (fun ψ hp hq => ?_)⟩
          obtain ⟨g1, g2, g3, g4⟩ := hq
          have h9 := ih2 (f + 1, ψ, G ++ gS f n) (by show 10 - (f + 1) < 10 - f; omega) ⟨by show f + 1 + n ≤ _; omega, j2.tr g1, g2, by show (G ++ gS f n).length = cT (so t) n + (f + 1) * cN n; rw [List.length_append, hgl, j4, Nat.succ_mul]; omega, fun f' n' k1 k2 k3 => by
            have k2' : n' < n ∨ (n' = n ∧ f' < f + 1) := k2
            show SpC ψ (G ++ gS f n) f' n'
            by_cases qq : n' = n ∧ f' = f
            · obtain ⟨rfl, rfl⟩ := qq; exact g3
            · refine (j5 f' n' k1 (by omega) k3).mono _ (g4 _ (by omega))⟩
          simp only at h9
          rw [show ((f + 1 : Nat) : Int) = (f : Int) + 1 by omega] at h9
          exact h9
      have h9 := inner (0, τ, F) ⟨by show 0 + n ≤ _; omega, i2, i3, by show F.length = cT (so t) n + 0 * cN n; rw [i4]; omega, fun f' n' k1 k2 k3 => i5 f' n' k1 (by
        have k2' : n' < n ∨ (n' = n ∧ f' < 0) := k2
        omega) k3⟩
      exact h9
  have h9 := key (2, τ0, vs (so t)) ⟨⟨Nat.le_refl 2, by show 2 ≤ so t + 1; omega⟩, f0, C0, by
    show (vs (so t)).length = cT (so t) 2
    rw [vs_l]
    show so t = 0 + (so t + 1 - 0) * cN 0 + (so t + 1 - 1) * cN 1
    simp [cN], fun f' n' k1 k2 k3 => by
    have k2' : n' < 2 := k2
    obtain rfl : n' = 1 := by omega
    exact S0 f' (by omega)⟩
  exact h9
theorem c_Arranger_knows {x : Int} (h : CS σ b T M P tp) (hk : okMo T M) (h0 : 0 ≤ σ.1 32 10) (h1 : rI (σ.1 32 11)) (h2 : rI (σ.1 32 12)) (hx : 0 ≤ x) : WMi E m_Arranger_knows d [aP 32, aP x, aP (σ.1 1 1)] σ (fun r τ => r = b2i (σ.1 32 10 = x ∧ σ.1 32 11 = M.1 ∧ σ.1 32 12 = M.2.1) ∧ τ = σ) := by
  have hmo := h.2.1.2
  have e1 := hmo.2.2.2.1.1
  have e2 := hmo.2.2.2.1.2
  have k1 := hk.1
  have k2 := hk.2.1
  refine e_Arranger_knows _ _ h.1.1 ⟨h0, hx, fun c => ri_p (b2i_f (by omega)).symm, fun c => ⟨hmo.2.1, h1, by omega, fun c2 => ri_p (b2i_f (by omega)).symm, fun c2 => ⟨hmo.2.1, h2, by omega, fun c3 => ri_p (b2i_f (by omega)).symm, fun c3 => ri_p (b2i_t (by omega)).symm⟩⟩⟩
end CArr4
