/-! LINES READ -/
def rdSqs (tp : List Int) (T : Tb) : Nat → List Tr → Nat → Except Nat (List Tr × Nat)
  | 0, _, p => .error p
  | n + 1, acc, p => match rdSquare tp T p with
    | .error f => .error f
    | .ok (t, p1) => if byt tp (nbk tp p1) = 45 then (if acc.length + 1 = 8 then .error (nbk tp p1) else rdSqs tp T n (acc ++ [t]) (nbk tp p1 + 1)) else .ok (acc ++ [t], p1)
def rdLn (tp : List Int) (T : Tb) (p : Nat) : Except Nat (Ln × Nat) := match rdSqs tp T 8 [] (if isW tp p 5 then te tp p else p) with
  | .error f => .error f
  | .ok (L, p2) => match nMk tp 59 (.ok p2) with
    | .error f => .error f
    | .ok p3 => .ok ((isW tp p 5, L), p3)
def rlX : List (Int × Int) := (48, -1) :: rsX
def RlRes (σ : St) (tp : List Int) (T : Tb) (k : Nat) (o : Except Nat (Ln × Nat)) (τ : St) : Prop := match o with
  | .error f => τ.1 42 53 = 1 ∧ τ.1 42 51 = f
  | .ok (L, p1) => (τ.1 42 53 = 0 ∧ LA τ tp p1) ∧ okLn T L ∧ LnAt (τ.1 48) (3 + 170 * k) L ∧ τ.1 48 2 = (k : Int) + 1 ∧ ∀ j, j < 3 + 170 * (k : Int) → j ≠ 2 → τ.1 48 j = σ.1 48 j
section MLineR
variable {E : EV} {d : Nat} {σ : St} {tp : List Int} {T : Tb} {p k : Nat}
theorem c_M_readsLine (hF : Fix σ) (hTp : Tp σ tp) (hRd : RdT σ T) (hT : okTab T) (hw : σ.1 42 53 = 0) (hla : LA σ tp p) (hk : σ.1 48 2 = k) (hk4 : k < 4) : WMv E m_M_readsLine (d + 6) [aP 42] σ (fun τ => Fr rlX σ τ ∧ RlRes σ tp T k (rdLn tp T p) τ) := by
  have hx : (3 + (170 * (σ.1 48 2))) = 3 + 170 * (k : Int) := by rw [hk]
  refine e_M_readsLine hF ?_
  rw [hx]
  have fw0 : Fr [(48, -1)] σ (wr (wr σ 48 (3 + 170 * (k : Int)) 0) 48 (3 + 170 * (k : Int) + 1) 0) := (Fr.wr (frO_a (by decide) _)).tr (Fr.wr (frO_a (by decide) _))
  have v0 : (wr (wr σ 48 (3 + 170 * (k : Int)) 0) 48 (3 + 170 * (k : Int) + 1) 0).1 48 (3 + 170 * (k : Int)) = 0 := by rw [wr_nk _ (by omega), wr_same]
  have v1 : (wr (wr σ 48 (3 + 170 * (k : Int)) 0) 48 (3 + 170 * (k : Int) + 1) 0).1 48 (3 + 170 * (k : Int) + 1) = 0 := wr_same _ _ _ _
  have v2 : ∀ j, j < 3 + 170 * (k : Int) → (wr (wr σ 48 (3 + 170 * (k : Int)) 0) 48 (3 + 170 * (k : Int) + 1) 0).1 48 j = σ.1 48 j := fun j hj => by rw [wr_nk _ (by omega), wr_nk _ (by omega)]
  generalize wr (wr σ 48 (3 + 170 * (k : Int)) 0) 48 (3 + 170 * (k : Int) + 1) 0 = υ0 at *
  have F0 := fw0.fix hF (by decide)
  have Tp0 : Tp υ0 tp := hTp.keep fw0 rfl (fun _ => ⟨rfl, rfl⟩)
  have la0 : LA υ0 tp p := hla.keep fw0 ⟨rfl, rfl, rfl, rfl⟩
  have w0 : υ0.1 42 53 = 0 := (fw0.2 _ _ rfl).trans hw
  -- the end of it all
  have last : ∀ (ψ : St) (r : Except Nat Nat), Fr rlX σ ψ → Wr ψ tp r → ψ.1 48 2 = k → (∀ τ : St, Fr ndX ψ τ → Wr τ tp (nMk tp 59 r) → RlRes σ tp T k (rdLn tp T p) (wr τ 48 2 ((k : Int) + 1))) → WP E m_M_readsLine (d + 6) 191 [(0, aP 42)] [] ψ (fun r τ => r = none ∧ σ.2 <+: τ.2 ∧ Fr rlX σ τ ∧ RlRes σ tp T k (rdLn tp T p) τ) := by
    intro ψ r g1 g2 g3 g4
    have Fψ := g1.fix hF (by decide)
    refine b_M_readsLine_191 Fψ (WMv.mono (c_M_needsMark Fψ (hTp.keep g1 rfl (fun _ => ⟨rfl, rfl⟩)) g2 (by decide) (by decide) (by decide)) (fun τ pp qq => ?_))
    have e2 : τ.1 48 2 = k := (qq.1.2 _ _ rfl).trans g3
    rw [e2]
    have fall : Fr rlX σ (wr τ 48 2 ((k : Int) + 1)) := (g1.tr (qq.1.mono (by decide))).tr (Fr.wr (frO_a (by decide) _))
    exact ⟨qq.1.fix Fψ (by decide), rfl, pre_eq fall.1, fall, g4 τ qq.1 qq.2⟩
  have main : ∀ (ψ : St) (q : Nat) (lf : Bool), Fr rlX σ ψ → ψ.1 42 53 = 0 → LA ψ tp q → lf = isW tp p 5 → (∀ f, rdSqs tp T 8 [] q = .error f → rdLn tp T p = .error f) → (∀ L p2, rdSqs tp T 8 [] q = .ok (L, p2) → rdLn tp T p = match nMk tp 59 (.ok p2) with | .error f => .error f | .ok p3 => .ok ((lf, L), p3)) → LnAt (ψ.1 48) (3 + 170 * k) (lf, []) → (∀ j, j < 3 + 170 * (k : Int) → ψ.1 48 j = σ.1 48 j) → WP E m_M_readsLine (d + 6) 54 [(0, aP 42), (2, aI (3 + 170 * (k : Int))), (3, aI 1)] [] ψ (fun r τ => r = none ∧ σ.2 <+: τ.2 ∧ Fr rlX σ τ ∧ RlRes σ tp T k (rdLn tp T p) τ) := by
    intro ψ0 q0 lf a1 a2 a3 a4 a5 a6 a7 a8
    have key : ∀ z : Nat × List Tr × Nat × St, (z.1 + z.2.1.length = 8 ∧ 1 ≤ z.1 ∧ Fr rlX σ z.2.2.2 ∧ z.2.2.2.1 42 53 = 0 ∧ LA z.2.2.2 tp z.2.2.1 ∧ rdSqs tp T z.1 z.2.1 z.2.2.1 = rdSqs tp T 8 [] q0 ∧ LnAt (z.2.2.2.1 48) (3 + 170 * k) (lf, z.2.1) ∧ (∀ t ∈ z.2.1, okS T t) ∧ ∀ j, j < 3 + 170 * (k : Int) → z.2.2.2.1 48 j = σ.1 48 j) → WP E m_M_readsLine (d + 6) 54 [(0, aP 42), (2, aI (3 + 170 * (k : Int))), (3, aI 1)] [] z.2.2.2 (fun r τ => r = none ∧ σ.2 <+: τ.2 ∧ Fr rlX σ τ ∧ RlRes σ tp T k (rdLn tp T p) τ) := by
      refine lpx (fun z => z.1) _ _ (fun z hI ih => ?_)
      obtain ⟨n, acc, q, τ⟩ := z
      obtain ⟨i1, i2, i3, i4, i5, i6, i7, i8, i9⟩ := hI
      simp only at i1 i2 i3 i4 i5 i6 i7 i8 i9 ih ⊢
      have hFT := i3.fix hF (by decide)
      cases n with
      | zero => omega
      | succ n =>
        simp only [rdSqs] at i6
        refine b_M_readsLine_54 _ _ hFT ⟨by decide, fun q => absurd q (by decide), fun _ => ?_⟩
        rw [i4]
        refine ⟨by decide, fun q => absurd rfl q, fun _ => WMv.mono (c_M_readsSquare (d := d) hFT (hTp.keep i3 rfl (fun _ => ⟨rfl, rfl⟩)) (hRd.keep i3 (fun _ => ⟨rfl, rfl⟩)) hT i4 i5) (fun χ pp qq => ?_)⟩
        obtain ⟨f1, r1⟩ := qq
        have fχ : Fr rlX σ χ := i3.tr (f1.mono (by decide))
        have Fχ := fχ.fix hF (by decide)
        have rdχ : ∀ j, χ.1 48 j = τ.1 48 j := fun j => f1.2 _ _ rfl
        cases hsq : rdSquare tp T q with
        | error f =>
          rw [hsq] at r1 i6
          dsimp only at i6
          rw [r1.1]
          refine ⟨Fχ, by decide, fun q => absurd q (by decide), fun _ => ⟨rfl, pre_eq fχ.1, fχ, ?_⟩⟩
          rw [a5 f i6.symm]
          exact r1
        | ok v =>
          obtain ⟨t, p1⟩ := v
          rw [hsq] at r1 i6
          dsimp only at i6
          obtain ⟨⟨r2, r3⟩, r4, r5⟩ := r1
          have hrl := rc_len2 r5.1 0
          have h10 := r5.2.1
          have e3 : χ.1 48 (3 + 170 * (k : Int)) = acc.length := (rdχ _).trans i7.1
          rw [r2, e3, r4.1]
          refine ⟨Fχ, by decide, fun _ => ⟨by omega, by omega, ?_⟩, fun q => absurd rfl q⟩
          have hpos : (3 + 170 * (k : Int) + 2 + 21 * (acc.length : Int)) = 3 + 170 * (k : Int) + 2 + 21 * acc.length := rfl
          -- the square is copied
          have cp : ∀ y : Nat × St, (y.1 ≤ (rc 0 t).length ∧ Fr [(48, -1)] χ y.2 ∧ y.2.1 48 (3 + 170 * (k : Int) + 2 + 21 * acc.length) = (rc 0 t).length ∧ At (y.2.1 48) (3 + 170 * (k : Int) + 2 + 21 * acc.length + 1) ((rc 0 t).take y.1) ∧ ∀ j, j < 3 + 170 * (k : Int) + 2 + 21 * acc.length → y.2.1 48 j = τ.1 48 j) → WP E m_M_readsLine (d + 6) 106 [(0, aP 42), (2, aI (3 + 170 * (k : Int))), (4, aI (3 + 170 * (k : Int) + 2 + 21 * acc.length)), (5, aI y.1)] [] y.2 (fun r τ => r = none ∧ σ.2 <+: τ.2 ∧ Fr rlX σ τ ∧ RlRes σ tp T k (rdLn tp T p) τ) := by
            refine lpx (fun y => (rc 0 t).length - y.1) _ _ (fun y hI2 ih2 => ?_)
            obtain ⟨j, ξ⟩ := y
            obtain ⟨j1, j2, j3, j4, j5⟩ := hI2
            simp only at j1 j2 j3 j4 j5 ih2 ⊢
            have fξ : Fr rlX σ ξ := fχ.tr (j2.mono (by decide))
            have Fξ := fξ.fix hF (by decide)
            have oξ : ξ.1 42 12 = (rc 0 t).length := (j2.2 _ _ rfl).trans r4.1
            have Tpξ : Tp ξ tp := hTp.keep fξ rfl (fun _ => ⟨rfl, rfl⟩)
            refine b_M_readsLine_106 _ _ _ Fξ ⟨by omega, by rw [oξ]; omega, fun c => ?_, fun c => ⟨by rw [oξ] at c; omega, by rw [oξ] at c; omega, ?_⟩⟩
            · rw [oξ] at c
              rw [List.take_of_length_le (by omega)] at j4
              have e4 : ξ.1 48 (3 + 170 * (k : Int)) = acc.length := (j5 _ (by omega)).trans i7.1
              rw [e4]
              have fw5 : Fr [(48, -1)] ξ (wr ξ 48 (3 + 170 * (k : Int)) ((acc.length : Int) + 1)) := Fr.wr (frO_a (by decide) _)
              have ln5 : LnAt ((wr ξ 48 (3 + 170 * (k : Int)) ((acc.length : Int) + 1)).1 48) (3 + 170 * k) (lf, acc ++ [t]) := by
                refine ⟨by rw [wr_same, List.length_append]; simp, ?_, fun s u hu => ?_⟩
                · rw [wr_nk _ (by omega), j5 _ (by omega)]; exact i7.2.1
                · have hu' : (acc ++ [t])[s]? = some u := hu
                  by_cases hs : s < acc.length
                  · rw [List.getElem?_append_left hs] at hu'
                    have hur := rc_len2 (i8 u (List.mem_of_getElem? hu')).1 0
                    have hus := (i8 u (List.mem_of_getElem? hu')).2.1
                    refine (i7.2.2 s u hu').move (by omega) (fun x a b => ?_)
                    rw [wr_nk _ (by omega)]
                    exact j5 _ (by omega)
                  · have hlt := (List.getElem?_eq_some_iff.mp hu').1
                    simp only [List.length_append, List.length_singleton] at hlt
                    have hse : s = acc.length := by omega
                    subst hse
                    have hut : u = t := by simpa using hu'.symm
                    subst hut
                    exact ⟨by rw [wr_nk _ (by omega)]; exact j3, j4.congr (fun i hi => wr_nk _ (by omega))⟩
              have lo5 : ∀ j, j < 3 + 170 * (k : Int) → (wr ξ 48 (3 + 170 * (k : Int)) ((acc.length : Int) + 1)).1 48 j = σ.1 48 j := fun j hj => by rw [wr_nk _ (by omega), j5 _ (by omega)]; exact i9 j hj
              have ev5 : (wr ξ 48 (3 + 170 * (k : Int)) ((acc.length : Int) + 1)).1 48 (3 + 170 * (k : Int)) = (acc.length : Int) + 1 := wr_same _ _ _ _
              have ok5 : ∀ u ∈ acc ++ [t], okS T u := fun u hu => by
                rcases List.mem_append.mp hu with q | q
                · exact i8 u q
                · rw [List.mem_singleton] at q; subst q; exact r5
              generalize wr ξ 48 (3 + 170 * (k : Int)) ((acc.length : Int) + 1) = ω at *
              have Fω := fw5.fix Fξ (by decide)
              have fω : Fr rlX σ ω := fξ.tr (fw5.mono (by decide))
              have Tpω : Tp ω tp := Tpξ.keep fw5 rfl (fun _ => ⟨rfl, rfl⟩)
              have laω : LA ω tp p1 := (r3.keep j2 ⟨rfl, rfl, rfl, rfl⟩).keep fw5 ⟨rfl, rfl, rfl, rfl⟩
              have wω : ω.1 42 53 = 0 := (fw5.2 _ _ rfl).trans ((j2.2 _ _ rfl).trans r2)
              refine ⟨by omega, by omega, wmi_p (c_M_isMark Fω Tpω laω (by decide) (by decide) (by decide)) ⟨Fω, b2i_r _, fun c2 => ?_, fun c2 => ⟨by omega, ?_⟩⟩⟩
              · -- the line ends here
                have hb0 := c2
                rw [b2i_0] at c2
                rw [if_neg c2] at i6
                rw [b2i_f c2]
                refine b_M_readsLine_180 _ _ Fω ⟨by decide, fun _ => b_M_readsLine_188 _ _ (b_M_readsLine_54 _ _ Fω ⟨by decide, fun _ => last ω (.ok p1) fω ⟨wω, laω⟩ ((lo5 2 (by omega)).trans hk) (fun ζ g1 g2 => ?_), fun q => absurd rfl q⟩), fun q => absurd rfl q⟩
                rw [a6 _ _ i6.symm]
                cases hm : nMk tp 59 (.ok p1) with
                | error f =>
                  rw [hm] at g2
                  exact ⟨by rw [wr_na _ (by decide)]; exact g2.1, by rw [wr_na _ (by decide)]; exact g2.2⟩
                | ok p3 =>
                  rw [hm] at g2
                  have fz : Fr [(48, -1)] ζ (wr ζ 48 2 ((k : Int) + 1)) := Fr.wr (frO_a (by decide) _)
                  refine ⟨⟨by rw [wr_na _ (by decide)]; exact g2.1, g2.2.keep fz ⟨rfl, rfl, rfl, rfl⟩⟩, ⟨by simp; omega, ok5⟩, ?_, wr_same _ _ _ _, fun j hj hj2 => ?_⟩
                  · obtain ⟨l1, l2, l3⟩ := ln5
                    refine ⟨by rw [wr_nk _ (by omega), g1.2 _ _ rfl]; exact l1, by rw [wr_nk _ (by omega), g1.2 _ _ rfl]; exact l2, fun s u hu => ?_⟩
                    have hur := rc_len2 (ok5 u (List.mem_of_getElem? hu)).1 0
                    have hus := (ok5 u (List.mem_of_getElem? hu)).2.1
                    refine (l3 s u hu).move (by omega) (fun x a b => ?_)
                    rw [wr_nk _ (by omega), g1.2 _ _ rfl]
                  · rw [wr_nk _ hj2, g1.2 _ _ rfl]; exact lo5 j hj
              · rw [b2i_n0] at c2
                rw [if_pos c2] at i6
                rw [b2i_t c2, ev5]
                refine ⟨by omega, fun c3 => ?_, fun c3 => ?_⟩
                · rw [if_neg (by omega)] at i6
                  refine b_M_readsLine_180 _ _ Fω ⟨by decide, fun q => absurd q (by decide), fun _ => WMv.mono (mark_go Fω Tpω laω (by decide) (by decide) (by decide) c2) (fun ζ pp2 qq2 => b_M_readsLine_188 _ _ ?_)⟩
                  refine ih (n, acc ++ [t], nbk tp p1 + 1, ζ) (Nat.lt_succ_self n) ⟨by show n + (acc ++ [t]).length = 8; simp; omega, by show 1 ≤ n; omega, fω.tr (qq2.1.mono (by decide)), (qq2.1.2 _ _ rfl).trans wω, qq2.2, i6, ?_, ok5, fun j hj => (qq2.1.2 _ _ rfl).trans (lo5 j hj)⟩
                  obtain ⟨l1, l2, l3⟩ := ln5
                  refine ⟨(qq2.1.2 _ _ rfl).trans l1, (qq2.1.2 _ _ rfl).trans l2, fun s u hu => ?_⟩
                  have hur := rc_len2 (ok5 u (List.mem_of_getElem? hu)).1 0
                  have hus := (ok5 u (List.mem_of_getElem? hu)).2.1
                  exact (l3 s u hu).move (by omega) (fun x a b => qq2.1.2 _ _ rfl)
                · rw [if_pos (by omega)] at i6
                  have fz : Fr [(42, 53)] ω (wr ω 42 53 1) := Fr.wr (frO_k (by decide))
                  have Fz := fz.fix Fω (by decide)
                  refine b_M_readsLine_188 _ _ (b_M_readsLine_54 _ _ Fz ⟨by decide, fun q => absurd q (by decide), fun _ => ?_⟩)
                  have wz : (wr ω 42 53 1).1 42 53 = 1 := wr_same _ _ _ _
                  rw [wz]
                  refine ⟨by decide, fun _ => last _ (.error (nbk tp p1)) (fω.tr (fz.mono (by decide))) ⟨wz, by rw [wr_nk _ (by decide)]; exact laω.2.1⟩ (by rw [wr_na _ (by decide)]; exact (lo5 2 (by omega)).trans hk) (fun ζ g1 g2 => ?_), fun q => absurd q (by decide)⟩
                  rw [a5 _ i6.symm]
                  exact ⟨by rw [wr_na _ (by decide)]; exact g2.1, by rw [wr_na _ (by decide)]; exact g2.2⟩
            · rw [oξ] at c
              have hjl : j < (rc 0 t).length := by omega
              have hov : ξ.1 51 j = (rc 0 t).getD j 0 := by
                have := r4.2.get (k := j) (by omega) (by omega)
                rw [show ((j : Int) - 0).toNat = j by omega] at this
                exact (j2.2 _ _ rfl).trans this
              rw [hov]
              have h9 := ih2 (j + 1, wr ξ 48 (3 + 170 * (k : Int) + 2 + 21 * acc.length + 1 + j) ((rc 0 t).getD j 0)) (by show (rc 0 t).length - (j + 1) < (rc 0 t).length - j; omega) ⟨by show j + 1 ≤ _; omega, j2.tr (Fr.wr (frO_a (by decide) _)), ?_, ?_, fun i hi => ?_⟩
              · simp only at h9
                rw [show ((j + 1 : Nat) : Int) = (j : Int) + 1 by omega] at h9
                exact h9
              · show (wr ξ 48 (3 + 170 * (k : Int) + 2 + 21 * acc.length + 1 + j) ((rc 0 t).getD j 0)).1 48 _ = _
                rw [wr_nk _ (by omega)]; exact j3
              · show At ((wr ξ 48 (3 + 170 * (k : Int) + 2 + 21 * acc.length + 1 + j) ((rc 0 t).getD j 0)).1 48) _ ((rc 0 t).take (j + 1))
                rw [take_succ_getD hjl, At.app]
                refine ⟨j4.congr (fun i hi => ?_), ?_⟩
                · rw [List.length_take] at hi
                  exact wr_nk _ (by omega)
                · rw [At.cons]
                  refine ⟨?_, At.nil _ _⟩
                  rw [List.length_take, show min j (rc 0 t).length = j by omega, wr_same]
              · show (wr ξ 48 (3 + 170 * (k : Int) + 2 + 21 * acc.length + 1 + j) ((rc 0 t).getD j 0)).1 48 i = _
                rw [wr_nk _ (by omega)]; exact j5 i hi
          refine cp (0, _) ⟨Nat.zero_le _, Fr.wr (frO_a (by decide) _), wr_same _ _ _ _, At.nil _ _, fun j hj => ?_⟩
          show (wr χ 48 (3 + 170 * (k : Int) + 2 + 21 * acc.length) (rc 0 t).length).1 48 j = _
          rw [wr_nk _ (by omega)]; exact rdχ j
    exact key (8, [], q0, ψ0) ⟨rfl, by show 1 ≤ 8; decide, a1, a2, a3, rfl, a7, fun t ht => by simp at ht, a8⟩
  refine ⟨by omega, by omega, wmi_p (c_M_isWord F0 Tp0 la0 (by decide)) ⟨F0, b2i_r _, fun c => ?_, fun c => ⟨by omega, ?_⟩⟩⟩
  · rw [b2i_0] at c
    have hlf : isW tp p 5 = false := by simpa using c
    refine b_M_readsLine_52 _ (main υ0 p false (fw0.mono (by decide)) w0 la0 hlf.symm (fun f hf => ?_) (fun L p2 hL => ?_) ⟨v0, v1, fun s t ht => by simp at ht⟩ v2)
    · unfold rdLn; rw [hlf, if_neg (by decide), hf]
    · unfold rdLn; rw [hlf, if_neg (by decide), hL]
  · rw [b2i_n0] at c
    have ht1 := isW_1 (by decide) c
    have fw1 : Fr [(48, -1)] υ0 (wr υ0 48 (3 + 170 * (k : Int) + 1) 1) := Fr.wr (frO_a (by decide) _)
    have F1 := fw1.fix F0 (by decide)
    refine WMv.mono (LA.go F1 (Tp0.keep fw1 rfl (fun _ => ⟨rfl, rfl⟩)) (la0.keep fw1 ⟨rfl, rfl, rfl, rfl⟩) ht1 (Or.inl rfl)) (fun ψ pp qq => b_M_readsLine_52 _ (main ψ (te tp p) true (((fw0.mono (by decide)).tr (fw1.mono (by decide))).tr (qq.1.mono (by decide))) ?_ qq.2 c.symm (fun f hf => ?_) (fun L p2 hL => ?_) ⟨?_, ?_, fun s t ht => by simp at ht⟩ (fun j hj => ?_)))
    · rw [qq.1.2 _ _ rfl, fw1.2 _ _ rfl]; exact w0
    · unfold rdLn; rw [c, if_pos rfl, hf]
    · unfold rdLn; rw [c, if_pos rfl, hL]
    · rw [qq.1.2 _ _ rfl, wr_nk _ (by omega)]; exact v0
    · rw [qq.1.2 _ _ rfl, wr_same]; rfl
    · rw [qq.1.2 _ _ rfl, wr_nk _ (by omega)]; exact v2 j hj
end MLineR
