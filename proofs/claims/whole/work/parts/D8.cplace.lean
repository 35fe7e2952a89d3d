/-! THE LAYOUT: places -/
def Ld (σ : St) (j : Int) (q : Qd) : Prop := σ.1 27 j = q.1 ∧ σ.1 28 j = q.2.1 ∧ σ.1 29 j = q.2.2.1 ∧ σ.1 30 j = q.2.2.2
def ly4 (σ : St) (i : Int) (q : Qd) : St := wr (wr (wr (wr σ 27 i q.1) 28 i q.2.1) 29 i q.2.2.1) 30 i q.2.2.2
def pcX : List (Int × Int) := [(27, -1), (28, -1), (29, -1), (30, -1)]
theorem ly4_fr (σ : St) (i : Int) (q : Qd) : Fr pcX σ (ly4 σ i q) := (((Fr.wr (frO_a (by decide) _)).tr (Fr.wr (frO_a (by decide) _))).tr (Fr.wr (frO_a (by decide) _))).tr (Fr.wr (frO_a (by decide) _))
theorem ly4_same (σ : St) (i : Int) (q : Qd) : Ld (ly4 σ i q) i q := by
  unfold Ld ly4
  refine ⟨?_, ?_, ?_, ?_⟩
  · rw [wr_na _ (by decide), wr_na _ (by decide), wr_na _ (by decide), wr_same]
  · rw [wr_na _ (by decide), wr_na _ (by decide), wr_same]
  · rw [wr_na _ (by decide), wr_same]
  · rw [wr_same]
/-- the places' rows agree at j -/
def Ag (σ τ : St) (j : Int) : Prop := τ.1 27 j = σ.1 27 j ∧ τ.1 28 j = σ.1 28 j ∧ τ.1 29 j = σ.1 29 j ∧ τ.1 30 j = σ.1 30 j
theorem ly4_ag (σ : St) (i : Int) (q : Qd) {j : Int} (h : j ≠ i) : Ag σ (ly4 σ i q) j := by
  unfold Ag ly4
  refine ⟨?_, ?_, ?_, ?_⟩
  · rw [wr_na _ (by decide), wr_na _ (by decide), wr_na _ (by decide), wr_nk _ h]
  · rw [wr_na _ (by decide), wr_na _ (by decide), wr_nk _ h, wr_na _ (by decide)]
  · rw [wr_na _ (by decide), wr_nk _ h, wr_na _ (by decide), wr_na _ (by decide)]
  · rw [wr_nk _ h, wr_na _ (by decide), wr_na _ (by decide), wr_na _ (by decide)]
theorem Ld.ag {σ τ : St} {j : Int} {q : Qd} (h : Ld σ j q) (e : Ag σ τ j) : Ld τ j q := ⟨e.1.trans h.1, e.2.1.trans h.2.1, e.2.2.1.trans h.2.2.1, e.2.2.2.trans h.2.2.2⟩
theorem Ag.tr {σ τ υ : St} {j : Int} (h : Ag σ τ j) (h2 : Ag τ υ j) : Ag σ υ j := ⟨h2.1.trans h.1, h2.2.1.trans h.2.1, h2.2.2.1.trans h.2.2.1, h2.2.2.2.trans h.2.2.2⟩
def Lf (σ : St) : Int → List (Tr × Qd) → Prop
  | _, [] => True
  | o, z :: r => Ld σ o z.2 ∧ Lf σ (o + (cC z.1).length) r
theorem Lf.ag {σ τ : St} : ∀ {ts : List (Tr × Qd)} {o : Int}, Lf σ o ts → (∀ j, o ≤ j → Ag σ τ j) → Lf τ o ts
  | [], _, _, _ => trivial
  | z :: r, o, h, e => ⟨h.1.ag (e o (Int.le_refl _)), Lf.ag h.2 (fun j hj => e j (by omega))⟩
def flZ (T : Tb) (g : Int) (ts : List (Tr × Qd)) : List (Tr × Qd) := (ts.map (fun z => zC T g z.2 z.1)).flatten
def kz (T : Tb) (g : Int) : Tr × Qd → List (Tr × Qd)
  | (.pow t l, q) => [(t, insQ T g l t q)]
  | (.mul a b, q) => [(a, qMa T g a b q), (b, qMb T g a b q)]
  | (.add a b, q) => [(a, qAa T g a b q), (b, qAb T g a b q)]
  | _ => []
theorem flZ_cons (T : Tb) (g : Int) (z : Tr × Qd) (r : List (Tr × Qd)) : flZ T g (z :: r) = z :: flZ T g (kz T g z ++ r) := by
  obtain ⟨u, q⟩ := z
  cases u <;> simp [flZ, kz, zC]
theorem kz_ok {T : Tb} {g : Int} {z : Tr × Qd} (h : okw z.1) : ∀ y ∈ kz T g z, okw y.1 := by
  obtain ⟨u, q⟩ := z
  cases u with
  | pow t l => intro y hy; simp [kz] at hy; subst hy; exact h.1
  | mul a b => intro y hy; simp [kz] at hy; rcases hy with rfl | rfl; exact h.1; exact h.2
  | add a b => intro y hy; simp [kz] at hy; rcases hy with rfl | rfl; exact h.1; exact h.2
  | _ => intro y hy; simp [kz] at hy
theorem sbC_zero {t : Tr} : (sbC t)[0]? = some t := by cases t <;> rfl
section CPlace
variable {E : EV} {d : Nat} {σ : St} {T : Tb} {g a c : Int} {t : Tr} {n : Nat}
theorem c_Layout_span {sd : Int} (hF : Fix σ) (hn : σ.1 23 7 = (cC t).length) (hm : LMs σ T g t (-1)) (hT : okTab T) (hg : 0 ≤ g ∧ g ≤ 3) (hk : okw t) (h24 : (cC t).length ≤ 24) (hs : rI sd) : WMi E m_Layout_span (d + 1) [aP 23, aI sd] σ (fun r τ => r = max sd (max (wid T g t) (hei T g t)) ∧ τ = σ) := by
  have h0 := hm 0 t (by omega) sbC_zero
  have hp := cC_pos hk
  have hz := size_w hT hg hk
  refine e_Layout_span _ hF (wmi_p (c_Layout_wideAt hF hn h24 (by decide)) ⟨hF, wmi_p (c_Layout_highAt hF hn h24 (by decide)) ?_⟩)
  rw [if_pos (by omega), if_pos (by omega), show (0 : Int) = ((0 : Nat) : Int) from rfl, h0.2.1, h0.2.2]
  exact ⟨by omega, by omega, hs, by omega, ri_p rfl⟩
theorem c_Layout_lay {i : Nat} {q : Qd} {S D X Y : Int} (hF : Fix σ) (hn : σ.1 23 7 = n) (h24 : n ≤ 24) (hi : i < n) (hS : S = q.1) (hD : D = q.2.1) (hX : X = q.2.2.1) (hY : Y = q.2.2.2) {p : Int} (hp : p = i) : WMv E m_Layout_lay d [aP 23, aI p, aL S, aL D, aL X, aL Y] σ (fun τ => τ = ly4 σ i q) := by
  subst hS; subst hD; subst hX; subst hY; subst hp
  exact e_Layout_lay _ _ _ _ _ hF ⟨by omega, fun q => by omega, fun _ => ⟨by omega, by omega, fun q => by omega, fun _ => ⟨by omega, by omega, by omega, by omega, rfl, List.prefix_refl _, rfl⟩⟩⟩
theorem c_Layout_placeInside {i l : Nat} {w : Tr} {q : Qd} {u v : Int} (hF : Fix σ) (hn : σ.1 23 7 = n) (h24 : n ≤ 24) (hi : i + 1 < n) (hq : Ld σ i q) (hw : σ.1 25 (i + 1) = wid T g w ∧ σ.1 26 (i + 1) = hei T g w) (hb : (0 ≤ wid T g w ∧ wid T g w ≤ 1000) ∧ 0 ≤ hei T g w ∧ hei T g w ≤ 1000) (hu : u = (T l).2.2.1 ∧ 0 ≤ u ∧ u ≤ 12) (hv : v = (T l).2.2.2 ∧ 0 ≤ v ∧ v ≤ 12) :
    WMv E m_Layout_placeInside (d + 1) [aP 23, aI i, aI u, aI v] σ (fun τ => τ = ly4 σ ((i : Int) + 1) (insQ T g l w q)) := by
  obtain ⟨hu, hu2⟩ := hu
  obtain ⟨hv, hv2⟩ := hv
  have fin : ∀ A B : Int, A = (inA T g l w).1 → B = (inA T g l w).2 → WP E m_Layout_placeInside (d + 1) 66 [(0, aP 23), (1, aI i), (4, aI ((i : Int) + 1)), (5, aL A), (7, aL B)] [] σ (fun r τ => r = none ∧ σ.2 <+: τ.2 ∧ τ = ly4 σ ((i : Int) + 1) (insQ T g l w q)) := by
    intro A B hA hB
    refine b_Layout_placeInside_66 _ _ _ _ hF ⟨by omega, by omega, by omega, by omega, ?_⟩
    rw [hq.1, hq.2.1, hq.2.2.1, hq.2.2.2]
    exact WMv.mono (c_Layout_lay (i := i + 1) (q := insQ T g l w q) hF hn h24 hi (by rw [hA]; rfl) (by rw [hB]; rfl) (by rw [hB]; rfl) (by rw [hB]; rfl) (by omega)) (fun τ hp hq => ⟨rfl, hp, by rw [hq, show ((i + 1 : Nat) : Int) = (i : Int) + 1 by omega]⟩)
  have mid : ∀ A B : Int, (A, B) = (if u < wid T g w then (u, wid T g w) else ((1 : Int), (1 : Int))) → WP E m_Layout_placeInside (d + 1) 34 [(0, aP 23), (1, aI i), (3, aI v), (4, aI ((i : Int) + 1)), (5, aL A), (7, aL B)] [] σ (fun r τ => r = none ∧ σ.2 <+: τ.2 ∧ τ = ly4 σ ((i : Int) + 1) (insQ T g l w q)) := by
    intro A B hAB
    have hAb : (0 ≤ A ∧ A ≤ 1000) ∧ 0 ≤ B ∧ B ≤ 1000 := by
      split at hAB
      · cases hAB; omega
      · cases hAB; omega
    have hin : inA T g l w = if v * B < A * hei T g w then (v, hei T g w) else (A, B) := by
      unfold inA
      rw [← hu, ← hv, ← hAB]
    have r1 := mul_bd (a := v) (b := B) (A := 12) (B := 1000) (by omega) (by omega) (by omega)
    have r2 := mul_bd (a := A) (b := hei T g w) (A := 1000) (B := 1000) (by omega) (by omega) (by omega)
    refine b_Layout_placeInside_34 _ _ _ _ _ hF ⟨by omega, wmi_p (c_Layout_highAt hF hn h24 (by omega)) ?_⟩
    rw [if_pos (by omega), hw.2]
    refine ⟨hF, by omega, by unfold rL; omega, by unfold rL; omega, fun c1 => fin A B ?_ ?_, fun c1 => ⟨by omega, wmi_p (c_Layout_highAt hF hn h24 (by omega)) ?_⟩⟩
    · rw [hin, if_neg (by omega)]
    · rw [hin, if_neg (by omega)]
    · rw [if_pos (by omega), hw.2]
      refine ⟨by omega, fin _ _ ?_ ?_⟩
      · rw [hin, if_pos (by omega)]
      · rw [hin, if_pos (by omega)]
  refine e_Layout_placeInside _ _ _ hF (wmi_p (c_Layout_wideAt hF hn h24 (by omega)) ?_)
  rw [if_pos (by omega), hw.1]
  refine ⟨hF, by omega, by omega, fun c1 => mid 1 1 (by rw [if_neg (by omega)]), fun c1 => ⟨by omega, wmi_p (c_Layout_wideAt hF hn h24 (by omega)) ?_⟩⟩
  rw [if_pos (by omega), hw.1]
  exact ⟨by omega, mid _ _ (by rw [if_pos (by omega)])⟩
theorem c_Layout_placeBoth {i lx : Nat} {y sx sy wu hu wx hx wz hz S D X Y : Int} (hF : Fix σ) (hn : σ.1 23 7 = n) (h24 : n ≤ 24) (hi : i + 1 + lx < n) (plx : 1 ≤ lx) (hq : Ld σ i (S, D, X, Y)) (hy : (y = 64 ∧ sx = S ∧ sy = 0) ∨ (y = 65 ∧ sx = 0 ∧ sy = S))
    (u1 : σ.1 25 i = wu ∧ σ.1 26 i = hu) (x1 : σ.1 24 (i + 1) = i + 1 + lx ∧ σ.1 25 (i + 1) = wx ∧ σ.1 26 (i + 1) = hx) (z1 : σ.1 25 (i + 1 + lx) = wz ∧ σ.1 26 (i + 1 + lx) = hz) (b0 : (0 ≤ wu ∧ wu ≤ 1000) ∧ 0 ≤ hu ∧ hu ≤ 1000) (b1 : (0 ≤ wx ∧ wx ≤ 1000) ∧ 0 ≤ wz ∧ wz ≤ 1000) (b2 : (0 ≤ hx ∧ hx ≤ 1000) ∧ 0 ≤ hz ∧ hz ≤ 1000) :
    WMv E m_Layout_placeBoth (d + 1) [aP 23, aI i, aI y] σ (fun τ => τ = ly4 (ly4 σ ((i : Int) + 1) (S, D, X + sx * (wx - wu), Y + sy * (hx - hu))) ((i : Int) + 1 + lx) (S, D, X + sx * (wu - wz), Y + sy * (hu - hz))) := by
  have hi0 : (0 : Int) ≤ i ∧ (i : Int) < 24 := by omega
  have fin : WP E m_Layout_placeBoth (d + 1) 45 [(0, aP 23), (1, aI i), (3, aI ((i : Int) + 1)), (4, aI ((i : Int) + 1 + lx)), (5, aL sx)] [aL sy] σ (fun r τ => r = none ∧ σ.2 <+: τ.2 ∧ τ = ly4 (ly4 σ ((i : Int) + 1) (S, D, X + sx * (wx - wu), Y + sy * (hx - hu))) ((i : Int) + 1 + lx) (S, D, X + sx * (wu - wz), Y + sy * (hu - hz))) := by
    refine b_Layout_placeBoth_45 _ _ _ _ _ hF ⟨hi0, hi0, hi0, wmi_p (c_Layout_wideAt hF hn h24 (by omega)) ?_⟩
    rw [if_pos (by omega), x1.2.1, u1.1]
    refine ⟨hF, hi0, by omega, hi0, wmi_p (c_Layout_highAt hF hn h24 (by omega)) ?_⟩
    rw [if_pos (by omega), x1.2.2, u1.2, hq.1, hq.2.1, hq.2.2.1, hq.2.2.2]
    refine ⟨hF, hi0, by omega, WMv.mono (c_Layout_lay (i := i + 1) (q := (S, D, X + sx * (wx - wu), Y + sy * (hx - hu))) hF hn h24 (by omega) rfl rfl rfl rfl (by omega)) (fun τ hp hτ => ?_)⟩
    rw [show ((i + 1 : Nat) : Int) = (i : Int) + 1 by omega] at hτ
    have fr : Fr pcX σ τ := by rw [hτ]; exact ly4_fr _ _ _
    have F1 := fr.fix hF (by decide)
    have n1 : τ.1 23 7 = n := (fr.2 _ _ rfl).trans hn
    have l1 : Ld τ i (S, D, X, Y) := hq.ag (by rw [hτ]; exact ly4_ag _ _ _ (by omega))
    have e25 : ∀ j, τ.1 25 j = σ.1 25 j := fun j => fr.2 _ _ rfl
    have e26 : ∀ j, τ.1 26 j = σ.1 26 j := fun j => fr.2 _ _ rfl
    refine ⟨F1, hi0, hi0, hi0, hi0, wmi_p (c_Layout_wideAt F1 n1 h24 (by omega)) ?_⟩
    rw [if_pos (by omega), e25, e25, z1.1, u1.1]
    refine ⟨F1, by omega, hi0, hi0, wmi_p (c_Layout_highAt F1 n1 h24 (by omega)) ?_⟩
    rw [if_pos (by omega), e26, e26, z1.2, u1.2, l1.1, l1.2.1, l1.2.2.1, l1.2.2.2]
    refine ⟨F1, by omega, WMv.mono (c_Layout_lay (i := i + 1 + lx) (q := (S, D, X + sx * (wu - wz), Y + sy * (hu - hz))) F1 n1 h24 (by omega) rfl rfl rfl rfl (by omega)) (fun υ hp2 hυ => ⟨rfl, hp.trans hp2, ?_⟩)⟩
    rw [hυ, hτ, show ((i + 1 + lx : Nat) : Int) = (i : Int) + 1 + lx by omega]
  have mid : WP E m_Layout_placeBoth (d + 1) 27 [(0, aP 23), (1, aI i), (2, aI y), (3, aI ((i : Int) + 1)), (4, aI ((i : Int) + 1 + lx))] [aL sx] σ (fun r τ => r = none ∧ σ.2 <+: τ.2 ∧ τ = ly4 (ly4 σ ((i : Int) + 1) (S, D, X + sx * (wx - wu), Y + sy * (hx - hu))) ((i : Int) + 1 + lx) (S, D, X + sx * (wu - wz), Y + sy * (hu - hz))) := by
    refine b_Layout_placeBoth_27 _ _ _ _ _ hF ⟨by omega, fun q => ⟨hi0, ?_⟩, fun q => ?_⟩
    · rw [show σ.1 27 (i : Int) = sy by rw [hq.1]; show S = sy; omega]; exact fin
    · rw [← show sy = 0 by omega]; exact fin
  refine e_Layout_placeBoth _ _ hF (wmi_p (c_Layout_endAt hF hn h24 (by omega)) ?_)
  rw [if_pos (by omega), x1.1]
  refine ⟨hF, by omega, fun q => ?_, fun q => ⟨hi0, ?_⟩⟩
  · rw [← show sx = 0 by omega]; exact mid
  · rw [show σ.1 27 (i : Int) = sx by rw [hq.1]; show S = sx; omega]; exact mid
theorem c_Layout_place {sd : Int} (hF : Fix σ) (hc : CdB 92 σ a (cC t)) (ht : TabC σ c T) (hn : σ.1 23 7 = (cC t).length) (hm : LMs σ T g t (-1)) (hT : okTab T) (hg : 0 ≤ g ∧ g ≤ 3) (hk : okw t) (h24 : (cC t).length ≤ 24) (hs : 1 ≤ sd ∧ sd ≤ 24) : WMv E m_Layout_place (d + 3) [aP 23, aP a, aP c, aI sd] σ (fun τ => Fr pcX σ τ ∧ ∀ (j : Nat) (z : Tr × Qd), (zC T g (sd, max sd (max (wid T g t) (hei T g t)), sd * max sd (max (wid T g t) (hei T g t)), sd * max sd (max (wid T g t) (hei T g t))) t)[j]? = some z → Ld τ j z.2) := by
  have hz := size_w hT hg hk
  have hp := cC_pos hk
  refine e_Layout_place _ _ _ hF (wmi_p (c_Layout_span hF hn hm hT hg hk h24 (by omega)) ⟨hF, by omega, by omega, by omega, by omega, ?_⟩)
  generalize hsp : max sd (max (wid T g t) (hei T g t)) = sp at *
  generalize hq0 : ((sd, sp, sd * sp, sd * sp) : Qd) = q0
  refine WMv.mono (c_Layout_lay (i := 0) (q := q0) hF hn h24 (by omega) (by rw [← hq0]) (by rw [← hq0]) (by rw [← hq0]) (by rw [← hq0]) rfl) (fun τ0 hp0 hτ0 => ?_)
  have zl := zC_len (T := T) (g := g) hk q0
  have key : ∀ s : Nat × List (Tr × Qd) × St, (s.1 ≤ (cC t).length ∧ (zC T g q0 t).drop s.1 = flZ T g s.2.1 ∧ (∀ z ∈ s.2.1, okw z.1) ∧ Fr pcX σ s.2.2 ∧ (∀ (j : Nat) (z : Tr × Qd), j < s.1 → (zC T g q0 t)[j]? = some z → Ld s.2.2 j z.2) ∧ Lf s.2.2 s.1 s.2.1) → WP E m_Layout_place (d + 3) 30 [(0, aP 23), (1, aP a), (2, aP c), (6, aI s.1)] [] s.2.2 (fun r τ => r = none ∧ σ.2 <+: τ.2 ∧ Fr pcX σ τ ∧ ∀ (j : Nat) (z : Tr × Qd), (zC T g q0 t)[j]? = some z → Ld τ j z.2) := by
    refine lpx (fun s => (cC t).length - s.1) _ _ (fun s hI ih => ?_)
    obtain ⟨i, ts, τ⟩ := s
    obtain ⟨i1, i2, i3, i4, i5, i6⟩ := hI
    simp only at i1 i2 i3 i4 i5 i6 ih ⊢
    have F1 := i4.fix hF (by decide)
    have c1 := hc.cf (i4.cf 0 0) (imX_lt rfl (by omega))
    have t1 := ht.cf (i4.cf 0 0) rfl
    have n1 : τ.1 23 7 = (cC t).length := (i4.2 _ _ rfl).trans hn
    have m1 : LMs τ T g t (-1) := fun j u hj hu => by rw [i4.2 24 _ rfl, i4.2 25 _ rfl, i4.2 26 _ rfl]; exact hm j u hj hu
    refine b_Layout_place_30 _ _ _ F1 ⟨by omega, by omega, fun q => ⟨rfl, pre_eq i4.1, i4, fun j z hj => i5 j z ?_ hj⟩, fun q => ⟨c1.2.1, wmi_p (c_Sq_symbol c1.2 (by omega) (by omega)) ⟨F1, ?_⟩⟩⟩
    · have := (List.getElem?_eq_some_iff.mp hj).1; omega
    · have hil : i < (zC T g q0 t).length := by omega
      cases ts with
      | nil => have := List.drop_eq_nil_iff.mp (show (zC T g q0 t).drop i = [] by rw [i2]; rfl); omega
      | cons z r =>
        obtain ⟨u, p⟩ := z
        rw [flZ_cons] at i2
        have hZ : (zC T g q0 t)[i]? = some (u, p) := by
          have e := congrArg (fun L => L[0]?) i2
          simpa using e
        have hd : (zC T g q0 t).drop (i + 1) = flZ T g (kz T g (u, p) ++ r) := by
          have e := congrArg (fun L => L.drop 1) i2
          simpa [List.drop_drop, Nat.add_comm] using e
        have hu : (sbC t)[i]? = some u := by rw [← zC_fst T g t q0, List.getElem?_map, hZ]; rfl
        have hsy := sbC_sy hk hu
        have uok : okw u := i3 (u, p) List.mem_cons_self
        obtain ⟨-, A, B, eA, lA⟩ := sbC_at hk hu
        have hul := congrArg List.length eA
        simp only [List.length_append] at hul
        have hr := sy_r uok
        have Lp : Ld τ i p := i6.1
        have Lr : Lf τ ((i : Int) + (cC u).length) r := i6.2
        have hcc := m1 i u (by omega) hu
        have hbu := size_w hT hg uok
        have rok : ∀ y ∈ kz T g (u, p) ++ r, okw y.1 := fun y hy => (List.mem_append.mp hy).elim (kz_ok uok y) (fun z => i3 y (List.mem_cons_of_mem _ z))
        rw [if_pos (by omega), show ((i : Nat) : Int).toNat = i by omega, List.getD_eq_getElem?_getD, hsy, Option.getD_some]
        have nxt : ∀ υ : St, Fr pcX σ υ → (∀ j : Int, j ≤ i → Ag τ υ j) → Lf υ ((i : Int) + 1) (kz T g (u, p) ++ r) → WP E m_Layout_place (d + 3) 98 [(0, aP 23), (1, aP a), (2, aP c), (6, aI i)] [] υ (fun r τ => r = none ∧ σ.2 <+: τ.2 ∧ Fr pcX σ τ ∧ ∀ (j : Nat) (z : Tr × Qd), (zC T g q0 t)[j]? = some z → Ld τ j z.2) := by
          intro υ f2 ag lf
          refine b_Layout_place_98 _ _ _ ?_
          have h9 := ih (i + 1, kz T g (u, p) ++ r, υ) (by show (cC t).length - (i + 1) < (cC t).length - i; omega) ⟨by show i + 1 ≤ _; omega, hd, rok, f2, fun j z hj hz => ?_, by show Lf υ ((i + 1 : Nat) : Int) _; rw [show ((i + 1 : Nat) : Int) = (i : Int) + 1 by omega]; exact lf⟩
          · simp only at h9
            rw [show ((i + 1 : Nat) : Int) = (i : Int) + 1 by omega] at h9
            exact h9
          · have hj' : j < i + 1 := hj
            by_cases e : j = i
            · subst e
              rw [hZ] at hz
              cases hz
              exact Lp.ag (ag j (Int.le_refl _))
            · exact (i5 j z (by omega) hz).ag (ag j (by omega))
        refine wmi_p (c_S_isJoint (by omega)) ⟨F1, b2i_r _, fun q2 => ?_, fun q2 => ?_⟩
        · rw [b2i_0, jt_isS uok] at q2
          have hS : isS u = true := by simpa using q2
          obtain ⟨s1, s2, s3, s4⟩ := sy_sign uok hS
          refine wmi_p (c_S_holds (by omega)) ⟨F1, b2i_r _, fun q3 => ?_, fun q3 => ?_⟩
          · rw [b2i_0, s3] at q3
            have hl1 : (cC u).length = 1 := by rw [(cC_bare hS q3).1]; rfl
            have hkz : kz T g (u, p) = [] := by
              cases u with
              | var l => rfl
              | pow w l => exact absurd rfl q3
              | _ => simp [isS] at hS
            refine nxt τ i4 (fun j _ => ⟨rfl, rfl, rfl, rfl⟩) ?_
            rw [hkz, List.nil_append, ← show (i : Int) + (cC u).length = (i : Int) + 1 by omega]
            exact Lr
          · rw [b2i_n0, s3] at q3
            cases u with
            | pow w l =>
              have hw := sbC_in hu rfl uok.1
              have hlw : (cC (.pow w l)).length = (cC w).length + 1 := by simp [cC]
              have pw1 := cC_pos uok.1
              have g1 := m1 (i + 1) w (by omega) hw
              rw [show ((i + 1 : Nat) : Int) = (i : Int) + 1 by omega] at g1
              have hbw := size_w hT hg uok.1
              have hlt : lett (.pow w l) = l := rfl
              have hTl := hT.r l uok.2
              refine wmi_p (c_S_letterOf (by omega)) ⟨F1, t1.2.1, ?_⟩
              rw [s2, hlt]
              refine wmi_p (c_Table_coreWideOf t1 (by have := uok.2; omega)) ⟨F1, wmi_p (c_S_letterOf (by omega)) ⟨F1, t1.2.1, ?_⟩⟩
              rw [s2, hlt]
              refine wmi_p (c_Table_coreHighOf t1 (by have := uok.2; omega)) ⟨F1, ?_⟩
              rw [show tb tU T (l : Int) = (T l).2.2.1 from tb_nat uok.2, show tb tV T (l : Int) = (T l).2.2.2 from tb_nat uok.2]
              refine WMv.mono (c_Layout_placeInside (l := l) (w := w) (q := p) (T := T) (g := g) F1 n1 h24 (by omega) Lp g1.2 (by omega) ⟨rfl, by omega, by omega⟩ ⟨rfl, by omega, by omega⟩) (fun υ hp2 hυ => ?_)
              refine nxt υ (i4.tr (by rw [hυ]; exact ly4_fr _ _ _)) (fun j hj => by rw [hυ]; exact ly4_ag _ _ _ (by omega)) ?_
              show Ld υ ((i : Int) + 1) (insQ T g l w p) ∧ Lf υ ((i : Int) + 1 + (cC w).length) r
              rw [hυ]
              refine ⟨ly4_same _ _ _, ?_⟩
              rw [hlw] at Lr
              rw [show (i : Int) + ((cC w).length + 1 : Nat) = (i : Int) + 1 + (cC w).length by omega] at Lr
              exact Lr.ag (fun j hj => ly4_ag _ _ _ (by omega))
            | _ => simp [holdsT] at q3
        · rw [b2i_n0, jt_isS uok] at q2
          obtain ⟨S, D, X, Y⟩ := p
          have joint : ∀ (x z : Tr) (y sx sy' : Int) (qa qb : Qd), okw x → okw z → sbC u = u :: (sbC x ++ sbC z) → sy u = y → ((y = 64 ∧ sx = S ∧ sy' = 0) ∨ (y = 65 ∧ sx = 0 ∧ sy' = S)) → (cC u).length = (cC x).length + (cC z).length + 1 → kz T g (u, (S, D, X, Y)) = [(x, qa), (z, qb)] → qa = (S, D, X + sx * (wid T g x - wid T g u), Y + sy' * (hei T g x - hei T g u)) → qb = (S, D, X + sx * (wid T g u - wid T g z), Y + sy' * (hei T g u - hei T g z)) → WMv E m_Layout_placeBoth (d + 2) [aP 23, aI i, aI (sy u)] τ (fun σ16 => WP E m_Layout_place (d + 3) 98 [(0, aP 23), (1, aP a), (2, aP c), (6, aI i)] [] σ16 (fun r τ => r = none ∧ σ.2 <+: τ.2 ∧ Fr pcX σ τ ∧ ∀ (j : Nat) (z : Tr × Qd), (zC T g q0 t)[j]? = some z → Ld τ j z.2)) := by
            intro x z y sx sy' qa qb hx hz e1 e2 hy e3 e4 e5 e6
            obtain ⟨k1, k2⟩ := sbC_two hx hz hu e1
            have g1 := m1 (i + 1) x (by omega) k1
            have g2 := m1 (i + 1 + (cC x).length) z (by omega) k2
            have w1 := size_w hT hg hx
            have w2 := size_w hT hg hz
            have p1 := cC_pos hx
            have p2 := cC_pos hz
            rw [show (((i + 1 : Nat)) : Int) = (i : Int) + 1 by omega] at g1
            rw [show (((i + 1 + (cC x).length : Nat)) : Int) = (i : Int) + 1 + (cC x).length by omega] at g2
            rw [e2]
            refine WMv.mono (c_Layout_placeBoth F1 n1 h24 (lx := (cC x).length) (by omega) p1 Lp hy hcc.2 g1 g2.2 (by omega) (by omega) (by omega)) (fun υ hp2 hυ => ?_)
            rw [← e5, ← e6] at hυ
            refine nxt υ (i4.tr (by rw [hυ]; exact (ly4_fr _ _ _).tr (ly4_fr _ _ _))) (fun j hj => by rw [hυ]; exact (ly4_ag _ _ _ (by omega)).tr (ly4_ag _ _ _ (by omega))) ?_
            rw [e4]
            show Ld υ ((i : Int) + 1) qa ∧ Ld υ ((i : Int) + 1 + (cC x).length) qb ∧ Lf υ ((i : Int) + 1 + (cC x).length + (cC z).length) r
            rw [hυ]
            refine ⟨(ly4_same _ _ _).ag (ly4_ag _ _ _ (by omega)), ly4_same _ _ _, ?_⟩
            rw [e3, show (i : Int) + ((cC x).length + (cC z).length + 1 : Nat) = (i : Int) + 1 + (cC x).length + (cC z).length by omega] at Lr
            exact Lr.ag (fun j hj => (ly4_ag _ _ _ (by omega)).tr (ly4_ag _ _ _ (by omega)))
          cases u with
          | mul x z => exact joint x z 64 S 0 _ _ uok.1 uok.2 rfl rfl (Or.inl ⟨rfl, rfl, rfl⟩) (by simp [cC]) rfl (by unfold qMa; simp) (by unfold qMb; simp)
          | add x z => exact joint x z 65 0 S _ _ uok.1 uok.2 rfl rfl (Or.inr ⟨rfl, rfl, rfl⟩) (by simp [cC]) rfl (by unfold qAa; simp) (by unfold qAb; simp)
          | var l => exact absurd q2 (by simp [isS])
          | pow w l => exact absurd q2 (by simp [isS])
          | _ => exact absurd uok (by simp [okw])
  have f0 : Fr pcX σ τ0 := by rw [hτ0]; exact ly4_fr _ _ _
  exact key (0, [(t, q0)], τ0) ⟨Nat.zero_le _, by simp [flZ], by simpa using hk, f0, fun j z hj => absurd hj (Nat.not_lt_zero _), ⟨by rw [hτ0]; exact ly4_same _ _ _, trivial⟩⟩
end CPlace
