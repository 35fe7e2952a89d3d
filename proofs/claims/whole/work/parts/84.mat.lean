/-! AT, SMALLEST -/
def lfX (T : Tb) (g sd : Int) (mr : Bool) (z : Tr × Qd) : Int := if mr then 2 * sd * z.2.2.1 - z.2.2.2.1 - z.2.1 * wid T g z.1 else z.2.2.2.1 - z.2.1 * wid T g z.1
def hit (T : Tb) (g sd : Int) (mr : Bool) (x y b : Int) (z : Tr × Qd) : Bool := decide ((lfX T g sd mr z * b ≤ x * (2 * z.2.2.1) ∧ x * (2 * z.2.2.1) ≤ (lfX T g sd mr z + wid T g z.1 * z.2.1 * 2) * b) ∧ (z.2.2.2.2 - z.2.1 * hei T g z.1) * b ≤ y * (2 * z.2.2.1) ∧ y * (2 * z.2.2.1) ≤ (z.2.2.2.2 - z.2.1 * hei T g z.1 + hei T g z.1 * z.2.1 * 2) * b)
def lastI (p : Tr × Qd → Bool) : List (Tr × Qd) → Int → Int → Int
  | [], _, b => b
  | z :: L, i, b => lastI p L (i + 1) (if p z then i else b)
def sp_at (T : Tb) (M : Mo) (l s x y b : Int) : Int := match lnAt M l with
  | none => -1
  | some L => match sqIn L s with
    | none => -1
    | some t => if (-10000 ≤ x ∧ x ≤ 10000) ∧ (-10000 ≤ y ∧ y ≤ 10000) ∧ 1 ≤ b ∧ b ≤ 100 then lastI (hit T M.2.1 M.1 L.1 x y b) (sLR T M t) 0 (-2) else -1
theorem cmpG {n N a b v : Int} (hN : 0 < N) : (Rat.divInt n N).num * b ≤ v * (Rat.divInt n N).den ↔ n * b ≤ v * N := by
  obtain ⟨G, g1, g2, g3, -⟩ := rat_red (n := n) hN
  generalize (Rat.divInt n N).num = c at *
  generalize ((Rat.divInt n N).den : Int) = e at *
  have e1 : n * b = c * b * (G : Int) := by rw [g2, Int.mul_assoc, Int.mul_comm (G : Int) b, ← Int.mul_assoc]
  have e2 : v * N = v * e * (G : Int) := by rw [g3, Int.mul_assoc]
  rw [e1, e2]
  exact ⟨fun h => Int.mul_le_mul_of_nonneg_right h (by omega), fun h => Int.le_of_mul_le_mul_right h (by omega)⟩
theorem cmpG2 {n N a b v : Int} (hN : 0 < N) : (Rat.divInt n N).num * b < v * (Rat.divInt n N).den ↔ ¬ v * N ≤ n * b := by
  obtain ⟨G, g1, g2, g3, -⟩ := rat_red (n := n) hN
  generalize (Rat.divInt n N).num = c at *
  generalize ((Rat.divInt n N).den : Int) = e at *
  have e1 : n * b = c * b * (G : Int) := by rw [g2, Int.mul_assoc, Int.mul_comm (G : Int) b, ← Int.mul_assoc]
  have e2 : v * N = v * e * (G : Int) := by rw [g3, Int.mul_assoc]
  rw [e1, e2]
  exact ⟨fun h q => absurd (Int.le_of_mul_le_mul_right q (by omega)) (by omega), fun h => Int.not_le.mp (fun q => h (Int.mul_le_mul_of_nonneg_right q (by omega)))⟩
theorem Pl.ud {σ τ : St} {T : Tb} {g sd j : Int} {u : Tr} {q : Qd} (h : Pl σ T g sd j u q) (f : Fr udX σ τ) : Pl τ T g sd j u q := h.keep ⟨f.2 _ _ rfl, f.2 _ _ rfl, f.2 _ _ rfl⟩ (by rw [f.2 _ _ rfl]; exact Int.le_refl _) (fun n _ => ⟨⟨f.2 _ _ rfl, f.2 _ _ rfl⟩, f.2 _ _ rfl, f.2 _ _ rfl, f.2 _ _ rfl, f.2 _ _ rfl⟩)
theorem mul_bd {a b A B : Int} (ha : -A ≤ a ∧ a ≤ A) (hb : 0 ≤ b ∧ b ≤ B) (hA : 0 ≤ A) : -(A * B) ≤ a * b ∧ a * b ≤ A * B := by
  have h1 : a * b ≤ A * b := Int.mul_le_mul_of_nonneg_right ha.2 hb.1
  have h2 : A * b ≤ A * B := Int.mul_le_mul_of_nonneg_left hb.2 hA
  have h3 : -A * b ≤ a * b := Int.mul_le_mul_of_nonneg_right ha.1 hb.1
  rw [Int.neg_mul] at h3
  omega
section MAt
variable {E : EV} {d : Nat} {σ : St} {T : Tb} {M : Mo} {P : List Mo} {tp : List Int}
theorem c_M_isWithin {k : Nat} {g sd w mr v b n wh : Int} {u : Tr} {q : Qd} (hF : Fix σ) (hkT : okTab T) (hg : 0 ≤ g ∧ g ≤ 3) (hsd : 1 ≤ sd ∧ sd ≤ 24) (hn : σ.1 47 0 = sd) (hk : k < 24) (hu : okU T u) (hq : okQ T g sd u q) (hz : σ.1 52 k = wid T g u ∧ σ.1 53 k = hei T g u) (hpl : Pl σ T g sd k u q) (hgr : σ.1 42 27 ≤ 12) (hmr : mr = 0 ∨ mr = 1) (hv : -10000 ≤ v ∧ v ≤ 10000) (hb : 1 ≤ b ∧ b ≤ 100) (hw : w = 0 ∧ n = lfX T g sd (mr == 1) (u, q) ∧ wh = wid T g u ∨ w = 1 ∧ n = q.2.2.2 - q.1 * hei T g u ∧ wh = hei T g u) :
    WMi E m_M_isWithin (d + 4) [aP 42, aI k, aI w, aI mr, aI v, aI b] σ (fun r τ => Fr udX σ τ ∧ r = b2i (n * b ≤ v * (2 * q.2.1) ∧ v * (2 * q.2.1) ≤ (n + wh * q.1 * 2) * b)) := by
  have hsz := okU_sz hkT hg hu
  have qn := okQ_n hq hsd hsz.1.1 hsz.2.1
  have hqw := hq.2.2
  have hb1 : bxR T g sd (mr == 1) (u, q) w = Rat.divInt n (2 * q.2.1) := by
    unfold bxR
    rcases hw with ⟨rfl, rfl, -⟩ | ⟨rfl, rfl, -⟩
    · rw [if_pos rfl]; unfold lfX; split <;> rfl
    · rw [if_neg (by decide), if_pos rfl]
  have hwh : (0 ≤ n ∧ n ≤ 22413546288) ∧ (0 ≤ wh * q.1 ∧ n + wh * q.1 * 2 ≤ 22413546288) := by
    rcases hw with ⟨rfl, rfl, rfl⟩ | ⟨rfl, rfl, rfl⟩
    · unfold lfX
      rw [Int.mul_comm (wid T g u) q.1]
      dsimp only
      split <;> omega
    · rw [Int.mul_comm (hei T g u) q.1]
      omega
  have hkb : (0 : Int) ≤ k ∧ (k : Int) < 24 := by omega
  refine e_M_isWithin _ _ _ _ _ hF (WMv.mono (c_M_boxOf hF hkT hg hsd hn hk hu hq hz hpl hgr (by omega) hmr (by omega)) (fun τ1 p1 q1 => ?_))
  rw [hb1] at q1
  have F1 := q1.1.fix hF (by decide)
  have nb := rat_bd (n := n) (N := 2 * q.2.1) (by omega) (L := 22413546288) (by omega)
  have r1 := mul_bd nb.1 (show 0 ≤ b ∧ b ≤ 100 by omega) (by omega)
  have r2 := mul_bd hv (show 0 ≤ ((Rat.divInt n (2 * q.2.1)).den : Int) ∧ ((Rat.divInt n (2 * q.2.1)).den : Int) ≤ 933897762 by omega) (by omega)
  have hc1 := cmpG (n := n) (N := 2 * q.2.1) (a := 0) (b := b) (v := v) (by omega)
  rw [q1.2.1, q1.2.2]
  obtain ⟨n0, L, U, ⟨pg, pgl⟩, ⟨⟨ga1, ga2⟩, -⟩, -⟩ := hpl
  have hn0b : (0 : Int) ≤ n0 ∧ (n0 : Int) < 12 := by omega
  have snd : ∀ s1, s1 = wh → (n * b ≤ v * (2 * q.2.1)) → WP E m_M_isWithin (d + 4) 49 [(0, aP 42), (1, aI k), (4, aI v), (5, aI b)] [aI s1, aP 42] τ1 (fun r τ => ∃ v_1, r = some (aI v_1) ∧ σ.2 <+: τ.2 ∧ Fr udX σ τ ∧ v_1 = b2i (n * b ≤ v * (2 * q.2.1) ∧ v * (2 * q.2.1) ≤ (n + wh * q.1 * 2) * b)) := by
    intro s1 hs1 hle
    subst hs1
    refine b_M_isWithin_49 _ _ _ _ _ F1 ⟨by omega, hkb, ?_⟩
    rw [q1.1.2 61 _ rfl, pg, q1.1.2 55 _ rfl, q1.1.2 56 _ rfl, ga1, ga2]
    have nb2 := rat_bd (n := n + s1 * q.1 * 2) (N := 2 * q.2.1) (by omega) (L := 22413546288) (by omega)
    have t1 := mul_bd nb2.1 (show 0 ≤ b ∧ b ≤ 100 by omega) (by omega)
    have t2 := mul_bd hv (show 0 ≤ ((Rat.divInt (n + s1 * q.1 * 2) (2 * q.2.1)).den : Int) ∧ ((Rat.divInt (n + s1 * q.1 * 2) (2 * q.2.1)).den : Int) ≤ 933897762 by omega) (by omega)
    have hc2 := cmpG2 (n := n + s1 * q.1 * 2) (N := 2 * q.2.1) (a := 0) (b := b) (v := v) (by omega)
    refine ⟨hn0b, hkb, hn0b, sf_42 F1, WMv.mono (c_M_plusT (S := q.1) (X := n) F1 q1.2 rfl qn.1 rfl (by omega)) (fun τ2 p2 q2 => ?_)⟩
    rw [q2.2.1, q2.2.2]
    refine ⟨q2.1.fix F1 (by decide), by omega, by omega, by unfold rL; omega, by unfold rL; omega, fun c => ?_, fun c => ?_⟩
    · exact ⟨_, rfl, pre_eq (q1.1.tr q2.1).1, q1.1.tr q2.1, (b2i_f (fun q => (hc2.mp c) q.2)).symm⟩
    · exact ⟨_, rfl, pre_eq (q1.1.tr q2.1).1, q1.1.tr q2.1, (b2i_t ⟨hle, Decidable.byContradiction (fun q => c (hc2.mpr q))⟩).symm⟩
  refine ⟨F1, by omega, by omega, by unfold rL; omega, by unfold rL; omega, fun c => ⟨by omega, fun c2 => ⟨hkb, snd _ ?_ (hc1.mp c)⟩, fun c2 => ⟨hkb, snd _ ?_ (hc1.mp c)⟩⟩, fun c => ?_⟩
  · rw [q1.1.2 _ _ rfl, hz.2]
    rcases hw with ⟨rfl, -, -⟩ | ⟨-, -, rfl⟩
    · exact absurd rfl c2
    · rfl
  · rw [q1.1.2 _ _ rfl, hz.1]
    rcases hw with ⟨-, -, rfl⟩ | ⟨rfl, -, -⟩
    · rfl
    · exact absurd c2 (by decide)
  · exact ⟨_, rfl, pre_eq q1.1.1, q1.1, (b2i_f (fun q => c (hc1.mpr q.1))).symm⟩
theorem c_M_at {l s x y b : Int} (h : RS σ T M P tp) (hk : okD T M P tp) (h1 : rI l) (h2 : rI s) (h3 : rI x) (h4 : rI y) (h5 : rI b) : WMi E m_M_at (d + 6) [aP 42, aI l, aI s, aI x, aI y, aI b] σ (fun r τ => r = sp_at T M l s x y b ∧ Fr scr σ τ) := by
  have hF := h.1.1
  have hkM := hk.2.1
  have hnone : sp_at T M l s x y b = -1 → ∃ v, some (aI (-1)) = some (aI v) ∧ σ.2 <+: σ.2 ∧ v = sp_at T M l s x y b ∧ Fr scr σ σ := fun he => ⟨_, rfl, List.prefix_refl _, he.symm, Fr.refl _ _⟩
  refine e_M_at _ _ _ _ _ hF (wmi_p (c_M_isSquare' h hkM h1 h2) ⟨hF, b2i_r _, fun c => hnone ?_, fun c => ?_⟩)
  · rw [b2i_0] at c
    rcases sq_cases M l s with ⟨L, t, hl, hs, hsq⟩ | ⟨hsq, hno⟩
    · exact absurd (by simp [hsq]) c
    · unfold sp_at
      rcases hno with hl | ⟨L, hl, hs⟩
      · rw [hl]
      · rw [hl]
        dsimp only
        rw [hs]
  · rw [b2i_n0] at c
    obtain ⟨t, ht⟩ := Option.isSome_iff_exists.mp c
    obtain ⟨L, hl, hs⟩ := sqAt_some ht
    obtain ⟨a1, a2, a3, a4, a5, a6, a7⟩ := h.1.2.2.sq hkM ht
    have h10 := a5.2.1
    have hval : sp_at T M l s x y b = if (-10000 ≤ x ∧ x ≤ 10000) ∧ (-10000 ≤ y ∧ y ≤ 10000) ∧ 1 ≤ b ∧ b ≤ 100 then lastI (hit T M.2.1 M.1 L.1 x y b) (sLR T M t) 0 (-2) else -1 := by
      unfold sp_at
      rw [hl]
      dsimp only
      rw [hs]
    refine wmi_p (c_M_in h3 (by decide) (by decide)) ⟨hF, b2i_r _, fun c2 => hnone ?_, fun c2 => wmi_p (c_M_in h4 (by decide) (by decide)) ⟨hF, b2i_r _, fun c3 => hnone ?_, fun c3 => wmi_p (c_M_in h5 (by decide) (by decide)) ⟨hF, b2i_r _, fun c4 => ?_, fun c4 => hnone ?_⟩⟩⟩
    · rw [b2i_0] at c2
      rw [hval, if_neg (fun q => c2 q.1)]
    · rw [b2i_0] at c3
      rw [hval, if_neg (fun q => c3 q.2.1)]
    · rw [b2i_n0] at c2 c3 c4
      rw [if_pos ⟨c2, c3, c4⟩] at hval
      refine WMv.mono (c_M_takes' h hkM ht) (fun τ hp hq => ?_)
      have hT := h.scr (hq.1.mono (by decide))
      refine ⟨hT.1.1, WMv.mono (c_M_places hT hk hq.2 a5) (fun υ hp2 hq2 => ?_)⟩
      obtain ⟨f2, mz, pl⟩ := hq2
      have hU := hT.scr (f2.mono (by decide))
      obtain ⟨n, n1, n2, n3⟩ := pl.2.1
      have hRU : RowIs υ (rc 0 t) := hq.2.keep f2 rfl (fun _ => rfl)
      have fu : Fr scr σ υ := (hq.1.mono (by decide)).tr (f2.mono (by decide))
      have hlen := sbly_len T M.2.1 t 0 (rootQ T M t)
      have hzl : (zL T M.2.1 0 (rootQ T M t) t).length = (rc 0 t).length := by unfold zL; rw [List.length_zip, ← hlen, sb_len]; omega
      rw [show sLR T M t = _ from (zL_sL a5.1 0 (rootQ T M t)).symm] at hval
      have key : ∀ z : Nat × Int × Int × St, (z.1 ≤ (rc 0 t).length ∧ (0 ≤ z.2.1 ∧ z.2.1 ≤ z.1) ∧ lastI (hit T M.2.1 M.1 L.1 x y b) (((zL T M.2.1 0 (rootQ T M t) t).drop z.1).filter (fun z => isS z.1)) z.2.1 z.2.2.1 = sp_at T M l s x y b ∧ Fr udX υ z.2.2.2) → WP E m_M_at (d + 6) 69 [(0, aP 42), (1, aI l), (3, aI x), (4, aI y), (5, aI b), (6, aI z.2.2.1), (7, aI z.2.1), (8, aI z.1)] [] z.2.2.2 (fun r τ => ∃ v, r = some (aI v) ∧ σ.2 <+: τ.2 ∧ v = sp_at T M l s x y b ∧ Fr scr σ τ) := by
        refine lpx (fun z => (rc 0 t).length - z.1) _ _ (fun z hI ih => ?_)
        obtain ⟨k, i, best, ω⟩ := z
        obtain ⟨i1, i2, i3, i4⟩ := hI
        simp only at i1 i2 i3 i4 ih ⊢
        have hW := hU.scr (i4.mono (by decide))
        have hRW : RowIs ω (rc 0 t) := hRU.keep i4 rfl (fun _ => rfl)
        refine b_M_at_69 _ _ _ _ _ _ _ hW.1.1 ⟨by omega, by rw [hRW.1]; omega, fun c5 => ?_, fun c5 => ?_⟩
        · rw [hRW.1] at c5
          refine ⟨_, rfl, pre_eq (fu.tr (i4.mono (by decide))).1, ?_, fu.tr (i4.mono (by decide))⟩
          rw [List.drop_eq_nil_of_le (by omega)] at i3
          exact i3
        · rw [hRW.1] at c5
          have hkl : k < (zL T M.2.1 0 (rootQ T M t) t).length := by omega
          rw [List.drop_eq_getElem_cons hkl] at i3
          have hze := List.getElem?_eq_getElem hkl
          generalize (zL T M.2.1 0 (rootQ T M t) t)[k] = z at i3 hze
          obtain ⟨u, q⟩ := z
          unfold zL at hze
          rw [List.getElem?_zip_eq_some] at hze
          obtain ⟨z1, z2⟩ := hze
          obtain ⟨b1, b2, b3⟩ := pl.1 k u q z1 z2
          have hm := mz k u (by omega) z1
          obtain ⟨u1, u2, u3, u4⟩ := sbT_at a5.1 0 (ω.1 50) 0 hRW.2 k u z1
          rw [show (0 : Int) + (k : Int) = k by omega] at u1
          have hx : ω.1 50 k = nd u := by have h9 := u1; rw [rc0_nd u2] at h9; exact h9.hd
          have hnd := nd_pts u2 (by omega)
          have hns := nd_S u2 (by omega)
          refine ⟨by omega, wmi_p (c_M_isSign (by rw [hx]; omega)) ⟨hW.1.1, b2i_r _, fun c6 => ?_, fun c6 => ?_⟩⟩
          · rw [b2i_n0, hx] at c6
            have hus := hns.mp c6
            rw [List.filter_cons_of_pos (p := fun z : Tr × Qd => isS z.1) hus] at i3
            simp only [lastI] at i3
            have hw : ∀ ψ : St, Fr udX υ ψ → Fix ψ ∧ ψ.1 47 0 = M.1 ∧ (ψ.1 52 k = wid T M.2.1 u ∧ ψ.1 53 k = hei T M.2.1 u) ∧ Pl ψ T M.2.1 M.1 k u q ∧ ψ.1 42 27 ≤ 12 := fun ψ f => ⟨f.fix hU.1.1 (by decide), (f.2 _ _ rfl).trans hU.1.2.2.1, ⟨(f.2 _ _ rfl).trans hm.1, (f.2 _ _ rfl).trans hm.2.1⟩, b1.ud f, by rw [f.2 _ _ rfl, n1]; omega⟩
            have w1 := hw ω i4
            have hlb : (b2i (L.1 = true) == 1) = L.1 := by cases L.1 <;> rfl
            -- the next place
            have nxt : ∀ (ψ : St) (bb : Int), Fr udX υ ψ → bb = (if hit T M.2.1 M.1 L.1 x y b (u, q) then i else best) → WP E m_M_at (d + 6) 131 [(0, aP 42), (1, aI l), (3, aI x), (4, aI y), (5, aI b), (6, aI bb), (7, aI i), (8, aI k)] [] ψ (fun r τ => ∃ v, r = some (aI v) ∧ σ.2 <+: τ.2 ∧ v = sp_at T M l s x y b ∧ Fr scr σ τ) := by
              intro ψ bb f hbb
              refine b_M_at_131 _ _ _ _ _ _ _ (b_M_at_134 _ _ _ _ _ _ _ ?_)
              have h9 := ih (k + 1, i + 1, bb, ψ) (by show (rc 0 t).length - (k + 1) < (rc 0 t).length - k; omega) ⟨by show k + 1 ≤ _; omega, by show 0 ≤ i + 1 ∧ i + 1 ≤ ((k + 1 : Nat) : Int); omega, by rw [hbb]; exact i3, f⟩
              simp only at h9
              rw [show ((k + 1 : Nat) : Int) = (k : Int) + 1 by omega] at h9
              exact h9
            refine wmi_p (c_M_isLeft' hW hkM hl) ⟨hW.1.1, WMi.mono (c_M_isWithin (g := M.2.1) (sd := M.1) (q := q) (u := u) w1.1 hk.1 hkM.2.1 hkM.1 w1.2.1 (by omega) b2 b3 w1.2.2.1 w1.2.2.2.1 w1.2.2.2.2 (b2i_01 _) c2 c4 (Or.inl ⟨rfl, rfl, rfl⟩)) (fun r ψ hp5 hq5 => ?_)⟩
            obtain ⟨f5, rfl⟩ := hq5
            have f5' := i4.tr f5
            have w2 := hw ψ f5'
            rw [hlb]
            refine ⟨w2.1, b2i_r _, fun c7 => ?_, fun c7 => ?_⟩
            · rw [b2i_0] at c7
              refine nxt ψ best f5' ?_
              rw [if_neg]
              unfold hit
              rw [decide_eq_true_eq]
              exact fun q => c7 q.1
            · rw [b2i_n0] at c7
              refine WMi.mono (c_M_isWithin (g := M.2.1) (sd := M.1) (q := q) (u := u) w2.1 hk.1 hkM.2.1 hkM.1 w2.2.1 (by omega) b2 b3 w2.2.2.1 w2.2.2.2.1 w2.2.2.2.2 (Or.inl rfl) c3 c4 (Or.inr ⟨rfl, rfl, rfl⟩)) (fun r χ hp6 hq6 => ?_)
              obtain ⟨f6, rfl⟩ := hq6
              refine ⟨b2i_r _, fun c8 => nxt χ best (f5'.tr f6) ?_, fun c8 => nxt χ i (f5'.tr f6) ?_⟩
              · rw [b2i_0] at c8
                rw [if_neg]
                unfold hit
                rw [decide_eq_true_eq]
                exact fun q => c8 q.2
              · rw [b2i_n0] at c8
                rw [if_pos]
                unfold hit
                rw [decide_eq_true_eq]
                exact ⟨c7, c8⟩
          · rw [b2i_0, hx] at c6
            rw [List.filter_cons_of_neg (p := fun z : Tr × Qd => isS z.1) (fun q => c6 (hns.mpr q))] at i3
            refine b_M_at_134 _ _ _ _ _ _ _ ?_
            have h9 := ih (k + 1, i, best, ω) (by show (rc 0 t).length - (k + 1) < (rc 0 t).length - k; omega) ⟨by show k + 1 ≤ _; omega, by show 0 ≤ i ∧ i ≤ ((k + 1 : Nat) : Int); omega, i3, i4⟩
            simp only at h9
            rw [show ((k + 1 : Nat) : Int) = (k : Int) + 1 by omega] at h9
            exact h9
      exact key (0, 0, -2, υ) ⟨Nat.zero_le _, by simp, hval.symm, Fr.refl _ _⟩
    · rw [b2i_0] at c4
      rw [hval, if_neg (fun q => c4 q.2.2)]
end MAt
