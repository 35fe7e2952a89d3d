/-- how many are the least -/
def mnC (L : List Rat) : Nat := (L.filter (fun x => L.all (fun y => decide (x ≤ y)))).length
def scL (L : List (Tr × Qd)) : List Rat := L.map (fun z => Rat.divInt z.2.1 z.2.2.1)
def sp_smallest (T : Tb) (M : Mo) (l s : Int) : Int := match sqAt M l s with
  | none => -1
  | some t => (mnC (scL (sLR T M t)) : Int)
theorem sL_hd {T : Tb} {g : Int} {t : Tr} (h : ok t) : ∀ q, ∃ z ∈ sL T g q t, z.2.1 = q.1 ∧ z.2.2.1 = q.2.1 := by
  induction t with
  | var l => intro q; exact ⟨_, by simp [sL]; rfl, rfl, rfl⟩
  | pow t l ih => intro q; exact ⟨(.pow t l, q), by simp [sL], rfl, rfl⟩
  | mul a b iha ihb =>
    intro q
    obtain ⟨z, z1, z2, z3⟩ := iha h.1 (qMa T g a b q)
    exact ⟨z, by simp [sL, z1], z2, z3⟩
  | add a b iha ihb =>
    intro q
    obtain ⟨z, z1, z2, z3⟩ := iha h.1 (qAa T g a b q)
    exact ⟨z, by simp [sL, z1], z2, z3⟩
  | _ => exact absurd h (by simp [ok])
theorem zL_sc {T : Tb} {g : Int} {t : Tr} (h : ok t) : ∀ k q, ∀ y ∈ zL T g k q t, ∃ z ∈ sL T g q t, z.2.1 = y.2.1 ∧ z.2.2.1 = y.2.2.1 := by
  induction t with
  | var l => intro k q y hy; simp only [zL, sb, ly, List.zip_cons_cons, List.zip_nil_left, List.mem_singleton] at hy; subst hy; exact ⟨(.var l, q), by simp [sL], rfl, rfl⟩
  | pow t l ih =>
    intro k q y hy
    simp only [zL, sb, ly, List.zip_cons_cons, List.mem_cons] at hy
    rcases hy with rfl | hy
    · exact ⟨(.pow t l, q), by simp [sL], rfl, rfl⟩
    · obtain ⟨z, z1, z2⟩ := ih h.1 0 (insQ T g l t q) y hy
      exact ⟨z, by simp [sL, z1], z2⟩
  | mul a b iha ihb =>
    intro k q y hy
    have hl := sbly_len T g a 0 (qMa T g a b q)
    have hin : y ∈ zL T g 0 (qMa T g a b q) a ++ zL T g 1 (qMb T g a b q) b → ∃ z ∈ sL T g q (.mul a b), z.2.1 = y.2.1 ∧ z.2.2.1 = y.2.2.1 := by
      intro hy
      rcases List.mem_append.mp hy with hy | hy
      · obtain ⟨z, z1, z2⟩ := iha h.1 0 _ y hy
        exact ⟨z, by simp [sL, z1], z2⟩
      · obtain ⟨z, z1, z2⟩ := ihb h.2.1 1 _ y hy
        exact ⟨z, by simp [sL, z1], z2⟩
    unfold zL at hy
    simp only [sb, ly] at hy
    split at hy
    · rw [List.nil_append, List.nil_append, List.zip_append hl] at hy
      exact hin hy
    · rw [List.singleton_append, List.singleton_append, List.zip_cons_cons, List.zip_append hl] at hy
      rcases List.mem_cons.mp hy with rfl | hy
      · exact sL_hd h q
      · exact hin hy
  | add a b iha ihb =>
    intro k q y hy
    have hl := sbly_len T g a 0 (qAa T g a b q)
    have hin : y ∈ zL T g 0 (qAa T g a b q) a ++ zL T g 2 (qAb T g a b q) b → ∃ z ∈ sL T g q (.add a b), z.2.1 = y.2.1 ∧ z.2.2.1 = y.2.2.1 := by
      intro hy
      rcases List.mem_append.mp hy with hy | hy
      · obtain ⟨z, z1, z2⟩ := iha h.1 0 _ y hy
        exact ⟨z, by simp [sL, z1], z2⟩
      · obtain ⟨z, z1, z2⟩ := ihb h.2.1 2 _ y hy
        exact ⟨z, by simp [sL, z1], z2⟩
    unfold zL at hy
    simp only [sb, ly] at hy
    split at hy
    · rw [List.nil_append, List.nil_append, List.zip_append hl] at hy
      exact hin hy
    · rw [List.singleton_append, List.singleton_append, List.zip_cons_cons, List.zip_append hl] at hy
      rcases List.mem_cons.mp hy with rfl | hy
      · exact sL_hd h q
      · exact hin hy
  | _ => exact absurd h (by simp [ok])
theorem mnC_eq {L : List Rat} {m : Rat} (hm : m ∈ L) (hl : ∀ y ∈ L, m ≤ y) : mnC L = (L.filter (fun x => decide (x = m))).length := by
  unfold mnC
  congr 1
  refine List.filter_congr (fun x hx => ?_)
  rw [Bool.eq_iff_iff, List.all_eq_true, decide_eq_true_eq]
  constructor
  · intro h
    exact Rat.le_antisymm (of_decide_eq_true (h m hm)) (hl x hx)
  · rintro rfl y hy
    exact decide_eq_true (hl y hy)
section MSmall
variable {E : EV} {d : Nat} {σ : St} {T : Tb} {M : Mo} {P : List Mo} {tp : List Int}
theorem c_M_smallest {l s : Int} (h : RS σ T M P tp) (hk : okD T M P tp) (h1 : rI l) (h2 : rI s) : WMi E m_M_smallest (d + 6) [aP 42, aI l, aI s] σ (fun r τ => r = sp_smallest T M l s ∧ Fr scr σ τ) := by
  have hF := h.1.1
  have hkM := hk.2.1
  unfold sp_smallest
  refine e_M_smallest _ _ hF (wmi_p (c_M_isSquare' h hkM h1 h2) ⟨hF, b2i_r _, fun c => ?_, fun c => ?_⟩)
  · rw [b2i_n0] at c
    obtain ⟨t, ht⟩ := Option.isSome_iff_exists.mp c
    obtain ⟨a1, a2, a3, a4, a5, a6, a7⟩ := h.1.2.2.sq hkM ht
    have h10 := a5.2.1
    rw [ht]
    dsimp only
    refine WMv.mono (c_M_takes' h hkM ht) (fun τ hp hq => ?_)
    have hT := h.scr (hq.1.mono (by decide))
    refine ⟨hT.1.1, WMv.mono (c_M_places hT hk hq.2 a5) (fun υ hp2 hq2 => ?_)⟩
    obtain ⟨f2, mz, pl⟩ := hq2
    have hU := hT.scr (f2.mono (by decide))
    have hFU := hU.1.1
    obtain ⟨n, n1, n2, n3⟩ := pl.2.1
    have hRU : RowIs υ (rc 0 t) := hq.2.keep f2 rfl (fun _ => rfl)
    have fu : Fr scr σ υ := (hq.1.mono (by decide)).tr (f2.mono (by decide))
    have hlen := sbly_len T M.2.1 t 0 (rootQ T M t)
    have hzl : (zL T M.2.1 0 (rootQ T M t) t).length = (rc 0 t).length := by unfold zL; rw [List.length_zip, ← hlen, sb_len]; omega
    -- a group's scale
    have gsc : ∀ m : Nat, m < n → ∃ x : Rat, υ.1 55 m = x.num ∧ υ.1 56 m = x.den ∧ x ∈ scL (sLR T M t) ∧ (0 < x.num ∧ x.num ≤ 466948881) ∧ (x.den : Int) ≤ 466948881 := by
      intro m hm
      obtain ⟨j, u, q, b1, b2, b3, b4⟩ := pl.2.2 m (by rw [n1]; omega)
      obtain ⟨c1, c2, c3⟩ := pl.1 j u q b1 b2
      have hsz := okU_sz hk.1 hkM.2.1 c2
      have qn := okQ_n c3 hkM.1 hsz.1.1 hsz.2.1
      have sb := rat_bd (n := q.1) (N := q.2.1) qn.1.1 (L := 466948881) (by omega)
      have sp := rat_num_pos (S := q.1) (D := q.2.1) qn.2.1.1 qn.1.1
      refine ⟨Rat.divInt q.1 q.2.1, b3, b4, ?_, by omega, by omega⟩
      have hz : (zL T M.2.1 0 (rootQ T M t) t)[j]? = some (u, q) := by unfold zL; rw [List.getElem?_zip_eq_some]; exact ⟨b1, b2⟩
      obtain ⟨z, z1, z2, z3⟩ := zL_sc a5.1 0 _ (u, q) (List.mem_of_getElem? hz)
      exact List.mem_map.mpr ⟨z, z1, by rw [z2, z3]⟩
    -- a sign's scale is its group's
    have ssc : ∀ (k : Nat) u q, (sb 0 t)[k]? = some u → (lyR T M t)[k]? = some q → ∃ m : Nat, υ.1 61 k = m ∧ m < n ∧ υ.1 55 m = (Rat.divInt q.1 q.2.1).num ∧ υ.1 56 m = (Rat.divInt q.1 q.2.1).den := by
      intro k u q b1 b2
      obtain ⟨m, L, U, ⟨c1, c2⟩, c3, -⟩ := (pl.1 k u q b1 b2).1
      exact ⟨m, c1, by rw [n1] at c2; omega, c3.1.1, c3.1.2⟩
    -- the second loop
    have second : ∀ m : Nat, m < n → (∀ m' : Nat, m' < n → ∀ x x' : Rat, υ.1 55 m = x.num → υ.1 56 m = x.den → υ.1 55 m' = x'.num → υ.1 56 m' = x'.den → x ≤ x') → WP E m_M_smallest (d + 6) 82 [(0, aP 42), (3, aI m), (4, aI 0), (5, aI 0)] [] υ (fun r τ => ∃ v, r = some (aI v) ∧ σ.2 <+: τ.2 ∧ v = (mnC (scL (sLR T M t)) : Int) ∧ Fr scr σ τ) := by
      intro m hm hmin
      obtain ⟨x, x1, x2, x3, x4, x5⟩ := gsc m hm
      have hle : ∀ y ∈ scL (sLR T M t), x ≤ y := by
        intro y hy
        obtain ⟨z, z1, rfl⟩ := List.mem_map.mp hy
        have hz : z ∈ zL T M.2.1 0 (rootQ T M t) t := by
          have : z ∈ (zL T M.2.1 0 (rootQ T M t) t).filter (fun z => isS z.1) := by rw [zL_sL a5.1]; exact z1
          exact (List.mem_filter.mp this).1
        obtain ⟨k, hk2⟩ := List.getElem?_of_mem hz
        unfold zL at hk2
        rw [List.getElem?_zip_eq_some] at hk2
        obtain ⟨m', c1, c2, c3, c4⟩ := ssc k z.1 z.2 hk2.1 hk2.2
        exact hmin m' c2 x _ x1 x2 c3 c4
      have htot : ∀ k : Nat, (((zL T M.2.1 0 (rootQ T M t) t).take k).filter (fun z => isS z.1 && decide (Rat.divInt z.2.1 z.2.2.1 = x))).length ≤ k := fun k => Nat.le_trans (List.length_filter_le _ _) (by rw [List.length_take]; omega)
      have hfin : ((zL T M.2.1 0 (rootQ T M t) t).filter (fun z => isS z.1 && decide (Rat.divInt z.2.1 z.2.2.1 = x))).length = mnC (scL (sLR T M t)) := by
        rw [mnC_eq x3 hle]
        unfold scL
        rw [List.filter_map, List.length_map]
        show _ = (List.filter _ (sL T M.2.1 (rootQ T M t) t)).length
        rw [← zL_sL a5.1 0, List.filter_filter]
        congr 1
        refine List.filter_congr (fun z _ => ?_)
        simp [Bool.and_comm]
      have key : ∀ k : Nat, k ≤ (rc 0 t).length → WP E m_M_smallest (d + 6) 82 [(0, aP 42), (3, aI m), (4, aI ((((zL T M.2.1 0 (rootQ T M t) t).take k).filter (fun z => isS z.1 && decide (Rat.divInt z.2.1 z.2.2.1 = x))).length : Nat)), (5, aI k)] [] υ (fun r τ => ∃ v, r = some (aI v) ∧ σ.2 <+: τ.2 ∧ v = (mnC (scL (sLR T M t)) : Int) ∧ Fr scr σ τ) := by
        refine lpx (fun k => (rc 0 t).length - k) _ _ (fun k hI ih => ?_)
        have ht2 := htot k
        refine b_M_smallest_82 _ _ _ hFU ⟨by omega, by rw [hRU.1]; omega, fun c5 => ?_, fun c5 => ?_⟩
        · rw [hRU.1] at c5
          refine ⟨_, rfl, pre_eq fu.1, ?_, fu⟩
          rw [List.take_of_length_le (by omega), hfin]
        · rw [hRU.1] at c5
          have hkl : k < (zL T M.2.1 0 (rootQ T M t) t).length := by omega
          have hze := List.getElem?_eq_getElem hkl
          have h9 := ih (k + 1) (by omega) (by omega)
          rw [List.take_add_one, hze, Option.toList_some, List.filter_append, List.length_append] at h9
          generalize (zL T M.2.1 0 (rootQ T M t) t)[k] = z at hze h9
          obtain ⟨u, q⟩ := z
          unfold zL at hze
          rw [List.getElem?_zip_eq_some] at hze
          obtain ⟨z1, z2⟩ := hze
          obtain ⟨m', c1, c2, c3, c4⟩ := ssc k u q z1 z2
          obtain ⟨x', y1, y2, y3, y4, y5⟩ := gsc m' c2
          have hxq : x' = Rat.divInt q.1 q.2.1 := Rat.ext (by rw [← y1, c3]) (by have := y2.symm.trans c4; omega)
          obtain ⟨u1, u2, u3, u4⟩ := sbT_at a5.1 0 (υ.1 50) 0 hRU.2 k u z1
          rw [show (0 : Int) + (k : Int) = k by omega] at u1
          have hx : υ.1 50 k = nd u := by have h9 := u1; rw [rc0_nd u2] at h9; exact h9.hd
          have hnd := nd_pts u2 (by omega)
          have hns := nd_S u2 (by omega)
          generalize (((zL T M.2.1 0 (rootQ T M t) t).take k).filter (fun z => isS z.1 && decide (Rat.divInt z.2.1 z.2.2.1 = x))).length = cc at *
          have nxt : ∀ c' : Int, c' = cc + (List.filter (fun z : Tr × Qd => isS z.1 && decide (Rat.divInt z.2.1 z.2.2.1 = x)) [(u, q)]).length → WP E m_M_smallest (d + 6) 150 [(0, aP 42), (3, aI m), (4, aI c'), (5, aI k)] [] υ (fun r τ => ∃ v, r = some (aI v) ∧ σ.2 <+: τ.2 ∧ v = (mnC (scL (sLR T M t)) : Int) ∧ Fr scr σ τ) := by
            intro c' hc'
            refine b_M_smallest_150 _ _ _ ?_
            rw [hc']
            rw [show ((k + 1 : Nat) : Int) = (k : Int) + 1 by omega, Int.natCast_add] at h9
            exact h9
          refine ⟨by omega, by omega, wmi_p (c_M_isSign (by rw [hx]; omega)) ⟨hFU, b2i_r _, fun c6 => nxt _ ?_, fun c6 => ?_⟩⟩
          · rw [b2i_0, hx] at c6
            have : isS u = false := by cases hh : isS u with | false => rfl | true => exact absurd (hns.mpr hh) c6
            simp [this]
          · rw [b2i_n0, hx] at c6
            have hus := hns.mp c6
            rw [c1, y1, y2, x1, x2]
            have hd1 := x'.den_nz
            have hd2 := x.den_nz
            refine ⟨by omega, by omega, by unfold rL; omega, by unfold rL; omega, fun c7 => nxt _ ?_, fun c7 => ⟨by omega, by omega, by unfold rL; omega, by unfold rL; omega, fun c8 => nxt _ ?_, fun c8 => nxt _ ?_⟩⟩
            · have : ¬ (Rat.divInt q.1 q.2.1 = x) := fun e => c7 (by rw [hxq, e])
              simp [this]
            · have : ¬ (Rat.divInt q.1 q.2.1 = x) := fun e => c8 (by rw [hxq, e])
              simp [this]
            · have : Rat.divInt q.1 q.2.1 = x := by rw [← hxq]; exact Rat.ext c7 (by omega)
              simp [this, hus]
      exact key 0 (Nat.zero_le _)
    -- the first loop
    have first : ∀ z : Nat × Nat, (z.1 ≤ n ∧ z.2 < z.1 ∧ ∀ m' : Nat, m' < z.1 → ∀ x x' : Rat, υ.1 55 z.2 = x.num → υ.1 56 z.2 = x.den → υ.1 55 m' = x'.num → υ.1 56 m' = x'.den → x ≤ x') → WP E m_M_smallest (d + 6) 26 [(0, aP 42), (3, aI z.2), (4, aI z.1)] [] υ (fun r τ => ∃ v, r = some (aI v) ∧ σ.2 <+: τ.2 ∧ v = (mnC (scL (sLR T M t)) : Int) ∧ Fr scr σ τ) := by
      refine lpx (fun z => n - z.1) _ _ (fun z hI ih => ?_)
      obtain ⟨k, m⟩ := z
      obtain ⟨i1, i2, i3⟩ := hI
      simp only at i1 i2 i3 ih ⊢
      refine b_M_smallest_26 _ _ hFU ⟨by omega, by rw [n1]; omega, fun c5 => ?_, fun c5 => ?_⟩
      · rw [n1] at c5
        have : k = n := by omega
        subst this
        exact second m i2 i3
      · rw [n1] at c5
        obtain ⟨x, x1, x2, x3, x4, x5⟩ := gsc m (by omega)
        obtain ⟨y, y1, y2, y3, y4, y5⟩ := gsc k (by omega)
        rw [x1, x2, y1, y2]
        have r1 := mul_bd (a := y.num) (A := 466948881) (b := (x.den : Int)) (B := 466948881) (by omega) (by omega) (by omega)
        have r2 := mul_bd (a := x.num) (A := 466948881) (b := (y.den : Int)) (B := 466948881) (by omega) (by omega) (by omega)
        have hcmp := Rat.le_iff x y
        have uq : ∀ (w : Rat) (e : Rat), e.num = w.num → (e.den : Int) = w.den → e = w := fun w e a b => Rat.ext a (by omega)
        refine ⟨by omega, by omega, by omega, by omega, by unfold rL; omega, by unfold rL; omega, fun c6 => b_M_smallest_70 _ _ ?_, fun c6 => b_M_smallest_70 _ _ ?_⟩
        · have h9 := ih (k + 1, m) (by show n - (k + 1) < n - k; omega) ⟨by show k + 1 ≤ n; omega, by show m < k + 1; omega, fun m' hm' w w' e1 e2 e3 e4 => ?_⟩
          · simp only at h9
            rw [show ((k + 1 : Nat) : Int) = (k : Int) + 1 by omega] at h9
            exact h9
          · simp only at e1 e2 hm'
            by_cases hmk : m' = k
            · subst hmk
              have q1 := uq w x (x1.symm.trans e1) (x2.symm.trans e2)
              have q2 := uq w' y (y1.symm.trans e3) (y2.symm.trans e4)
              rw [← q1, ← q2]
              exact hcmp.mpr c6
            · exact i3 m' (by omega) w w' e1 e2 e3 e4
        · have h9 := ih (k + 1, k) (by show n - (k + 1) < n - k; omega) ⟨by show k + 1 ≤ n; omega, by show k < k + 1; omega, fun m' hm' w w' e1 e2 e3 e4 => ?_⟩
          · simp only at h9
            rw [show ((k + 1 : Nat) : Int) = (k : Int) + 1 by omega] at h9
            exact h9
          · simp only at e1 e2 hm'
            have q1 := uq w y (y1.symm.trans e1) (y2.symm.trans e2)
            by_cases hmk : m' = k
            · subst hmk
              have q2 := uq w' y (y1.symm.trans e3) (y2.symm.trans e4)
              rw [← q1, ← q2]
              exact Rat.le_refl
            · have h8 := i3 m' (by omega) x w' x1 x2 e3 e4
              have h7 : ¬ x ≤ y := fun q => c6 (hcmp.mp q)
              rw [← q1]
              exact Rat.le_trans (Rat.le_of_lt (Rat.not_le.mp h7)) h8
    exact first (1, 0) ⟨n2, by decide, fun m' hm' w w' e1 e2 e3 e4 => by
      simp only at e1 e2 hm'
      have : m' = 0 := by omega
      subst this
      have : w = w' := Rat.ext (e1.symm.trans e3) (by have := e2.symm.trans e4; omega)
      rw [this]
      exact Rat.le_refl⟩
  · rw [b2i_0] at c
    refine ⟨_, rfl, List.prefix_refl _, ?_, Fr.refl _ _⟩
    cases hs : sqAt M l s with
    | none => rfl
    | some t => exact absurd (by simp [hs]) c
end MSmall
