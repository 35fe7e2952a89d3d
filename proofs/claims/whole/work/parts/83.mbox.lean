/-! BOXES: signs with their places, in their order -/
theorem rc_map {t : Tr} (h : ok t) : ∀ k, rc k t = (sb k t).map nd := by
  induction t with
  | var l => intro k; simp [rc, sb, nd]
  | pow t l ih => intro k; simp [rc, sb, nd, ih h.1]
  | mul a b iha ihb =>
    intro k
    have e : nd (.mul a b) = (nM b : Int) + 201 := by show ((nM b + 1 : Nat) : Int) + 200 = _; omega
    simp only [rc, sb]
    split <;> simp [iha h.1, ihb h.2.1, e]
  | add a b iha ihb =>
    intro k
    have e : nd (.add a b) = (nA b : Int) + 301 := by show ((nA b + 1 : Nat) : Int) + 300 = _; omega
    simp only [rc, sb]
    split <;> simp [iha h.1, ihb h.2.1, e]
  | _ => exact absurd h (by simp [ok])
def sL (T : Tb) (g : Int) : Qd → Tr → List (Tr × Qd)
  | q, .var l => [(.var l, q)]
  | q, .pow t l => (.pow t l, q) :: sL T g (insQ T g l t q) t
  | q, .mul a b => sL T g (qMa T g a b q) a ++ sL T g (qMb T g a b q) b
  | q, .add a b => sL T g (qAa T g a b q) a ++ sL T g (qAb T g a b q) b
  | _, _ => []
abbrev sLR (T : Tb) (M : Mo) (t : Tr) : List (Tr × Qd) := sL T M.2.1 (rootQ T M t) t
theorem sL_len (T : Tb) (g : Int) (t : Tr) : ∀ q, (sL T g q t).length = sg t := by
  induction t with
  | mul a b iha ihb => intro q; simp [sL, sg, iha, ihb]
  | add a b iha ihb => intro q; simp [sL, sg, iha, ihb]
  | pow t l ih => intro q; simp [sL, sg, ih]
  | _ => intro q; simp [sL, sg]
def zL (T : Tb) (g : Int) (k : Nat) (q : Qd) (t : Tr) : List (Tr × Qd) := (sb k t).zip (ly T g k q t)
theorem sbly_len (T : Tb) (g : Int) (t : Tr) (k : Nat) (q : Qd) : (sb k t).length = (ly T g k q t).length := by rw [sb_len, ly_len]
theorem zL_sL {T : Tb} {g : Int} {t : Tr} (h : ok t) : ∀ k q, (zL T g k q t).filter (fun z => isS z.1) = sL T g q t := by
  induction t with
  | var l => intro k q; simp [zL, sb, ly, sL, isS]
  | pow t l ih =>
    intro k q
    have h1 := ih h.1 0 (insQ T g l t q)
    unfold zL at h1 ⊢
    simp only [sb, ly, sL, List.zip_cons_cons]
    rw [List.filter_cons_of_pos (by rfl), h1]
  | mul a b iha ihb =>
    intro k q
    have h1 := iha h.1 0 (qMa T g a b q)
    have h2 := ihb h.2.1 1 (qMb T g a b q)
    unfold zL at h1 h2 ⊢
    have hl := sbly_len T g a 0 (qMa T g a b q)
    simp only [sb, ly, sL]
    split
    · rw [List.nil_append, List.nil_append, List.zip_append hl, List.filter_append, h1, h2]
    · rw [List.singleton_append, List.singleton_append, List.zip_cons_cons, List.filter_cons_of_neg (by simp [isS]), List.zip_append hl, List.filter_append, h1, h2]
  | add a b iha ihb =>
    intro k q
    have h1 := iha h.1 0 (qAa T g a b q)
    have h2 := ihb h.2.1 2 (qAb T g a b q)
    unfold zL at h1 h2 ⊢
    have hl := sbly_len T g a 0 (qAa T g a b q)
    simp only [sb, ly, sL]
    split
    · rw [List.nil_append, List.nil_append, List.zip_append hl, List.filter_append, h1, h2]
    · rw [List.singleton_append, List.singleton_append, List.zip_cons_cons, List.filter_cons_of_neg (by simp [isS]), List.zip_append hl, List.filter_append, h1, h2]
  | _ => exact absurd h (by simp [ok])
theorem flt_at {α : Type} (p : α → Bool) {L : List α} {j : Nat} {z : α} (h : L[j]? = some z) (hz : p z = true) : (L.filter p)[((L.take j).filter p).length]? = some z := by
  have hj := (List.getElem?_eq_some_iff.mp h)
  have e : L = L.take j ++ z :: L.drop (j + 1) := by
    rw [← hj.2, List.getElem_cons_drop, List.take_append_drop]
  conv => lhs; arg 1; rw [e]
  rw [List.filter_append, List.getElem?_append_right (Nat.le_refl _), Nat.sub_self, List.filter_cons_of_pos hz]
  rfl
theorem nd_S {u : Tr} (h : ok u) (h50 : sg u ≤ 50) : nd u < 200 ↔ isS u = true := by
  have h1 := (nd_j h h50).1
  have h2 : isS u = true ↔ isJ u = false := ⟨fun q => by cases u <;> simp_all [isS, isJ, isM, isA], fun q => (isS_tn h q).1⟩
  rw [h2]
  constructor
  · intro q; cases hh : isJ u with | false => rfl | true => exact absurd (h1.mpr hh) (by omega)
  · intro q; refine Int.not_le.mp (fun c => ?_); rw [h1.mp c] at q; cases q
theorem cnt_flt : ∀ (A : List (Tr × Qd)), (∀ z ∈ A, ok z.1 ∧ sg z.1 ≤ 50) → cnt (A.map (fun z => nd z.1)) = (A.filter (fun z => isS z.1)).length
  | [], _ => rfl
  | z :: A, h => by
    have hz := h z List.mem_cons_self
    have ih := cnt_flt A (fun y hy => h y (List.mem_cons_of_mem _ hy))
    have hs := nd_S hz.1 hz.2
    simp only [List.map_cons, cnt, ih]
    by_cases hh : isS z.1 = true
    · rw [if_pos (hs.mpr hh), List.filter_cons_of_pos (p := fun z : Tr × Qd => isS z.1) hh, List.length_cons]; omega
    · rw [if_neg (fun q => hh (hs.mp q)), List.filter_cons_of_neg (p := fun z : Tr × Qd => isS z.1) hh]; omega
/-- at the place of the i-th sign stands the i-th sign -/
theorem sL_at {T : Tb} {g : Int} {t : Tr} (h : ok t) (h50 : sg t ≤ 50) {q : Qd} {A B : List Int} {i : Nat} (hi : i < sg t) (hA : cnt A = i) (hr : rc 0 t = A ++ (rc 0 (sgi t i) ++ B)) : ∃ p, (sb 0 t)[A.length]? = some (sgi t i) ∧ (ly T g 0 q t)[A.length]? = some p ∧ (sL T g q t)[i]? = some (sgi t i, p) := by
  obtain ⟨A', B', p1, p2, p3⟩ := dq_sign h i hi 0 0
  have hs := sgi_isS h i hi
  obtain ⟨x, C, c1, c2⟩ := rc_first hs.2.1 hs.1
  have hAl : A.length < (rc 0 t).length := by rw [hr, c1]; simp
  have hlen := sbly_len T g t 0 q
  have hsb : A.length < (sb 0 t).length := by rw [sb_len]; exact hAl
  have hly : A.length < (ly T g 0 q t).length := by omega
  have hz : (zL T g 0 q t)[A.length]? = some ((sb 0 t)[A.length], (ly T g 0 q t)[A.length]) := by
    unfold zL
    rw [List.getElem?_zip_eq_some]
    exact ⟨List.getElem?_eq_getElem hsb, List.getElem?_eq_getElem hly⟩
  obtain ⟨u1, u2, u3, u4⟩ := sbT_at h 0 (fun j => (rc 0 t).getD j.toNat 0) 0 (fun j hj => by show (rc 0 t).getD ((0 : Int) + (j : Int)).toNat 0 = _; rw [show ((0 : Int) + (j : Int)).toNat = j by omega]) A.length _ (List.getElem?_eq_getElem hsb)
  have hok : ∀ z ∈ zL T g 0 q t, ok z.1 ∧ sg z.1 ≤ 50 := by
    intro z hz
    obtain ⟨j, hj⟩ := List.getElem?_of_mem (List.of_mem_zip hz).1
    obtain ⟨-, v2, v3, -⟩ := sbT_at h 0 (fun j => (rc 0 t).getD j.toNat 0) 0 (fun j hj => by show (rc 0 t).getD ((0 : Int) + (j : Int)).toNat 0 = _; rw [show ((0 : Int) + (j : Int)).toNat = j by omega]) j _ hj
    exact ⟨v2, by omega⟩
  have hnd : nd (sb 0 t)[A.length] = x := by
    have e := congrArg (fun L => L[A.length]?) (rc_map h 0)
    simp only [List.getElem?_map, List.getElem?_eq_getElem hsb, Option.map_some] at e
    rw [hr, c1, List.getElem?_append_right (Nat.le_refl _)] at e
    simpa using e.symm
  have hzs : isS (sb 0 t)[A.length] = true := (nd_S u2 (by omega)).mp (by rw [hnd]; exact c2)
  have hf := flt_at (fun z : Tr × Qd => isS z.1) hz hzs
  rw [zL_sL h] at hf
  have hc : ((zL T g 0 q t).take A.length |>.filter (fun z => isS z.1)).length = i := by
    rw [← cnt_flt _ (fun z hz => hok z (List.mem_of_mem_take hz)), List.map_take]
    have e2 : (zL T g 0 q t).map (fun z => nd z.1) = rc 0 t := by
      unfold zL
      rw [rc_map h 0]
      have : (fun z : Tr × Qd => nd z.1) = nd ∘ Prod.fst := rfl
      rw [this, ← List.map_map, List.map_fst_zip (by omega)]
    rw [e2, hr]
    simp [hA]
  rw [hc] at hf
  -- which sign it is
  have hme : (sb 0 t)[A.length] = sgi t i := by
    have key : ∀ (t : Tr) (k : Nat), ok t → ∀ (i : Nat) (q : Qd), i < sg t → ∃ p, (sL T g q t)[i]? = some (sgi t i, p) := by
      intro t
      induction t with
      | var l => intro k h i q hi; have : i = 0 := by simp [sg] at hi; omega
                 subst this; exact ⟨q, rfl⟩
      | pow t l ih =>
        intro k h i q hi
        simp only [sg] at hi
        by_cases h0 : i = 0
        · subst h0; exact ⟨q, rfl⟩
        · obtain ⟨p, hp⟩ := ih 0 h.1 (i - 1) (insQ T g l t q) (by omega)
          refine ⟨p, ?_⟩
          simp only [sL, sgi, if_neg h0]
          rw [show i = i - 1 + 1 by omega, List.getElem?_cons_succ]
          exact hp
      | mul a b iha ihb =>
        intro k h i q hi
        simp only [sg] at hi
        simp only [sL, sgi]
        by_cases hlt : i < sg a
        · obtain ⟨p, hp⟩ := iha 0 h.1 i (qMa T g a b q) hlt
          exact ⟨p, by rw [List.getElem?_append_left (by rw [sL_len]; exact hlt), if_pos hlt]; exact hp⟩
        · obtain ⟨p, hp⟩ := ihb 0 h.2.1 (i - sg a) (qMb T g a b q) (by omega)
          exact ⟨p, by rw [List.getElem?_append_right (by rw [sL_len]; omega), sL_len, if_neg hlt]; exact hp⟩
      | add a b iha ihb =>
        intro k h i q hi
        simp only [sg] at hi
        simp only [sL, sgi]
        by_cases hlt : i < sg a
        · obtain ⟨p, hp⟩ := iha 0 h.1 i (qAa T g a b q) hlt
          exact ⟨p, by rw [List.getElem?_append_left (by rw [sL_len]; exact hlt), if_pos hlt]; exact hp⟩
        · obtain ⟨p, hp⟩ := ihb 0 h.2.1 (i - sg a) (qAb T g a b q) (by omega)
          exact ⟨p, by rw [List.getElem?_append_right (by rw [sL_len]; omega), sL_len, if_neg hlt]; exact hp⟩
      | _ => intro k h; exact absurd h (by simp [ok])
    obtain ⟨p, hp⟩ := key t 0 h i q hi
    rw [hp] at hf
    exact (congrArg Prod.fst (Option.some.inj hf)).symm
  refine ⟨(ly T g 0 q t)[A.length], by rw [List.getElem?_eq_getElem hsb, hme], List.getElem?_eq_getElem hly, ?_⟩
  rw [hf, hme]
/-- a sign's box: left, top, width, height, scale -/
def bxR (T : Tb) (g sd : Int) (mr : Bool) (z : Tr × Qd) (w : Int) : Rat :=
  if w = 0 then (if mr then Rat.divInt (2 * sd * z.2.2.1 - z.2.2.2.1 - z.2.1 * wid T g z.1) (2 * z.2.2.1) else Rat.divInt (z.2.2.2.1 - z.2.1 * wid T g z.1) (2 * z.2.2.1))
  else if w = 1 then Rat.divInt (z.2.2.2.2 - z.2.1 * hei T g z.1) (2 * z.2.2.1)
  else if w = 2 then Rat.divInt (z.2.1 * wid T g z.1) z.2.2.1
  else if w = 3 then Rat.divInt (z.2.1 * hei T g z.1) z.2.2.1
  else Rat.divInt z.2.1 z.2.2.1
def sp_box (T : Tb) (M : Mo) (l s i sd w : Int) : Int := match lnAt M l with
  | none => -1
  | some L => match sqIn L s with
    | none => -1
    | some t => if 0 ≤ i ∧ (0 ≤ sd ∧ sd ≤ 4) ∧ 0 ≤ w ∧ w ≤ 1 then match (sLR T M t)[i.toNat]? with
        | none => -1
        | some z => tm (bxR T M.2.1 M.1 L.1 z sd) w
      else -1
theorem rat_s1 {S D w : Int} (hD : 0 < D) {s : Rat} (hs : s = Rat.divInt S D) : Rat.divInt (w * s.num) (s.den : Int) = Rat.divInt (S * w) D := by
  have := rat_sc (n := w) (d := 1) hD hs
  rw [Int.mul_one, Int.mul_one, Int.mul_comm s.num w] at this
  exact this
section MBox
variable {E : EV} {d : Nat} {σ : St} {T : Tb} {M : Mo} {P : List Mo} {tp : List Int}
theorem c_M_boxOf {k : Nat} {g sd w mr : Int} {u : Tr} {q : Qd} (hF : Fix σ) (hkT : okTab T) (hg : 0 ≤ g ∧ g ≤ 3) (hsd : 1 ≤ sd ∧ sd ≤ 24) (hn : σ.1 47 0 = sd) (hk : k < 24) (hu : okU T u) (hq : okQ T g sd u q) (hz : σ.1 52 k = wid T g u ∧ σ.1 53 k = hei T g u) (hpl : Pl σ T g sd k u q) (hgr : σ.1 42 27 ≤ 12) (hw : rI w) (hmr : mr = 0 ∨ mr = 1) (hw4 : 0 ≤ w ∧ w ≤ 4) :
    WMv E m_M_boxOf (d + 3) [aP 42, aI k, aI w, aI mr] σ (fun τ => Fr udX σ τ ∧ Told τ (bxR T g sd (mr == 1) (u, q) w)) := by
  have hsz := okU_sz hkT hg hu
  have qn := okQ_n hq hsd hsz.1.1 hsz.2.1
  have hqw := hq.2.2
  obtain ⟨n0, L, U, ⟨pg, pgl⟩, ⟨⟨ga1, ga2⟩, ⟨gb1, gb2⟩, gc1, gc2⟩, ⟨⟨pa1, pa2⟩, pd1, pd2⟩, ⟨px, py⟩, ⟨pL0, pL1⟩, pU0, pU1⟩ := hpl
  have hn0b : (0 : Int) ≤ n0 ∧ (n0 : Int) < 12 := by omega
  have hkb : (0 : Int) ≤ k ∧ (k : Int) < 24 := by omega
  generalize hs : Rat.divInt q.1 q.2.1 = s at ga1 ga2
  have sb := rat_bd (n := q.1) (N := q.2.1) qn.1.1 (L := 466948881) (by omega)
  have sp := rat_num_pos (S := q.1) (D := q.2.1) qn.2.1.1 qn.1.1
  rw [hs] at sb sp
  have Lb := rat_bd (n := L) (N := 2 * q.2.1) (by omega) (L := 22413546288) (by omega)
  have Ub := rat_bd (n := U) (N := 2 * q.2.1) (by omega) (L := 22413546288) (by omega)
  have m1 : wid T g u * s.num ≤ 147 * 466948881 := Int.mul_le_mul hsz.1.2 sb.1.2 (by omega) (by omega)
  have m2 : hei T g u * s.num ≤ 147 * 466948881 := Int.mul_le_mul hsz.2.2 sb.1.2 (by omega) (by omega)
  have m3 := Int.mul_pos (show 0 < wid T g u by omega) sp
  have m4 := Int.mul_pos (show 0 < hei T g u by omega) sp
  unfold bxR
  dsimp only
  refine e_M_boxOf _ _ _ hF ⟨hkb, hw, fun c => ?_, fun c => ?_, fun c => ?_, fun c => ?_, fun c => ?_⟩
  · rw [if_pos c]
    rw [pg, gb1, gb2]
    refine ⟨hn0b, hn0b, WMv.mono (c_M_tells hF (by omega) (by omega)) (fun τ1 p1 q1 => ?_)⟩
    rw [Rat.num_divInt_den] at q1
    have F1 := q1.1.fix hF (by decide)
    rw [q1.1.2 62 _ rfl, q1.1.2 55 _ rfl, q1.1.2 56 _ rfl, ga1, ga2]
    refine ⟨F1, hkb, by omega, hn0b, hn0b, WMv.mono (c_M_plusS (S := q.1) (X := L) F1 q1.2 rfl qn.1 hs.symm (by omega)) (fun τ2 p2 q2 => ?_)⟩
    rw [← px] at q2
    have F2 := q2.1.fix F1 (by decide)
    have f2 : Fr udX σ τ2 := q1.1.tr q2.1
    refine ⟨F2, by omega, fun c2 => ?_, fun c2 => ?_⟩
    · have hmr1 : (mr == 1) = true := by rcases hmr with h | h; omega; rw [h]; rfl
      rw [hmr1, if_pos rfl]
      rw [f2.2 52 _ rfl, f2.2 55 _ rfl, f2.2 56 _ rfl, ga1, ga2, hz.1]
      have e1 : q.2.2.1 - q.1 * wid T g u + wid T g u * q.1 * 2 = q.2.2.1 + q.1 * wid T g u := by rw [Int.mul_comm (wid T g u) q.1]; omega
      refine ⟨hkb, by omega, hn0b, hn0b, WMv.mono (c_M_plusT (S := q.1) (X := q.2.2.1 - q.1 * wid T g u) F2 q2.2 rfl qn.1 hs.symm (by rw [e1]; omega)) (fun τ3 p3 q3 => ?_)⟩
      rw [e1] at q3
      have F3 := q3.1.fix F2 (by decide)
      have f3 : Fr udX σ τ3 := f2.tr q3.1
      have fw : Fr udX τ3 (wr τ3 42 16 (-(τ3.1 42 16))) := Fr.wr (frO_k (by decide))
      have F4 := fw.fix F3 (by decide)
      have t4 : Told (wr τ3 42 16 (-(τ3.1 42 16))) (Rat.divInt (-(q.2.2.1 + q.1 * wid T g u)) (2 * q.2.1)) := by
        rw [← Rat.neg_divInt]
        exact ⟨by rw [wr_same, q3.2.1]; rfl, by rw [wr_nk _ (by decide), q3.2.2]; rfl⟩
      have e2 : -(q.2.2.1 + q.1 * wid T g u) + sd * (2 * q.2.1) = 2 * sd * q.2.1 - q.2.2.1 - q.1 * wid T g u := by rw [← Int.mul_assoc, Int.mul_comm sd 2]; omega
      rw [f3.2 47 _ rfl, hn]
      refine ⟨F3, by omega, WMv.mono (c_M_plus (n := -(q.2.2.1 + q.1 * wid T g u)) (N := 2 * q.2.1) (a := sd) (b := 1) (c := 2 * q.2.1) F4 t4 rfl (by omega) (by omega) (by omega) (by rw [e2]; omega)) (fun τ5 p5 q5 => ?_)⟩
      rw [e2] at q5
      exact ⟨rfl, pre_eq ((f3.tr fw).tr q5.1).1, (f3.tr fw).tr q5.1, q5.2⟩
    · have hmr0 : (mr == 1) = false := by rw [c2]; rfl
      rw [hmr0, if_neg (by decide)]
      exact ⟨rfl, pre_eq f2.1, f2, q2.2⟩
  · rw [if_neg (by omega), if_pos c, pg, gc1, gc2]
    refine ⟨hn0b, hn0b, WMv.mono (c_M_tells hF (by omega) (by omega)) (fun τ1 p1 q1 => ?_)⟩
    rw [Rat.num_divInt_den] at q1
    have F1 := q1.1.fix hF (by decide)
    rw [q1.1.2 63 _ rfl, q1.1.2 55 _ rfl, q1.1.2 56 _ rfl, ga1, ga2]
    refine ⟨F1, hkb, by omega, hn0b, hn0b, WMv.mono (c_M_plusS (S := q.1) (X := U) F1 q1.2 rfl qn.1 hs.symm (by omega)) (fun τ2 p2 q2 => ?_)⟩
    rw [← py] at q2
    exact ⟨rfl, pre_eq (q1.1.tr q2.1).1, q1.1.tr q2.1, q2.2⟩
  · rw [if_neg (by omega), if_neg (by omega), if_pos c, pg, ga1, ga2, hz.1]
    refine ⟨hkb, by omega, hn0b, hn0b, WMv.mono (c_M_tells hF (by omega) (by omega)) (fun τ1 p1 q1 => ⟨rfl, p1, q1.1, ?_⟩)⟩
    rw [rat_s1 qn.1.1 hs.symm] at q1
    exact q1.2
  · rw [if_neg (by omega), if_neg (by omega), if_neg (by omega), if_pos c, pg, ga1, ga2, hz.2]
    refine ⟨hkb, by omega, hn0b, hn0b, WMv.mono (c_M_tells hF (by omega) (by omega)) (fun τ1 p1 q1 => ⟨rfl, p1, q1.1, ?_⟩)⟩
    rw [rat_s1 qn.1.1 hs.symm] at q1
    exact q1.2
  · rw [if_neg (by omega), if_neg (by omega), if_neg (by omega), if_neg (by omega), pg, ga1, ga2]
    refine ⟨hn0b, hn0b, WMv.mono (c_M_tells hF (by omega) (by omega)) (fun τ1 p1 q1 => ⟨rfl, p1, q1.1, ?_⟩)⟩
    rw [Rat.num_divInt_den] at q1
    rw [hs]
    exact q1.2
theorem c_M_box {l s i sd w : Int} (h : RS σ T M P tp) (hk : okD T M P tp) (h1 : rI l) (h2 : rI s) (h3 : rI i) (h4 : rI sd) (h5 : rI w) : WMl E m_M_box (d + 6) [aP 42, aI l, aI s, aI i, aI sd, aI w] σ (fun r τ => r = sp_box T M l s i sd w ∧ Fr scr σ τ) := by
  have hF := h.1.1
  have hkM := hk.2.1
  have hnone : ∀ {τ : St}, Fr [(50, -1), (42, 10)] σ τ → sp_box T M l s i sd w = -1 → ∃ v, some (aL (-1)) = some (aL v) ∧ σ.2 <+: τ.2 ∧ v = sp_box T M l s i sd w ∧ Fr scr σ τ := fun hf he => ⟨_, rfl, pre_eq hf.1, he.symm, hf.mono (by decide)⟩
  refine e_M_box _ _ _ _ _ hF (WMi.mono (c_M_takesSign h hkM h1 h2 h3) (fun r τ hp hq => ?_))
  obtain ⟨hf, hq⟩ := hq
  have hT := h.scr (hf.mono (by decide))
  have hTF := hT.1.1
  rcases sq_cases M l s with ⟨L, t, hl, hs, hsq⟩ | ⟨hsq, hno⟩
  · rw [hsq] at hq
    dsimp only at hq
    obtain ⟨a1, a2, a3, a4, a5, a6, a7⟩ := h.1.2.2.sq hkM hsq
    have h10 := a5.2.1
    by_cases hi : 0 ≤ i ∧ i < sg t
    · rw [if_pos hi] at hq
      obtain ⟨hR, A, B, hr, hA, hu⟩ := hq
      subst hr
      have hsg := sgi_isS a5.1 i.toNat (by omega)
      have hself := hu _ hsg.1
      rw [rep_self a5.1 _ (by omega)] at hself
      obtain ⟨p, s1, s2, s3⟩ := sL_at (T := T) (g := M.2.1) a5.1 (by omega) (q := rootQ T M t) (i := i.toNat) (by omega) (by omega) hself
      have hAl : A.length < 20 := by have := (List.getElem?_eq_some_iff.mp s1).1; rw [sb_len] at this; omega
      have hval : sp_box T M l s i sd w = if (0 ≤ sd ∧ sd ≤ 4) ∧ 0 ≤ w ∧ w ≤ 1 then tm (bxR T M.2.1 M.1 L.1 (sgi t i.toNat, p) sd) w else -1 := by
        unfold sp_box
        rw [hl]
        dsimp only
        rw [hs]
        dsimp only
        by_cases hc : (0 ≤ sd ∧ sd ≤ 4) ∧ 0 ≤ w ∧ w ≤ 1
        · rw [if_pos ⟨hi.1, hc⟩, if_pos hc]
          show (match (sL T M.2.1 (rootQ T M t) t)[i.toNat]? with | none => -1 | some z => _) = _
          rw [s3]
        · rw [if_neg (fun q => hc q.2), if_neg hc]
      refine ⟨hTF, by omega, fun c => by omega, fun _ => wmi_p (c_M_in h4 (by decide) (by decide)) ⟨hTF, b2i_r _, fun c => ?_, fun c => wmi_p (c_M_in h5 (by decide) (by decide)) ⟨hTF, b2i_r _, fun c2 => ?_, fun c2 => ?_⟩⟩⟩
      · rw [b2i_0] at c
        exact hnone hf (by rw [hval, if_neg (fun q => c q.1)])
      · rw [b2i_n0] at c c2
        refine WMv.mono (c_M_places hT hk hR a5) (fun υ hp2 hq2 => ?_)
        obtain ⟨f2, mz, pl⟩ := hq2
        have hU := hT.scr (f2.mono (by decide))
        obtain ⟨b1, b2, b3⟩ := pl.1 A.length _ p s1 s2
        obtain ⟨n, n1, n2, n3⟩ := pl.2.1
        have hm := mz A.length _ (by omega) s1
        refine ⟨hU.1.1, wmi_p (c_M_isLeft' hU hkM hl) ⟨hU.1.1, ?_⟩⟩
        refine WMv.mono (c_M_boxOf (g := M.2.1) (sd := M.1) hU.1.1 hk.1 hkM.2.1 hkM.1 hU.1.2.2.1 (by omega) b2 b3 ⟨hm.1, hm.2.1⟩ b1 (by rw [n1]; omega) h4 (b2i_01 _) c) (fun ω hp3 hq3 => ?_)
        have hW := hq3.1.fix hU.1.1 (by decide)
        refine ⟨hW, wml_p (c_M_term hW h5) ⟨_, rfl, (hp.trans hp2).trans hp3, ?_, ((hf.mono (by decide)).tr (f2.mono (by decide))).tr (hq3.1.mono (by decide))⟩⟩
        have hb : (b2i (L.1 = true) == 1) = L.1 := by cases L.1 <;> rfl
        rw [hval, hq3.2.1, hq3.2.2, hb, if_pos (show (0 ≤ sd ∧ sd ≤ 4) ∧ 0 ≤ w ∧ w ≤ 1 from ⟨c, c2⟩)]
        rfl
      · rw [b2i_0] at c2
        exact hnone hf (by rw [hval, if_neg (fun q => c2 q.2)])
    · rw [if_neg hi] at hq
      subst hq
      refine ⟨hTF, by decide, fun _ => hnone hf ?_, fun c => absurd rfl c⟩
      unfold sp_box
      rw [hl]
      dsimp only
      rw [hs]
      dsimp only
      split
      · rename_i hc
        have hn : (sL T M.2.1 (rootQ T M t) t)[i.toNat]? = none := by rw [List.getElem?_eq_none_iff, sL_len]; omega
        show (match (sL T M.2.1 (rootQ T M t) t)[i.toNat]? with | none => -1 | some z => _) = _
        rw [hn]
      · rfl
  · rw [hsq] at hq
    dsimp only at hq
    subst hq
    refine ⟨hTF, by decide, fun _ => hnone hf ?_, fun c => absurd rfl c⟩
    unfold sp_box
    rcases hno with hl | ⟨L, hl, hs⟩
    · rw [hl]
    · rw [hl]
      dsimp only
      rw [hs]
end MBox
