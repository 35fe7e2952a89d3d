def plX : List (Int × Int) := (52, -1) :: (53, -1) :: (54, -1) :: giX
/-- how many of the trees at places hold something -/
def hC : List Tr → Nat
  | [] => 0
  | u :: L => (if holdsT u then 1 else 0) + hC L
theorem hC_app (A B : List Tr) : hC (A ++ B) = hC A + hC B := by
  induction A with
  | nil => simp [hC]
  | cons u A ih => simp only [List.cons_append, hC, ih]; omega
theorem hC_sb {t : Tr} : ∀ k, hC (sb k t) ≤ sg t := by
  induction t with
  | var l => intro k; simp [sb, hC, sg, holdsT]
  | pow t l ih => intro k; have := ih 0; simp only [sb, hC, sg, holdsT, if_true]; omega
  | mul a b iha ihb =>
    intro k
    have h1 := iha 0
    have h2 := ihb 1
    simp only [sb, sg]
    split <;> simp only [hC_app, hC, List.nil_append, holdsT, List.cons_append, Bool.false_eq_true, if_false] <;> omega
  | add a b iha ihb =>
    intro k
    have h1 := iha 0
    have h2 := ihb 2
    simp only [sb, sg]
    split <;> simp only [hC_app, hC, List.nil_append, holdsT, List.cons_append, Bool.false_eq_true, if_false] <;> omega
  | _ => intro k; simp [sb, hC]
abbrev lyR (T : Tb) (M : Mo) (t : Tr) : List Qd := ly T M.2.1 0 (rootQ T M t) t
/-- what places() leaves -/
def PlAll (τ : St) (T : Tb) (M : Mo) (t : Tr) : Prop := (∀ (j : Nat) u q, (sb 0 t)[j]? = some u → (lyR T M t)[j]? = some q → Pl τ T M.2.1 M.1 j u q ∧ okU T u ∧ okQ T M.2.1 M.1 u q) ∧ (∃ n : Nat, τ.1 42 27 = n ∧ 1 ≤ n ∧ n ≤ 11) ∧ ∀ n : Nat, (n : Int) < τ.1 42 27 → ∃ (j : Nat) (u : Tr) (q : Qd), (sb 0 t)[j]? = some u ∧ (lyR T M t)[j]? = some q ∧ τ.1 55 n = (Rat.divInt q.1 q.2.1).num ∧ τ.1 56 n = (Rat.divInt q.1 q.2.1).den
theorem isJ_nh {u : Tr} (h : isJ u = true) : holdsT u = false := by cases u <;> simp_all [isJ, isM, isA, holdsT]
theorem isJ_nA {u : Tr} (h : isJ u = true) (h2 : isA u ≠ true) : isM u = true := by cases u <;> simp_all [isJ, isM, isA]
theorem isS_nh {u : Tr} (h : isS u = true) (h2 : holdsT u = false) (T : Tb) (g : Int) (q : Qd) : ch u = [] ∧ chq T g q u = [] := by cases u <;> simp_all [isS, holdsT, ch, chq]
section MPlaces
variable {E : EV} {d : Nat} {σ : St} {T : Tb} {M : Mo} {P : List Mo} {tp : List Int}
theorem c_M_places {t : Tr} (h : RS σ T M P tp) (hk : okD T M P tp) (hR : RowIs σ (rc 0 t)) (ht : okS T t) : WMv E m_M_places (d + 5) [aP 42] σ (fun τ => Fr plX σ τ ∧ Meas τ T M.2.1 t 0 ∧ PlAll τ T M t) := by
  have hF := h.1.1
  have hkT := hk.1
  have hkM := hk.2.1
  have hsd := hkM.1
  have hgg := hkM.2.1
  have hl2 := (rc_len2 ht.1 0).1
  have h10 := ht.2.1
  have hut : okU T t := ⟨ht.1, ht.2.1, ht.2.2.2⟩
  have hqt := okQ_R hkT hkM ht
  have hg := gr_b hkT hkM ht
  have hsz := okU_sz hkT hgg hut
  have hqn := okQ_n hqt hsd hsz.1.1 hsz.2.1
  have hqw := hqt.2.2
  have hn0 : ∀ τ : St, Fr plX σ τ → τ.1 47 0 = M.1 ∧ τ.1 47 1 = M.2.1 := fun τ f => ⟨(f.2 _ _ rfl).trans h.1.2.2.1, (f.2 _ _ rfl).trans h.1.2.2.2.1⟩
  have hrow : ∀ τ : St, Fr plX σ τ → RowIs τ (rc 0 t) := fun τ f => hR.keep f rfl (fun _ => rfl)
  have hmk : ∀ τ υ : St, Meas τ T M.2.1 t 0 → Fr giX τ υ → Meas υ T M.2.1 t 0 := fun τ υ m f j u a b => by
    rw [f.2 _ _ rfl, f.2 _ _ rfl, f.2 _ _ rfl]; exact m j u a b
  -- the loop over all nodes
  have key : ∀ z : Nat × List (Tr × Qd) × St, (Fr plX σ z.2.2 ∧ Meas z.2.2 T M.2.1 t 0 ∧ (∃ A B, sb 0 t = A ++ sbF (z.2.1.map Prod.fst) ∧ lyR T M t = B ++ lyF T M.2.1 z.2.1 ∧ A.length = z.1 ∧ B.length = z.1) ∧ (∀ y ∈ z.2.1, okU T y.1 ∧ okQ T M.2.1 M.1 y.1 y.2) ∧ (∀ (i : Nat) y, z.2.1[i]? = some y → Pl z.2.2 T M.2.1 M.1 ((z.1 : Int) + (fr ((z.2.1.take i).map Prod.fst)).length) y.1 y.2) ∧ (∀ (j : Nat) u q, j < z.1 → (sb 0 t)[j]? = some u → (lyR T M t)[j]? = some q → Pl z.2.2 T M.2.1 M.1 j u q ∧ okU T u ∧ okQ T M.2.1 M.1 u q) ∧ (∃ n : Nat, z.2.2.1 42 27 = n ∧ 1 ≤ n ∧ n + hC (sbF (z.2.1.map Prod.fst)) ≤ 11) ∧ ∀ n : Nat, (n : Int) < z.2.2.1 42 27 → ∃ (j : Nat) (u : Tr) (q : Qd), (sb 0 t)[j]? = some u ∧ (lyR T M t)[j]? = some q ∧ z.2.2.1 55 n = (Rat.divInt q.1 q.2.1).num ∧ z.2.2.1 56 n = (Rat.divInt q.1 q.2.1).den) →
      WP E m_M_places (d + 5) 70 [(0, aP 42), (2, aI z.1)] [] z.2.2 (fun r τ => r = none ∧ σ.2 <+: τ.2 ∧ Fr plX σ τ ∧ Meas τ T M.2.1 t 0 ∧ PlAll τ T M t) := by
    refine lpx (fun z => (fr (z.2.1.map Prod.fst)).length) _ _ (fun z hI ih => ?_)
    obtain ⟨k, zs, τ⟩ := z
    obtain ⟨i1, i2, ⟨A, B, i3, i4, i5, i6⟩, i7, i8, i9, ⟨n, n1, n2, n3⟩, i10⟩ := hI
    simp only at i1 i2 i3 i4 i5 i6 i7 i8 i9 n1 n2 n3 i10 ih ⊢
    have hT := i1.fix hF (by decide)
    have hRT := hrow τ i1
    have hkl : k + (fr (zs.map Prod.fst)).length = (rc 0 t).length := by
      have := congrArg List.length i3
      rw [sb_len, List.length_append, sbF_len] at this
      omega
    refine b_M_places_70 _ hT ⟨by omega, by rw [hRT.1]; omega, fun c => ?_, fun c => ?_⟩
    · rw [hRT.1] at c
      refine ⟨rfl, pre_eq i1.1, i1, i2, fun j u q a b => i9 j u q ?_ a b, ⟨n, n1, n2, by omega⟩, i10⟩
      have := (List.getElem?_eq_some_iff.mp a).1
      rw [sb_len] at this
      omega
    · rw [hRT.1] at c
      cases zs with
      | nil => rw [List.map_nil, fr_nil] at hkl; simp at hkl; omega
      | cons y rest =>
        obtain ⟨u, q⟩ := y
        have hy := i7 (u, q) List.mem_cons_self
        obtain ⟨hu, hq⟩ := hy
        simp only at hu hq
        have hu10 := hu.2.1
        rw [List.map_cons, sbF_cons] at i3
        rw [lyF_cons] at i4
        simp only at i3 i4
        have hat : (sb 0 t)[k]? = some u := by rw [i3, ← i5, sb0_ch hu.1]; simp
        have haq : (lyR T M t)[k]? = some q := by rw [i4, ← i6, ly0_ch hu.1]; simp
        obtain ⟨u1, -, -, u4⟩ := sbT_at ht.1 0 (τ.1 50) 0 hRT.2 k u hat
        rw [show (0 : Int) + (k : Int) = k by omega] at u1
        have hx : τ.1 50 k = nd u := by have h9 := u1; rw [rc0_nd hu.1] at h9; exact h9.hd
        have hnd := nd_pts hu.1 (by omega)
        have hnj := nd_j hu.1 (by omega)
        have hkb : (0 : Int) ≤ k ∧ (k : Int) < 24 := by omega
        have hm := i2 k u (by omega) hat
        have hpl : Pl τ T M.2.1 M.1 k u q := by have := i8 0 (u, q) rfl; simpa [fr_nil] using this
        have e1 : fr ((((u, q) :: rest).map Prod.fst)) = rc 0 u ++ fr (rest.map Prod.fst) := by rw [List.map_cons, fr_cons]
        have hl1 : (rc 0 u).length = (fr (ch u)).length + 1 := by rw [rc0_nd hu.1]; simp
        have hhold := nd_hold hu.1 (by omega)
        -- what is done up to k
        have dn : ∀ υ : St, (∀ (j : Nat) w p, j < k → Pl τ T M.2.1 M.1 j w p → Pl υ T M.2.1 M.1 j w p) → Pl υ T M.2.1 M.1 k u q → ∀ (j : Nat) w p, j < k + 1 → (sb 0 t)[j]? = some w → (lyR T M t)[j]? = some p → Pl υ T M.2.1 M.1 j w p ∧ okU T w ∧ okQ T M.2.1 M.1 w p := by
          intro υ e1 e2 j w p hj a b
          by_cases hjk : j = k
          · subst hjk
            rw [hat] at a
            rw [haq] at b
            cases a
            cases b
            exact ⟨e2, hu, hq⟩
          · have := i9 j w p (by omega) a b
            exact ⟨e1 j w p (by omega) this.1, this.2⟩
        -- the next node
        have nxt : ∀ (υ : St) (ys : List (Tr × Qd)), Fr plX σ υ → Meas υ T M.2.1 t 0 → ys.map Prod.fst = ch u → ly T M.2.1 0 q u = q :: lyF T M.2.1 ys → (∀ y ∈ ys, okU T y.1 ∧ okQ T M.2.1 M.1 y.1 y.2) → (∀ (i : Nat) y, ys[i]? = some y → Pl υ T M.2.1 M.1 ((k : Int) + 1 + (fr ((ys.take i).map Prod.fst)).length) y.1 y.2) → (∀ (i : Nat) y, rest[i]? = some y → Pl υ T M.2.1 M.1 ((k : Int) + (rc 0 u).length + (fr ((rest.take i).map Prod.fst)).length) y.1 y.2) → (∀ (j : Nat) w p, j < k + 1 → (sb 0 t)[j]? = some w → (lyR T M t)[j]? = some p → Pl υ T M.2.1 M.1 j w p ∧ okU T w ∧ okQ T M.2.1 M.1 w p) → (∃ n : Nat, υ.1 42 27 = n ∧ 1 ≤ n ∧ n + hC (sbF (ch u) ++ sbF (rest.map Prod.fst)) ≤ 11) → (∀ n : Nat, (n : Int) < υ.1 42 27 → ∃ (j : Nat) (u : Tr) (q : Qd), (sb 0 t)[j]? = some u ∧ (lyR T M t)[j]? = some q ∧ υ.1 55 n = (Rat.divInt q.1 q.2.1).num ∧ υ.1 56 n = (Rat.divInt q.1 q.2.1).den) →
            WP E m_M_places (d + 5) 307 [(0, aP 42), (2, aI k)] [] υ (fun r τ => r = none ∧ σ.2 <+: τ.2 ∧ Fr plX σ τ ∧ Meas τ T M.2.1 t 0 ∧ PlAll τ T M t) := by
          intro υ ys f1 f2 f3 f4 f5 f6 f7 f8 f9 f10
          refine b_M_places_307 _ ?_
          have h9 := ih (k + 1, ys ++ rest, υ) (by
            show (fr ((ys ++ rest).map Prod.fst)).length < (fr ((((u, q) :: rest).map Prod.fst))).length
            rw [e1, List.map_append, fr_app, f3, List.length_append, List.length_append]; omega) ⟨f1, f2, ⟨A ++ [u], B ++ [q], ?_, ?_, by simp [i5], by simp [i6]⟩, ?_, ?_, f8, ?_, f10⟩
          · simp only at h9
            rw [show ((k + 1 : Nat) : Int) = (k : Int) + 1 by omega] at h9
            exact h9
          · show sb 0 t = (A ++ [u]) ++ sbF ((ys ++ rest).map Prod.fst)
            rw [i3, List.map_append, sbF_app, f3, sb0_ch hu.1]; simp
          · show lyR T M t = (B ++ [q]) ++ lyF T M.2.1 (ys ++ rest)
            rw [i4, lyF_app, f4]; simp
          · intro y hy
            rcases List.mem_append.mp hy with hy | hy
            · exact f5 y hy
            · exact i7 y (List.mem_cons_of_mem _ hy)
          · intro i y hy
            show Pl υ T M.2.1 M.1 (((k + 1 : Nat) : Int) + (fr (((ys ++ rest).take i).map Prod.fst)).length) y.1 y.2
            have hy' : (ys ++ rest)[i]? = some y := hy
            by_cases hi : i < ys.length
            · rw [List.getElem?_append_left hi] at hy'
              rw [List.take_append_of_le_length (by omega), show ((k + 1 : Nat) : Int) = (k : Int) + 1 by omega]
              exact f6 i y hy'
            · rw [List.getElem?_append_right (by omega)] at hy'
              have := f7 _ y hy'
              rw [List.take_append, List.take_of_length_le (show ys.length ≤ i by omega), List.map_append, fr_app, f3, List.length_append]
              rw [show ((k + 1 : Nat) : Int) + (((fr (ch u)).length + (fr ((rest.take (i - ys.length)).map Prod.fst)).length : Nat) : Int) = (k : Int) + (rc 0 u).length + (fr ((rest.take (i - ys.length)).map Prod.fst)).length by omega]
              exact this
          · show ∃ n : Nat, υ.1 42 27 = n ∧ 1 ≤ n ∧ n + hC (sbF ((ys ++ rest).map Prod.fst)) ≤ 11
            rw [List.map_append, sbF_app, f3]
            exact f9
        -- the others, which stand further behind
        have oth : ∀ (i : Nat) y, rest[i]? = some y → Pl τ T M.2.1 M.1 ((k : Int) + (rc 0 u).length + (fr ((rest.take i).map Prod.fst)).length) y.1 y.2 := by
          intro i y hy
          have := i8 (i + 1) y (by simpa using hy)
          rw [List.take_succ_cons, List.map_cons, fr_cons, List.length_append] at this
          rw [show (k : Int) + (((rc 0 u).length + (fr ((rest.take i).map Prod.fst)).length : Nat) : Int) = (k : Int) + (rc 0 u).length + (fr ((rest.take i).map Prod.fst)).length by omega] at this
          exact this
        have hhC : hC (sbF (((u, q) :: rest).map Prod.fst)) = (if holdsT u then 1 else 0) + hC (sbF (ch u) ++ sbF (rest.map Prod.fst)) := by
          rw [List.map_cons, sbF_cons, sb0_ch hu.1, List.cons_append]; rfl
        rw [hhC] at n3
        refine ⟨hkb, wmi_p (c_M_isSign (by rw [hx]; omega)) ⟨hT, b2i_r _, fun c2 => ?_, fun c2 => ?_⟩⟩
        · -- parts beside or above
          rw [b2i_0, hx] at c2
          have hju : isJ u = true := hnj.1.mp (by omega)
          have hnh : holdsT u = false := isJ_nh hju
          obtain ⟨n0, L, U, ⟨pg, pgl⟩, pga, pbd, pxy, pLU⟩ := hpl
          have inner : ∀ b so0 : Int, (b = 1 ∧ isM u = true ∧ so0 = τ.1 62 k ∨ b = 0 ∧ isA u = true ∧ so0 = τ.1 63 k) → WP E m_M_places (d + 5) 156 [(0, aP 42), (2, aI k), (3, aI b), (4, aI so0), (5, aI (k + 1)), (6, aI 0)] [] τ (fun r τ => r = none ∧ σ.2 <+: τ.2 ∧ Fr plX σ τ ∧ Meas τ T M.2.1 t 0 ∧ PlAll τ T M t) := by
            intro b so0 hb
            refine l_M_places hT i2 (hn0 τ i1).2 hx hkT hgg hu hju hq i3 i5 (by rw [sb_len]; omega) hb ⟨pg, pgl⟩ pga ⟨rfl, rfl⟩ pbd pxy pLU (fun υ f1 f2 f3 => ?_)
            have kp : ∀ (j : Int) w p, (j ≤ k ∨ k + (rc 0 u).length ≤ j) → Pl τ T M.2.1 M.1 j w p → Pl υ T M.2.1 M.1 j w p := fun j w p hj hp => hp.keep (f2 j hj) (by rw [f1.2 _ _ rfl]; exact Int.le_refl _) (fun n _ => ⟨⟨f1.2 _ _ rfl, f1.2 _ _ rfl⟩, f1.2 _ _ rfl, f1.2 _ _ rfl, f1.2 _ _ rfl, f1.2 _ _ rfl⟩)
            refine nxt υ (chq T M.2.1 q u) (i1.tr (f1.mono (by decide))) (hmk _ _ i2 (f1.mono (by decide))) (chq_fst _ _ _ _) (ly0_ch hu.1 q) (chq_ok hkT hgg hu hq) f3 (fun i y hy => kp _ _ _ (Or.inr (by omega)) (oth i y hy)) (dn υ (fun j w p hj hp => kp _ _ _ (Or.inl (by omega)) hp) (kp _ _ _ (Or.inl (Int.le_refl _)) ⟨n0, L, U, ⟨pg, pgl⟩, pga, pbd, pxy, pLU⟩)) ⟨n, (f1.2 _ _ rfl).trans n1, n2, by rw [hnh] at n3; simpa using n3⟩ (fun n' hn' => ?_)
            rw [f1.2 _ _ rfl] at hn'
            obtain ⟨j, w, p, a1, a2, a3, a4⟩ := i10 n' hn'
            exact ⟨j, w, p, a1, a2, (f1.2 _ _ rfl).trans a3, (f1.2 _ _ rfl).trans a4⟩
          refine ⟨hkb, by rw [hx]; omega, fun c3 => b_M_places_126 _ _ hT ⟨by decide, fun _ => ⟨hkb, b_M_places_146 _ _ _ (inner 0 _ (Or.inr ⟨rfl, ?_, rfl⟩))⟩, fun q => absurd rfl q⟩, fun c3 => b_M_places_126 _ _ hT ⟨by decide, fun q => absurd q (by decide), fun _ => ⟨hkb, b_M_places_146 _ _ _ (inner 1 _ (Or.inl ⟨rfl, ?_, rfl⟩))⟩⟩⟩
          · rw [hx] at c3
            exact hnj.2.mp c3
          · rw [hx] at c3
            have h5 : isA u ≠ true := fun q => c3 (hnj.2.mpr q)
            exact isJ_nA hju h5
        · rw [b2i_n0, hx] at c2
          have hus : isS u = true := by
            cases hh : isJ u with
            | false => exact (isS_tn hu.1 hh).1
            | true => exact absurd (hnj.1.mpr hh) (by omega)
          refine ⟨hkb, by rw [hx]; omega, fun c3 => ?_, fun c3 => ?_⟩
          · -- a sign that holds nothing
            rw [hx] at c3
            have hnh : holdsT u = false := by cases hh : holdsT u with | false => rfl | true => have := hhold.mpr hh; omega
            have hv := isS_nh hus hnh T M.2.1 q
            refine nxt τ [] i1 i2 (by rw [hv.1]; rfl) (by rw [ly0_ch hu.1, hv.2]) (fun y hy => by simp at hy) (fun i y hy => by simp at hy) oth (dn τ (fun j w p _ hp => hp) hpl) ⟨n, n1, n2, by rw [hnh] at n3; simpa using n3⟩ i10
          · -- something is inside
            rw [hx] at c3
            have hho : holdsT u = true := hhold.mp (by omega)
            cases u with
            | pow w l =>
              have hne : (sb 0 t)[k + 1]? = some w := by
                rw [i3, sb0_ch hu.1]
                simp only [ch, sbF_cons]
                have hw : ok w := hu.1.1
                rw [sb0_ch hw, List.getElem?_append_right (by omega), show k + 1 - A.length = 1 by omega]
                simp
              have hm1 := i2 (k + 1) w (by omega) hne
              rw [show ((k + 1 : Nat) : Int) = (k : Int) + 1 by omega] at hm1
              have hw2 := (rc_len2 hu.1.1 0).2
              have hw3 := sg_pos hu.1.1
              have hl5 : (rc 0 (.pow w l)).length = (rc 0 w).length + 1 := rfl
              rw [hho] at n3
              simp only [if_true] at n3
              have hTT : TabR τ T := fun l hl => by
                rw [i1.2 _ _ rfl, i1.2 _ _ rfl, i1.2 _ _ rfl, i1.2 _ _ rfl]
                exact h.1.2.1 l hl
              refine WMv.mono (c_M_goesInside hT hTT hkT hgg hsd (by omega) n1 (by omega) hu hq hx ⟨hm.1, hm.2.1⟩ ⟨hm1.1, hm1.2.1⟩ hpl) (fun υ hp hq2 => ?_)
              obtain ⟨f1, b1, b2, b3, b4, b5⟩ := hq2
              have kp : ∀ (j : Int) w p, j ≠ (k : Int) + 1 → Pl τ T M.2.1 M.1 j w p → Pl υ T M.2.1 M.1 j w p := fun j w p hj hp => hp.keep (b4 j hj) (by rw [b1, n1]; omega) (fun n' hn' => b5 n' (by rw [n1] at hn'; omega))
              have hck := chq_ok hkT hgg hu hq (insQ T M.2.1 l w q |> fun p => (w, p)) (by simp [chq])
              simp only at hck
              have hzw := okU_sz hkT hgg hck.1
              have qi := okQ_n hck.2 hsd hzw.1.1 hzw.2.1
              have hci := hck.2.2.2
              refine nxt υ [(w, insQ T M.2.1 l w q)] (i1.tr (f1.mono (by decide))) (hmk _ _ i2 f1) rfl (by simp [ly, lyF]) (fun y hy => by rw [List.mem_singleton] at hy; subst hy; exact hck) (fun i y hy => ?_) (fun i y hy => kp _ _ _ (by omega) (oth i y hy)) (dn υ (fun j w p hj hp => kp _ _ _ (by omega) hp) (kp _ _ _ (by omega) hpl)) ⟨n + 1, by rw [b1]; omega, by omega, by omega⟩ (fun n' hn' => ?_)
              · have hi := (List.getElem?_eq_some_iff.mp hy).1
                simp only [List.length_singleton] at hi
                have : i = 0 := by omega
                subst this
                simp at hy
                subst hy
                simp only [List.take_zero, List.map_nil, fr_nil, List.length_nil]
                rw [show (k : Int) + 1 + ((0 : Nat) : Int) = (k : Int) + 1 by omega]
                refine ⟨n, _, _, ⟨b2.1, by rw [b1]; omega⟩, b3, ?_, ?_, ?_⟩
                · rw [b2.2.1, b2.2.2]; omega
                · rw [b2.2.1, b2.2.2, Int.zero_mul]; omega
                · omega
              · rw [b1] at hn'
                by_cases hnn : n' = n
                · subst hnn
                  refine ⟨k + 1, w, insQ T M.2.1 l w q, hne, ?_, b3.1.1, b3.1.2⟩
                  rw [i4]
                  simp only [ly]
                  have hw : ok w := hu.1.1
                  rw [ly0_ch hw, List.getElem?_append_right (by omega), show k + 1 - B.length = 1 by omega]
                  simp
                · obtain ⟨j, w', p, a1, a2, a3, a4⟩ := i10 n' (by rw [n1]; omega)
                  have := b5 n' (by omega)
                  exact ⟨j, w', p, a1, a2, this.1.1.trans a3, this.1.2.trans a4⟩
            | _ => simp [holdsT] at hho
  refine e_M_places hF (WMi.mono (c_M_greatest' h hkT hkM hR ht) (fun r τ1 p1 q1 => ?_))
  obtain ⟨f1, m1, rfl⟩ := q1
  have F1 := f1.fix hF (by decide)
  have n1 : τ1.1 47 0 = M.1 := (hn0 τ1 (f1.mono (by decide))).1
  have fw : Fr plX τ1 (wr τ1 42 27 0) := Fr.wr (frO_k (by decide))
  have f1p : Fr plX σ τ1 := f1.mono (by decide)
  refine ⟨F1, by omega, by omega, ?_⟩
  rw [n1]
  refine WMv.mono (c_M_tells (fw.fix F1 (by decide)) (by omega) (by omega)) (fun τ2 p2 q2 => ?_)
  have f2p : Fr plX σ τ2 := (f1p.tr fw).tr (q2.1.mono (by decide))
  have F2 := f2p.fix hF (by decide)
  have n2 := (hn0 τ2 f2p).1
  have fw2 : Fr plX τ2 (wr (wr τ2 55 0 (τ2.1 42 16)) 56 0 (τ2.1 42 17)) := (Fr.wr (frO_a (by decide) _)).tr (Fr.wr (frO_a (by decide) _))
  refine ⟨F2, by omega, by omega, ?_⟩
  rw [n2]
  have m2 : Meas τ2 T M.2.1 t 0 := fun j u a b => by
    rw [q2.1.2 _ _ rfl, q2.1.2 _ _ rfl, q2.1.2 _ _ rfl, wr_na _ (by decide), wr_na _ (by decide), wr_na _ (by decide)]; exact m1 j u a b
  have m3 : Meas (wr (wr τ2 55 0 (τ2.1 42 16)) 56 0 (τ2.1 42 17)) T M.2.1 t 0 := fun j u a b => by
    rw [wr_na _ (by decide), wr_na _ (by decide), wr_na _ (by decide), wr_na _ (by decide), wr_na _ (by decide), wr_na _ (by decide)]; exact m2 j u a b
  have hm0 := m3 0 t (by omega) (by rw [sb0_ch ht.1]; rfl)
  have gz : (wr (wr τ2 55 0 (τ2.1 42 16)) 56 0 (τ2.1 42 17)).1 42 27 = ((0 : Nat) : Int) := by
    rw [wr_na _ (by decide), wr_na _ (by decide), q2.1.2 _ _ rfl, wr_same]; rfl
  have sz : (wr (wr τ2 55 0 (τ2.1 42 16)) 56 0 (τ2.1 42 17)).1 55 ((0 : Nat) : Int) = (Rat.divInt M.1 (gr T M t)).num ∧ (wr (wr τ2 55 0 (τ2.1 42 16)) 56 0 (τ2.1 42 17)).1 56 ((0 : Nat) : Int) = (Rat.divInt M.1 (gr T M t)).den := ⟨(wr_na _ (by decide)).trans ((wr_same _ _ _ _).trans q2.2.1), (wr_same _ _ _ _).trans q2.2.2⟩
  have f3p := f2p.tr fw2
  have F3 := f3p.fix hF (by decide)
  generalize wr (wr τ2 55 0 (τ2.1 42 16)) 56 0 (τ2.1 42 17) = υ at *
  have eqR : Rat.divInt M.1 2 = Rat.divInt (M.1 * gr T M t) (2 * gr T M t) := (Rat.divInt_mul_right (by omega)).symm
  have eR : rootQ T M t = (M.1, gr T M t, M.1 * gr T M t, M.1 * gr T M t) := rfl
  rw [eR] at hqn hqw
  dsimp only at hqn hqw
  refine WMv.mono (c_M_begins (n := 0) (w := wid T M.2.1 t) (h := hei T M.2.1 t) (S := M.1) (D := gr T M t) (X := M.1 * gr T M t) (Y := M.1 * gr T M t) F3 (by omega) gz (by omega) sz (by omega) ⟨hm0.1, hm0.2.1⟩ (by omega) eqR (by omega) (by omega) eqR (by omega) (by omega) (by omega) (by omega)) (fun τ3 p3 q3 => ?_)
  obtain ⟨z1, z2, z3, z4, z5, z6⟩ := q3
  have h9 := key (0, [(t, rootQ T M t)], τ3) ⟨f3p.tr (z1.mono (by decide)), hmk _ _ m3 (z1.mono (by decide)), ⟨[], [], by simp [sbF], by simp [lyF], rfl, rfl⟩, fun y hy => by rw [List.mem_singleton] at hy; subst hy; exact ⟨hut, hqt⟩, fun i y hy => ?_, fun j u q hj => absurd hj (by simp), ⟨1, by rw [z2]; rfl, by omega, ?_⟩, fun n hn => ?_⟩
  · simpa using h9
  · have hi := (List.getElem?_eq_some_iff.mp hy).1
    simp only [List.length_singleton] at hi
    have : i = 0 := by omega
    subst this
    simp at hy
    subst hy
    simp only [List.take_zero, List.map_nil, fr_nil, List.length_nil]
    have e0 : ((0 : Nat) : Int) + ((0 : Nat) : Int) = 0 := rfl
    rw [e0]
    refine ⟨0, _, _, ⟨z3.1, by rw [z2]; decide⟩, z4, ?_, ?_, ?_⟩
    · rw [z3.2.1, z3.2.2]; omega
    · rw [z3.2.1, z3.2.2, Int.zero_mul, eR]; dsimp only; omega
    · rw [eR]; dsimp only; omega
  · show 1 + hC (sbF ([(t, rootQ T M t)].map Prod.fst)) ≤ 11
    have := hC_sb (t := t) 0
    simp only [List.map_cons, List.map_nil, sbF_cons]
    rw [hC_app]
    simp [sbF, hC]
    omega
  · rw [z2] at hn
    have : n = 0 := by simp at hn; omega
    subst this
    exact ⟨0, t, rootQ T M t, by rw [sb0_ch ht.1]; rfl, by show (ly _ _ _ _ _)[0]? = _; rw [ly0_ch ht.1]; rfl, z4.1.1, z4.1.2⟩
end MPlaces
