/-! the signs inside none, and a form of them in the row at work -/
def oF (ts : List Tr) : List Tr := (ts.map oS).flatten
theorem oF_cons (t : Tr) (ts : List Tr) : oF (t :: ts) = oS t ++ oF ts := by simp [oF]
theorem oF_app (A B : List Tr) : oF (A ++ B) = oF A ++ oF B := by simp [oF]
theorem oF_pM (t : Tr) : oF (pM t) = oS t := by
  induction t with
  | mul a b iha ihb => simp [pM, oF_cons, oS, ihb]
  | _ => simp [pM, oF]
theorem oF_pA (t : Tr) : oF (pA t) = oS t := by
  induction t with
  | add a b iha ihb => simp [pA, oF_cons, oS, ihb]
  | _ => simp [pA, oF]
theorem oF_ch {u : Tr} (h : isJ u = true) : oF (ch u) = oS u := by
  cases u with
  | mul a b => exact oF_pM _
  | add a b => exact oF_pA _
  | _ => simp [isJ, isM, isA] at h
theorem oS_S {u : Tr} (h : isS u = true) : oS u = [u] := by cases u <;> simp_all [isS, oS]
def ItAt (σ : St) (a : Int) (t : Tr) (xs : List Tr) : Prop := ∀ (i : Nat) u, xs[i]? = some u → ∃ p : Nat, σ.1 73 i = p ∧ At (σ.1 a) p (rc 0 u) ∧ p + (rc 0 u).length ≤ (rc 0 t).length
def itX : List (Int × Int) := [(42, 39), (73, -1), (72, -1)]
theorem rc_lv {s : Tr} (h : okP s = true) : ∀ k, ∀ x ∈ rc k s, x < 200 → 1 ≤ x ∧ (x - 1).toNat ∈ lv s := by
  induction s with
  | var l => intro k x hx h2; simp [rc] at hx; subst hx; exact ⟨by omega, by simp [lv]⟩
  | mul a b iha ihb =>
    intro k x hx h2
    obtain ⟨h3, h4, -⟩ := okP_mul h
    have hin : x ∈ rc 0 a ++ rc 1 b → 1 ≤ x ∧ (x - 1).toNat ∈ lv a ++ lv b := by
      intro q
      rcases List.mem_append.mp q with q | q
      · have := iha h3 0 x q h2; exact ⟨this.1, List.mem_append_left _ this.2⟩
      · have := ihb h4 1 x q h2; exact ⟨this.1, List.mem_append_right _ this.2⟩
    simp only [rc] at hx
    split at hx
    · exact hin hx
    · rcases List.mem_cons.mp hx with q | q
      · omega
      · exact hin q
  | add a b iha ihb =>
    intro k x hx h2
    obtain ⟨h3, h4, -⟩ := okP_add h
    have hin : x ∈ rc 0 a ++ rc 2 b → 1 ≤ x ∧ (x - 1).toNat ∈ lv a ++ lv b := by
      intro q
      rcases List.mem_append.mp q with q | q
      · have := iha h3 0 x q h2; exact ⟨this.1, List.mem_append_left _ this.2⟩
      · have := ihb h4 2 x q h2; exact ⟨this.1, List.mem_append_right _ this.2⟩
    simp only [rc] at hx
    split at hx
    · exact hin hx
    · rcases List.mem_cons.mp hx with q | q
      · omega
      · exact hin q
  | _ => simp [okP] at h
section MItems
variable {E : EV} {d : Nat} {σ : St} {T : Tb} {M : Mo} {P : List Mo} {tp : List Int}
theorem c_M_laysItems {t : Tr} (hF : Fix σ) (hR : RowIs σ (rc 0 t)) (ht : ok t) (h10 : sg t ≤ 10) : WMv E m_M_laysItems (d + 2) [aP 42] σ (fun τ => Fr itX σ τ ∧ τ.1 42 39 = so t ∧ ItAt τ 72 t (oS t)) := by
  have hl2 := (rc_len2 ht 0).1
  have hso := so_le t
  -- the second loop
  have second : ∀ υ : St, Fr itX σ υ → υ.1 42 39 = so t → ItAt υ 50 t (oS t) → WP E m_M_laysItems (d + 2) 67 [(0, aP 42), (2, aI 0)] [] υ (fun r τ => r = none ∧ σ.2 <+: τ.2 ∧ Fr itX σ τ ∧ τ.1 42 39 = so t ∧ ItAt τ 72 t (oS t)) := by
    intro υ f1 f2 f3
    have hRU : RowIs υ (rc 0 t) := hR.keep f1 rfl (fun _ => rfl)
    have key : ∀ z : Nat × St, (z.1 ≤ (rc 0 t).length ∧ Fr [(72, -1)] υ z.2 ∧ At (z.2.1 72) 0 ((rc 0 t).take z.1)) → WP E m_M_laysItems (d + 2) 67 [(0, aP 42), (2, aI z.1)] [] z.2 (fun r τ => r = none ∧ σ.2 <+: τ.2 ∧ Fr itX σ τ ∧ τ.1 42 39 = so t ∧ ItAt τ 72 t (oS t)) := by
      refine lpx (fun z => (rc 0 t).length - z.1) _ _ (fun z hI ih => ?_)
      obtain ⟨k, τ⟩ := z
      obtain ⟨i1, i2, i3⟩ := hI
      simp only at i1 i2 i3 ih ⊢
      have f4 : Fr itX σ τ := f1.tr (i2.mono (by decide))
      have hT := f4.fix hF (by decide)
      have hRT : RowIs τ (rc 0 t) := hRU.keep i2 rfl (fun _ => rfl)
      refine b_M_laysItems_67 _ hT ⟨by omega, by rw [hRT.1]; omega, fun c => ?_, fun c => ⟨by rw [hRT.1] at c; omega, by rw [hRT.1] at c; omega, ?_⟩⟩
      · rw [hRT.1] at c
        rw [List.take_of_length_le (by omega)] at i3
        refine ⟨rfl, pre_eq f4.1, f4, (i2.2 _ _ rfl).trans f2, fun i u hu => ?_⟩
        obtain ⟨p, p1, p2, p3⟩ := f3 i u hu
        refine ⟨p, (i2.2 _ _ rfl).trans p1, fun j hj => ?_, p3⟩
        rw [← p2 j hj]
        have q1 := i3.get (k := (p : Int) + j) (by omega) (by omega)
        have q2 := hRU.2.get (k := (p : Int) + j) (by omega) (by omega)
        rw [q1, q2]
      · rw [hRT.1] at c
        have hkl : k < (rc 0 t).length := by omega
        have h9 := ih (k + 1, wr τ 72 k (τ.1 50 k)) (by show (rc 0 t).length - (k + 1) < (rc 0 t).length - k; omega) ⟨by show k + 1 ≤ _; omega, i2.tr (Fr.wr (frO_a (by decide) _)), ?_⟩
        · simp only at h9
          rw [show ((k + 1 : Nat) : Int) = (k : Int) + 1 by omega] at h9
          exact h9
        · show At ((wr τ 72 k (τ.1 50 k)).1 72) 0 ((rc 0 t).take (k + 1))
          have hlt : ((rc 0 t).take k).length = k := by rw [List.length_take]; omega
          have hg := hRT.2.get (k := k) (by omega) (by omega)
          rw [show ((k : Int) - 0).toNat = k by omega] at hg
          rw [take_succ_getD hkl]
          refine i3.push ?_ (fun i hi => ?_)
          · rw [hlt, wr_same]; exact hg
          · rw [hlt] at hi
            exact wr_nk _ hi
    exact key (0, υ) ⟨Nat.zero_le _, Fr.refl _ _, At.nil _ _⟩
  have fw0 : Fr itX σ (wr σ 42 39 0) := Fr.wr (frO_k (by decide))
  refine e_M_laysItems hF ?_
  have key : ∀ z : Nat × List Tr × List Tr × St, (At (z.2.2.2.1 50) z.1 (fr z.2.2.1) ∧ (∀ u ∈ z.2.2.1, ok u ∧ sg u ≤ 10) ∧ z.1 + (fr z.2.2.1).length = (rc 0 t).length ∧ z.2.1 ++ oF z.2.2.1 = oS t ∧ Fr itX σ z.2.2.2 ∧ z.2.2.2.1 42 39 = z.2.1.length ∧ ItAt z.2.2.2 50 t z.2.1) → WP E m_M_laysItems (d + 2) 7 [(0, aP 42), (1, aI z.1)] [] z.2.2.2 (fun r τ => r = none ∧ σ.2 <+: τ.2 ∧ Fr itX σ τ ∧ τ.1 42 39 = so t ∧ ItAt τ 72 t (oS t)) := by
    refine lpx (fun z => (fr z.2.2.1).length) _ _ (fun z hI ih => ?_)
    obtain ⟨k, xs, ts, τ⟩ := z
    obtain ⟨i1, i2, i3, i4, i5, i6, i7⟩ := hI
    simp only at i1 i2 i3 i4 i5 i6 i7 ih ⊢
    have hT := i5.fix hF (by decide)
    have hRT : RowIs τ (rc 0 t) := hR.keep i5 rfl (fun _ => rfl)
    have hfl := fr_len (fun u hu => (i2 u hu).1)
    have hxl : xs.length + (oF ts).length = so t := by rw [← List.length_append, i4, oS_len]
    refine b_M_laysItems_7 _ hT ⟨by omega, by rw [hRT.1]; omega, fun c => ?_, fun c => ?_⟩
    · rw [hRT.1] at c
      have h0 : ts = [] := List.eq_nil_of_length_eq_zero (by omega)
      subst h0
      rw [show oF [] = [] by rfl, List.append_nil] at i4
      subst i4
      exact second τ i5 (by rw [i6, oS_len]) i7
    · rw [hRT.1] at c
      cases ts with
      | nil => rw [fr_nil] at i3; simp at i3; omega
      | cons u us =>
        have hu := i2 u List.mem_cons_self
        have hnd := nd_pts hu.1 (by omega)
        have hns := nd_S hu.1 (by omega)
        have i1' := i1
        rw [fr_cons] at i1'
        have hru := (At.app.mp i1').1
        have hx : τ.1 50 k = nd u := by have h9 := hru; rw [rc0_nd hu.1] at h9; exact h9.hd
        refine ⟨by omega, wmi_p (c_M_isSign (by rw [hx]; omega)) ⟨hT, b2i_r _, fun c2 => ?_, fun c2 => ?_⟩⟩
        · rw [b2i_0, hx] at c2
          have hj : isJ u = true := by
            cases hh : isJ u with
            | true => rfl
            | false => exact absurd (hns.mpr (isS_tn hu.1 hh).1) c2
          have e1 : fr (u :: us) = nd u :: fr (ch u ++ us) := by rw [fr_cons, rc0_nd hu.1, fr_app]; rfl
          rw [e1] at i1 i3
          simp only [List.length_cons] at i3
          have h9 := ih (k + 1, xs, ch u ++ us, τ) (by show (fr (ch u ++ us)).length < (fr (u :: us)).length; rw [e1]; simp) ⟨by
            show At (τ.1 50) ((k + 1 : Nat) : Int) (fr (ch u ++ us))
            rw [show ((k + 1 : Nat) : Int) = (k : Int) + 1 by omega]
            exact (At.cons.mp i1).2, fun w hw => ?_, by show k + 1 + (fr (ch u ++ us)).length = _; omega, by
            show xs ++ oF (ch u ++ us) = oS t
            rw [oF_app, oF_ch hj, ← oF_cons]; exact i4, i5, i6, i7⟩
          · simp only at h9
            rw [show ((k + 1 : Nat) : Int) = (k : Int) + 1 by omega] at h9
            exact h9
          · rcases List.mem_append.mp hw with hw | hw
            · have := ch_ok hu.1 w hw; exact ⟨this.1, by omega⟩
            · exact i2 w (List.mem_cons_of_mem _ hw)
        · rw [b2i_n0, hx] at c2
          have hus := hns.mp c2
          rw [oF_cons, oS_S hus] at i4 hxl
          simp only [List.length_append, List.length_singleton] at hxl
          rw [i6]
          have fw : Fr itX τ (wr (wr τ 73 xs.length k) 42 39 ((xs.length : Int) + 1)) := (Fr.wr (frO_a (by decide) _)).tr (Fr.wr (frO_k (by decide)))
          have f5 := i5.tr fw
          have hrow : ∀ j, (wr (wr τ 73 xs.length k) 42 39 ((xs.length : Int) + 1)).1 50 j = τ.1 50 j := fun j => fw.2 _ _ rfl
          rw [fr_cons, List.length_append] at i3
          refine ⟨by omega, wmi_p (c_M_endOf (t := u) hu.1 (by omega) (hru.congr (fun i hi => hrow _)) (by omega) ⟨24, sf_50 (f5.fix hF (by decide)), by omega⟩) ?_⟩
          have h9 := ih (k + (rc 0 u).length, xs ++ [u], us, wr (wr τ 73 xs.length k) 42 39 ((xs.length : Int) + 1)) (by
            show (fr us).length < (fr (u :: us)).length
            rw [fr_cons, List.length_append]
            have := (rc_len2 hu.1 0).2
            have := sg_pos hu.1
            omega) ⟨?_, fun w hw => i2 w (List.mem_cons_of_mem _ hw), by show k + (rc 0 u).length + (fr us).length = _; omega, by show xs ++ [u] ++ oF us = oS t; rw [← i4]; simp, f5, ?_, ?_⟩
          · simp only at h9
            rw [show ((k + (rc 0 u).length : Nat) : Int) = (k : Int) + (rc 0 u).length by omega] at h9
            exact h9
          · show At ((wr (wr τ 73 xs.length k) 42 39 ((xs.length : Int) + 1)).1 50) ((k + (rc 0 u).length : Nat) : Int) (fr us)
            rw [show ((k + (rc 0 u).length : Nat) : Int) = (k : Int) + (rc 0 u).length by omega]
            exact (At.app.mp i1').2.congr (fun i hi => hrow _)
          · show (wr (wr τ 73 xs.length k) 42 39 ((xs.length : Int) + 1)).1 42 39 = ((xs ++ [u]).length : Int)
            rw [wr_same, List.length_append]; simp
          · intro i w hw
            show ∃ p : Nat, (wr (wr τ 73 xs.length k) 42 39 ((xs.length : Int) + 1)).1 73 i = p ∧ At ((wr (wr τ 73 xs.length k) 42 39 ((xs.length : Int) + 1)).1 50) p (rc 0 w) ∧ p + (rc 0 w).length ≤ (rc 0 t).length
            have hw' : (xs ++ [u])[i]? = some w := hw
            by_cases hi : i < xs.length
            · rw [List.getElem?_append_left hi] at hw'
              obtain ⟨p, p1, p2, p3⟩ := i7 i w hw'
              exact ⟨p, by rw [wr_na _ (by decide), wr_nk _ (by omega)]; exact p1, p2.congr (fun j hj => hrow _), p3⟩
            · have hlt := (List.getElem?_eq_some_iff.mp hw').1
              simp only [List.length_append, List.length_singleton] at hlt
              have hie : i = xs.length := by omega
              subst hie
              have hwu : w = u := by simpa using hw'.symm
              subst hwu
              exact ⟨k, by rw [wr_na _ (by decide), wr_same], hru.congr (fun j hj => hrow _), by omega⟩
  have h9 := key (0, [], [t], wr σ 42 39 0) ⟨by
    show At ((wr σ 42 39 0).1 50) ((0 : Nat) : Int) (fr [t])
    rw [fr_one]
    exact hR.2.congr (fun i hi => fw0.2 _ _ rfl), by simpa using ⟨ht, h10⟩, by simp [fr_one], by simp [oF], fw0, by show (wr σ 42 39 0).1 42 39 = _; rw [wr_same]; rfl, fun i u hu => by simp at hu⟩
  exact h9
def fmX : List (Int × Int) := [(51, -1), (42, 12), (50, -1), (42, 10)]
theorem c_M_forms {t : Tr} {n wh : Nat} {s : Tr} {b : Int} {tr : Bool} (hF : Fix σ) (hfo : FormsOK σ) (hn : σ.1 42 39 = n) (hn6 : 1 ≤ n ∧ n ≤ 6) (ht : ok t) (h10 : sg t ≤ 10) (hso : so t = n) (hit : ItAt σ 72 t (oS t)) (hs : (fF n)[wh]? = some s) (hb : b = 1 ∧ tr = true ∨ b = 0 ∧ tr = false) :
    WMv E m_M_forms (d + 2) [aP 42, aI wh, aI b] σ (fun τ => Fr fmX σ τ ∧ RowIs τ (rc 0 (sbs (oS t) (if tr then tn s else s)))) := by
  obtain ⟨s1, s2, s3, s4⟩ := fF_ok hn6.1 hn6.2 (List.mem_of_getElem? hs)
  have hoS : ∀ u ∈ oS t, isS u = true ∧ ok u ∧ sg u ≤ sg t := fun u hu => by have := oS_ok (T := fun _ => (0, 0, 0, 0)) ht u hu; exact ⟨this.1, this.2.1, this.2.2.1⟩
  -- the form, turned or not
  have hg : ((rc 0 s).drop 0).map (gN 0 tr) = rc 0 (if tr then tn s else s) := by
    rw [List.drop_zero]
    rcases hb with ⟨-, rfl⟩ | ⟨-, rfl⟩
    · have := rc_gT (f := 0) s1 (by omega) 0 (by omega)
      rw [shT_0] at this
      exact this
    · have := rc_gF (f := 0) s1 (by omega) 0
      rw [shT_0] at this
      exact this
  have hw : okP (if tr then tn s else s) = true ∧ lv (if tr then tn s else s) = List.range n := by
    have := okP_tn s1
    cases tr
    · exact ⟨s1, s3⟩
    · exact ⟨this.1, this.2.trans s3⟩
  generalize (if tr then tn s else s) = w at hg hw ⊢
  obtain ⟨w1, w2⟩ := hw
  have hrs := rc_sbs (fun u hu => (hoS u hu).1) w1 0
  have hsg : sg (sbs (oS t) w) = sg t := by rw [sbs_sg _ w1, w2, ← hso, ← oS_len, range_map_getD (.var 0) sg, oS_sg ht]
  have hokw := sbs_ok (fun u hu => ⟨(hoS u hu).1, (hoS u hu).2.1⟩) w1
  have hlen := (rc_len2 hokw 0).1
  have hwl := rc_len2 (okP_ok w1) 0
  have hwsg : sg w = n := by rw [sg_lv w1, w2, List.length_range]
  have hnod := rc_nod (okP_ok w1) (by omega) 0
  have hlv := rc_lv w1 0
  generalize hV : rc 0 (sbs (oS t) w) = V at *
  refine e_M_forms _ _ hF (WMv.mono (c_M_opens hF) (fun τ1 p1 q1 => ?_))
  have F1 := q1.1.fix hF (by decide)
  rw [q1.1.2 42 39 rfl, hn]
  have fo1 : 2 ≤ n → LvOK τ1 n (fF n) := fun h2 => (hfo n h2 hn6.2).keep (B := 257) (q1.1.2 _ _ rfl) (q1.1.2 _ _ rfl) (fun j _ => q1.1.2 _ _ rfl) (by have := fF_len n h2 hn6.2; have := off_mono (n + 1) 7 (by omega) (by omega); have e : offF 7 = 257 := rfl; omega) (fun s hs => (fF_rc (by omega) hn6.2 hs).1)
  refine ⟨F1, WMv.mono (c_M_addsForm (n := n) (wh := wh) (f := 0) (sk := 0) (tr := tr) (s := s) F1 hn6 s1 s4 (by
    by_cases h1 : n = 1
    · left
      subst h1
      rw [fF_1] at hs
      have h2 := (List.getElem?_eq_some_iff.mp hs).1
      simp only [List.length_singleton] at h2
      have : wh = 0 := by omega
      subst this
      simp at hs
      exact ⟨rfl, hs.symm, rfl⟩
    · right
      have h2 := fo1 (by omega)
      have h3 := (List.getElem?_eq_some_iff.mp hs).1
      have := fF_len n (by omega) hn6.2
      have := off_mono (n + 1) 7 (by omega) (by omega)
      have e : offF 7 = 257 := rfl
      exact ⟨by omega, h2.2.1, h2.2.2 wh s hs, by omega⟩) (by omega) hb (by omega) q1.2 (by simp)) (fun τ2 p2 q2 => ?_)⟩
  rw [show ((0 : Nat) : Int) = 0 by rfl, hg, List.nil_append] at q2
  have f2 : Fr fmX σ τ2 := (q1.1.mono (by decide)).tr (q2.1.mono (by decide))
  have F2 := f2.fix hF (by decide)
  have fw : Fr fmX τ2 (wr τ2 42 10 0) := Fr.wr (frO_k (by decide))
  refine ⟨F2, ?_⟩
  have hown : OwnIs (wr τ2 42 10 0) (rc 0 w) := ⟨by rw [wr_nk _ (by decide)]; exact q2.2.1, q2.2.2.congr (fun i hi => wr_na _ (by decide))⟩
  have f3 := f2.tr fw
  generalize hυ : wr τ2 42 10 0 = υ at *
  have key : ∀ z : Nat × St, (z.1 ≤ (rc 0 w).length ∧ Fr [(50, -1), (42, 10)] υ z.2 ∧ RowIs z.2 (((rc 0 w).take z.1).flatMap (ex (oS t)))) → WP E m_M_forms (d + 2) 23 [(0, aP 42), (3, aI z.1)] [] z.2 (fun r τ => r = none ∧ σ.2 <+: τ.2 ∧ Fr fmX σ τ ∧ RowIs τ V) := by
    refine lpx (fun z => (rc 0 w).length - z.1) _ _ (fun z hI ih => ?_)
    obtain ⟨o, τ⟩ := z
    obtain ⟨i1, i2, i3⟩ := hI
    simp only at i1 i2 i3 ih ⊢
    have f4 : Fr fmX σ τ := f3.tr (i2.mono (by decide))
    have hT := f4.fix hF (by decide)
    have hOT : OwnIs τ (rc 0 w) := ⟨(i2.2 _ _ rfl).trans hown.1, hown.2.congr (fun i hi => i2.2 _ _ rfl)⟩
    refine b_M_forms_23 _ hT ⟨by omega, by rw [hOT.1]; omega, fun c => ?_, fun c => ?_⟩
    · rw [hOT.1] at c
      rw [List.take_of_length_le (by omega), ← hrs] at i3
      exact ⟨rfl, pre_eq f4.1, f4, i3⟩
    · rw [hOT.1] at c
      have hol : o < (rc 0 w).length := by omega
      have hg := hOT.2.get (k := o) (by omega) (by omega)
      rw [show ((o : Int) - 0).toNat = o by omega] at hg
      have hft := flatMap_take (ex (oS t)) hol
      have hge : (rc 0 w).getD o 0 = (rc 0 w)[o] := by rw [List.getD_eq_getElem?_getD, List.getElem?_eq_getElem hol]; rfl
      have hmem := List.getElem_mem hol
      have hb2 := hnod _ hmem
      have hsub : (((rc 0 w).take o).flatMap (ex (oS t))).length + (ex (oS t) (rc 0 w)[o]).length ≤ V.length := by
        have q := congrArg List.length hrs
        have e : (rc 0 w).flatMap (ex (oS t)) = ((rc 0 w).take (o + 1)).flatMap (ex (oS t)) ++ ((rc 0 w).drop (o + 1)).flatMap (ex (oS t)) := by rw [← List.flatMap_append, List.take_append_drop]
        rw [e, hft] at q
        simp only [List.length_append] at q
        omega
      rw [hge] at hg
      generalize (rc 0 w)[o] = x at *
      have nxt : ∀ υ2 : St, Fr [(50, -1), (42, 10)] τ υ2 → RowIs υ2 (((rc 0 w).take o).flatMap (ex (oS t)) ++ ex (oS t) x) → WP E m_M_forms (d + 2) 140 [(0, aP 42), (3, aI o)] [] υ2 (fun r τ => r = none ∧ σ.2 <+: τ.2 ∧ Fr fmX σ τ ∧ RowIs τ V) := by
        intro υ2 g1 g2
        refine b_M_forms_140 _ ?_
        have h9 := ih (o + 1, υ2) (by show (rc 0 w).length - (o + 1) < (rc 0 w).length - o; omega) ⟨by show o + 1 ≤ _; omega, i2.tr g1, by show RowIs υ2 (((rc 0 w).take (o + 1)).flatMap (ex (oS t))); rw [hft]; exact g2⟩
        simp only at h9
        rw [show ((o + 1 : Nat) : Int) = (o : Int) + 1 by omega] at h9
        exact h9
      generalize ((rc 0 w).take o).flatMap (ex (oS t)) = C at *
      refine ⟨by omega, wmi_p (c_M_isSign (by rw [hg]; omega)) ⟨hT, b2i_r _, fun c2 => ?_, fun c2 => ?_⟩⟩
      · -- a sign: what it is comes
        rw [b2i_n0, hg] at c2
        obtain ⟨l1, l2⟩ := hlv x hmem c2
        rw [w2, List.mem_range, ← hso, ← oS_len] at l2
        have hue := List.getElem?_eq_getElem l2
        have hex : ex (oS t) x = rc 0 (oS t)[(x - 1).toNat] := by unfold ex; rw [if_pos c2, List.getD_eq_getElem?_getD, hue]; rfl
        have hu := hoS _ (List.getElem_mem l2)
        generalize (oS t)[(x - 1).toNat] = u at hue hex hu
        obtain ⟨p, p1, p2, p3⟩ := hit _ u hue
        rw [hex] at hsub nxt
        have htl := (rc_len2 ht 0).1
        rw [show (((x - 1).toNat : Nat) : Int) = x - 1 by omega] at p1
        have hx10 : 0 ≤ x - 1 ∧ x - 1 < 10 := by
          have := so_le t
          rw [oS_len] at l2
          omega
        rw [hg, f4.2 73 _ rfl, p1]
        have hbT : At (τ.1 72) p (rc 0 u) := p2.congr (fun i hi => f4.2 _ _ rfl)
        refine ⟨by omega, hx10, wmi_p (c_M_endOf (t := u) hu.2.1 (by omega) hbT (by omega) ⟨24, sf_72 hT, by omega⟩) ?_⟩
        have key2 : ∀ y : Nat × St, (y.1 ≤ (rc 0 u).length ∧ Fr [(50, -1), (42, 10)] τ y.2 ∧ RowIs y.2 (C ++ (rc 0 u).take y.1)) → WP E m_M_forms (d + 2) 101 [(0, aP 42), (3, aI o), (5, aI ((p : Int) + (rc 0 u).length)), (6, aI ((p : Int) + y.1))] [] y.2 (fun r τ => r = none ∧ σ.2 <+: τ.2 ∧ Fr fmX σ τ ∧ RowIs τ V) := by
          refine lpx (fun y => (rc 0 u).length - y.1) _ _ (fun y hI2 ih2 => ?_)
          obtain ⟨k, ψ⟩ := y
          obtain ⟨j1, j2, j3⟩ := hI2
          simp only at j1 j2 j3 ih2 ⊢
          have hP := j2.fix hT (by decide)
          refine b_M_forms_101 _ _ _ hP ⟨by omega, by omega, fun c3 => ?_, fun c3 => ?_⟩
          · rw [List.take_of_length_le (by omega)] at j3
            exact nxt ψ j2 j3
          · have hkl : k < (rc 0 u).length := by omega
            have hsz := j3.1
            rw [List.length_append, List.length_take, show min k (rc 0 u).length = k by omega] at hsz
            refine ⟨by omega, by rw [hsz]; omega, ?_⟩
            have hbv : ψ.1 72 ((p : Int) + k) = (rc 0 u).getD k 0 := (j2.2 _ _ rfl).trans (hbT k hkl)
            rw [hbv, hsz]
            have h9 := ih2 (k + 1, wr (wr ψ 50 ((C.length + k : Nat) : Int) ((rc 0 u).getD k 0)) 42 10 (((C.length + k : Nat) : Int) + 1)) (by show (rc 0 u).length - (k + 1) < (rc 0 u).length - k; omega) ⟨by show k + 1 ≤ _; omega, j2.tr ((Fr.wr (frO_a (by decide) _)).tr (Fr.wr (frO_k (by decide)))), ?_, ?_⟩
            · simp only at h9
              rw [show (p : Int) + ((k + 1 : Nat) : Int) = (p : Int) + k + 1 by omega] at h9
              exact h9
            · show (wr (wr ψ 50 ((C.length + k : Nat) : Int) ((rc 0 u).getD k 0)) 42 10 (((C.length + k : Nat) : Int) + 1)).1 42 10 = _
              rw [wr_same, List.length_append, List.length_take]
              omega
            · show At ((wr (wr ψ 50 ((C.length + k : Nat) : Int) ((rc 0 u).getD k 0)) 42 10 (((C.length + k : Nat) : Int) + 1)).1 50) 0 (C ++ (rc 0 u).take (k + 1))
              rw [take_succ_getD hkl, ← List.append_assoc]
              have hl3 : (C ++ (rc 0 u).take k).length = C.length + k := by rw [List.length_append, List.length_take]; omega
              refine j3.2.push ?_ (fun i hi => ?_)
              · rw [hl3, wr_na _ (by decide), wr_same]
              · rw [hl3] at hi
                rw [wr_na _ (by decide), wr_nk _ hi]
        have h9 := key2 (0, τ) ⟨Nat.zero_le _, Fr.refl _ _, by simpa using i3⟩
        simpa using h9
      · rw [b2i_0, hg] at c2
        have hex : ex (oS t) x = [x] := by unfold ex; rw [if_neg c2]
        rw [hex] at hsub nxt
        simp only [List.length_singleton] at hsub
        have hsz := i3.1
        rw [hsz, hg]
        refine ⟨by omega, by omega, nxt _ ((Fr.wr (frO_a (by decide) _)).tr (Fr.wr (frO_k (by decide)))) ⟨?_, ?_⟩⟩
        · rw [wr_same, List.length_append]; simp
        · refine i3.2.push ?_ (fun i hi => ?_)
          · rw [wr_na _ (by decide), wr_same]
          · rw [wr_na _ (by decide), wr_nk _ hi]
  exact key (0, υ) ⟨Nat.zero_le _, Fr.refl _ _, by show υ.1 42 10 = 0; rw [← hυ, wr_same], At.nil _ _⟩
end MItems
