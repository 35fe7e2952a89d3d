/-! SQUARE: how deep brackets are in a text, signs inside others -/
def dst (x : Int) (p : Int × Int) : Int × Int := (p.1 + (if x = 40 ∨ x = 60 then 1 else 0) - (if x = 41 ∨ x = 62 then 1 else 0), max p.2 (p.1 + (if x = 40 ∨ x = 60 then 1 else 0) - (if x = 41 ∨ x = 62 then 1 else 0)))
def dpF : Int × Int → List Int → Int × Int
  | p, [] => p
  | p, x :: X => dpF (dst x p) X
theorem dpF_app (X Y : List Int) : ∀ p, dpF p (X ++ Y) = dpF (dpF p X) Y := by
  induction X with
  | nil => intro p; rfl
  | cons x X ih => intro p; exact ih _
theorem dpF_b (X : List Int) : ∀ (p : Int × Int) (n : Int), (-n ≤ p.1 ∧ p.1 ≤ n ∧ -n ≤ p.2 ∧ p.2 ≤ n) → (-(n + X.length) ≤ (dpF p X).1 ∧ (dpF p X).1 ≤ n + X.length ∧ -(n + X.length) ≤ (dpF p X).2 ∧ (dpF p X).2 ≤ n + X.length) := by
  induction X with
  | nil => intro p n h; simpa [dpF] using h
  | cons x X ih =>
    intro p n h
    have h1 := ih (dst x p) (n + 1) (by
      simp only [dst]
      split <;> split <;> omega)
    simp only [dpF, List.length_cons]
    rw [Int.natCast_add]
    rw [show n + ((X.length : Int) + ((1 : Nat) : Int)) = n + 1 + (X.length : Int) by omega]
    exact h1
def cnD : List Int → List Nat → Nat
  | x :: K, e :: D => (if x < 200 ∧ 0 < e then 1 else 0) + cnD K D
  | _, _ => 0
theorem cnD_app : ∀ (K : List Int) (D : List Nat) (L : List Int) (F : List Nat), K.length = D.length → cnD (K ++ L) (D ++ F) = cnD K D + cnD L F
  | [], [], L, F, _ => by simp [cnD]
  | [], e :: D, L, F, h => by simp at h
  | x :: K, [], L, F, h => by simp at h
  | x :: K, e :: D, L, F, h => by
    have := cnD_app K D L F (by simpa using h)
    simp only [List.cons_append, cnD, this]; omega
theorem so_le (t : Tr) : so t ≤ sg t := by
  induction t with
  | mul a b iha ihb => simp only [so, sg]; omega
  | add a b iha ihb => simp only [so, sg]; omega
  | _ => simp [so, sg]
theorem cnD_rc {t : Tr} (h : ok t) : ∀ k e, cnD (rc k t) (dq k e t) = if 0 < e then sg t else sg t - so t := by
  induction t with
  | var l =>
    intro k e
    have h2 : vN l < 26 := h
    have h3 : (vN l : Int) + 1 < 200 := by omega
    simp only [rc, dq, cnD, sg, so, h3, true_and]
    split <;> simp
  | pow t l ih =>
    intro k e
    have h2 : l < 26 := h.2
    have h3 : (l : Int) + 101 < 200 := by omega
    simp only [rc, dq, cnD, sg, so, h3, true_and, ih h.1]
    rw [if_pos (show 0 < e + 1 by omega)]
    split <;> omega
  | mul a b iha ihb =>
    intro k e
    have h1 := so_le a
    have h2 := so_le b
    have hx : ¬ ((nM b : Int) + 201 < 200) := by omega
    have hl : (rc 0 a).length = (dq 0 e a).length := (dq_len a 0 e).symm
    simp only [rc, dq, sg, so]
    split
    · rw [List.nil_append, cnD_app _ _ _ _ hl, iha h.1, ihb h.2.1]
      split <;> omega
    · rw [List.singleton_append]
      simp only [cnD, hx, false_and, if_false]
      rw [cnD_app _ _ _ _ hl, iha h.1, ihb h.2.1]
      split <;> omega
  | add a b iha ihb =>
    intro k e
    have h1 := so_le a
    have h2 := so_le b
    have hx : ¬ ((nA b : Int) + 301 < 200) := by omega
    have hl : (rc 0 a).length = (dq 0 e a).length := (dq_len a 0 e).symm
    simp only [rc, dq, sg, so]
    split
    · rw [List.nil_append, cnD_app _ _ _ _ hl, iha h.1, ihb h.2.1]
      split <;> omega
    · rw [List.singleton_append]
      simp only [cnD, hx, false_and, if_false]
      rw [cnD_app _ _ _ _ hl, iha h.1, ihb h.2.1]
      split <;> omega
  | _ => exact absurd h (by simp [ok])
theorem cnD_le : ∀ (K : List Int) (D : List Nat), cnD K D ≤ K.length
  | [], _ => by simp [cnD]
  | x :: K, [] => by simp [cnD]
  | x :: K, e :: D => by
    have := cnD_le K D
    simp only [cnD, List.length_cons]
    split <;> omega
def sp_square (T : Tb) (M : Mo) (l s w : Int) : Int := match sqAt M l s with
  | none => -1
  | some t => if w = 0 then (sg t : Int) else if w = 1 then wid T M.2.1 t else if w = 2 then hei T M.2.1 t else if w = 3 then ((sg t - so t : Nat) : Int) else if w = 4 then (nA t : Int) else if w = 5 then (nM (if isA t then fstT t else t) : Int) else if w = 6 then (bra (tx 0 t) : Int) else if w = 7 then (dpF (0, 0) (tx 0 t)).2 else -1
section MSquare
variable {E : EV} {d : Nat} {σ : St} {T : Tb} {M : Mo} {P : List Mo} {tp : List Int} {X : List Int}
theorem c_M_deepInText (hF : Fix σ) (h : TxIs σ X) (hn : X.length ≤ 2600) (hx : ∀ x ∈ X, 0 ≤ x ∧ x ≤ 255) : WMi E m_M_deepInText d [aP 42] σ (fun r τ => r = (dpF (0, 0) X).2 ∧ τ = σ) := by
  refine e_M_deepInText ?_
  have key : ∀ k : Nat, k ≤ X.length → WP E m_M_deepInText d 6 [(0, aP 42), (1, aI (dpF (0, 0) (X.take k)).2), (2, aI (dpF (0, 0) (X.take k)).1), (3, aI k)] [] σ (fun r τ => ∃ v, r = some (aI v) ∧ σ.2 <+: τ.2 ∧ v = (dpF (0, 0) X).2 ∧ τ = σ) := by
    refine lpx (fun k => X.length - k) _ _ (fun k hI ih => ?_)
    have hb := dpF_b (X.take k) (0, 0) 0 (by simp)
    rw [List.length_take] at hb
    refine b_M_deepInText_6 _ _ _ hF ⟨by omega, by rw [h.1]; omega, fun c => ri_p ?_, fun c => ?_⟩
    · rw [h.1] at c
      rw [show k = X.length by omega, List.take_length]
    · rw [h.1] at c
      have hkl : k < X.length := by omega
      have e1 := h.2.get (k := k) (by omega) (by omega)
      rw [show ((k : Int) - 0).toNat = k by omega] at e1
      have e2 : 0 ≤ X.getD k 0 ∧ X.getD k 0 ≤ 255 := by
        rw [List.getD_eq_getElem?_getD, List.getElem?_eq_getElem hkl]
        exact hx _ (List.getElem_mem hkl)
      have h9 := ih (k + 1) (by omega) (by omega)
      rw [take_succ_getD hkl, dpF_app, ← e1] at h9
      generalize dpF (0, 0) (X.take k) = p at hb h9 ⊢
      obtain ⟨s, m⟩ := p
      have hxb : 0 ≤ σ.1 64 k ∧ σ.1 64 k ≤ 255 := by rw [e1]; exact e2
      simp only [dpF, dst] at h9 hb ⊢
      have tail : ∀ s', s' = s + (if σ.1 64 k = 40 ∨ σ.1 64 k = 60 then 1 else 0) - (if σ.1 64 k = 41 ∨ σ.1 64 k = 62 then 1 else 0) → WP E m_M_deepInText d 64 [(0, aP 42), (1, aI m), (2, aI s'), (3, aI k)] [] σ (fun r τ => ∃ v, r = some (aI v) ∧ σ.2 <+: τ.2 ∧ v = (dpF (0, 0) X).2 ∧ τ = σ) := by
        intro s' hs'
        have hs2 : -2700 ≤ s' ∧ s' ≤ 2700 := by rw [hs']; split <;> split <;> omega
        rw [← hs'] at h9
        refine b_M_deepInText_64 _ _ _ ⟨by omega, by omega, fun c => b_M_deepInText_71 _ _ _ ?_, fun c => b_M_deepInText_71 _ _ _ ?_⟩
        · rw [show max m s' = m by omega] at h9; exact h9
        · rw [show max m s' = s' by omega] at h9; exact h9
      have mid : ∀ s', s' = s + (if σ.1 64 k = 40 ∨ σ.1 64 k = 60 then 1 else 0) → WP E m_M_deepInText d 39 [(0, aP 42), (1, aI m), (2, aI s'), (3, aI k)] [] σ (fun r τ => ∃ v, r = some (aI v) ∧ σ.2 <+: τ.2 ∧ v = (dpF (0, 0) X).2 ∧ τ = σ) := by
        intro s' hs'
        refine b_M_deepInText_39 _ _ _ hF ⟨by omega, by omega, fun c => b_M_deepInText_61 _ _ _ (tail _ ?_), fun c => ⟨by omega, by omega, fun c2 => tail _ ?_, fun c2 => b_M_deepInText_61 _ _ _ (tail _ ?_)⟩⟩
        · rw [if_pos (show σ.1 64 k = 41 ∨ σ.1 64 k = 62 from Or.inl c), hs']; omega
        · rw [if_neg (show ¬ (σ.1 64 k = 41 ∨ σ.1 64 k = 62) by omega), hs']; omega
        · rw [if_pos (show σ.1 64 k = 41 ∨ σ.1 64 k = 62 from Or.inr c2), hs']; omega
      refine ⟨by omega, by omega, fun c => b_M_deepInText_36 _ _ _ (mid _ ?_), fun c => ⟨by omega, by omega, fun c2 => mid _ ?_, fun c2 => b_M_deepInText_36 _ _ _ (mid _ ?_)⟩⟩
      · rw [if_pos (Or.inl c)]
      · rw [if_neg (by omega)]; omega
      · rw [if_pos (Or.inr c2)]
  exact key 0 (Nat.zero_le _)
theorem c_M_square {l s w : Int} (h : RS σ T M P tp) (hk : okD T M P tp) (h1 : rI l) (h2 : rI s) (h3 : rI w) : WMi E m_M_square (d + 5) [aP 42, aI l, aI s, aI w] σ (fun r τ => r = sp_square T M l s w ∧ Fr scr σ τ) := by
  have hF := h.1.1
  have hkM := hk.2.1
  unfold sp_square
  refine e_M_square _ _ _ hF (wmi_p (c_M_isSquare' h hkM h1 h2) ⟨hF, b2i_r _, fun c => ?_, fun c => ?_⟩)
  · rw [b2i_n0] at c
    obtain ⟨t, ht⟩ := Option.isSome_iff_exists.mp c
    obtain ⟨a1, a2, a3, a4, a5, a6, a7⟩ := h.1.2.2.sq hkM ht
    have h10 := a5.2.1
    have htl := (tx_len a5.1 0).2
    have hl2 := rc_len2 a5.1 0
    have hsg := sg_pos a5.1
    rw [ht]
    dsimp only
    refine WMv.mono (c_M_takes' h hkM ht) (fun τ hp hq => ?_)
    have hT := h.scr (hq.1.mono (by decide))
    refine ⟨hT.1.1, WMv.mono (c_M_measures hT.1.1 hq.2 hT.1.2.1 hT.1.2.2.2.1 hk.1 hkM.2.1 a5.1 h10 a5.2.2.2) (fun υ hp2 hq2 => ?_)⟩
    have hU := hT.scr (hq2.1.mono (by decide))
    have fw : Fr scr υ (wr υ 42 29 0) := Fr.wr (frO_k (by decide))
    have hV := hU.scr fw
    have rowU : RowIs υ (rc 0 t) := hq.2.keep hq2.1 rfl (fun _ => rfl)
    have rowV : RowIs (wr υ 42 29 0) (rc 0 t) := ⟨by rw [wr_nk _ (by decide)]; exact rowU.1, rowU.2.congr (fun i hi => wr_na _ (by decide))⟩
    have hX : TxIs (wr υ 42 29 0) [] := ⟨wr_same _ _ _ _, At.nil _ _⟩
    refine ⟨hU.1.1, WMv.mono (c_M_writesRow hV.1.1 rowV hX a5.1 h10 (by simp; omega)) (fun ω hp3 hq3 => ?_)⟩
    have hW := hV.scr (hq3.1.mono (by decide))
    have hFW := hW.1.1
    have rowW : RowIs ω (rc 0 t) := rowV.keep hq3.1 rfl (fun _ => rfl)
    have txW : TxIs ω (tx 0 t) := by simpa using hq3.2
    have frW : Fr scr σ ω := (((hq.1.mono (by decide)).tr (hq2.1.mono (by decide))).tr fw).tr (hq3.1.mono (by decide))
    have hpre : σ.2 <+: ω.2 := pre_eq frW.1
    have hx0 : ω.1 50 0 = nd t := by have h9 := rowW.2; rw [rc0_nd a5.1] at h9; exact h9.hd
    have hnd := nd_pts a5.1 (by omega)
    have hnj := nd_j a5.1 (by omega)
    have hm := hq2.2 0 t (by omega) (by rw [sb0_ch a5.1]; rfl)
    have hw0 : ω.1 52 0 = wid T M.2.1 t ∧ ω.1 53 0 = hei T M.2.1 t := ⟨(hq3.1.2 _ _ rfl).trans ((wr_na _ (by decide)).trans hm.1), (hq3.1.2 _ _ rfl).trans ((wr_na _ (by decide)).trans hm.2.1)⟩
    have hbyte : ∀ x ∈ tx 0 t, 0 ≤ x ∧ x ≤ 255 := fun x hx => by have := tx_byte a5.1 0 x hx; omega
    have inner : ∀ b : Int, (b = 0 ∧ isA t = false) ∨ (b = 1 ∧ isA t = true) → WP E m_M_square (d + 5) 59 [(0, aP 42), (3, aI w), (4, aI b)] [aI b] ω (fun r τ => ∃ v, r = some (aI v) ∧ σ.2 <+: τ.2 ∧ v = (if w = 0 then (sg t : Int) else if w = 1 then wid T M.2.1 t else if w = 2 then hei T M.2.1 t else if w = 3 then ((sg t - so t : Nat) : Int) else if w = 4 then (nA t : Int) else if w = 5 then (nM (if isA t then fstT t else t) : Int) else if w = 6 then (bra (tx 0 t) : Int) else if w = 7 then (dpF (0, 0) (tx 0 t)).2 else -1) ∧ Fr scr σ τ) := by
      intro b hb
      refine b_M_square_59 _ _ _ hFW ⟨h3, fun c => ?_, fun c => ⟨_, rfl, hpre, by subst c; exact hw0.1, frW⟩, fun c => ⟨_, rfl, hpre, by subst c; exact hw0.2, frW⟩, fun c => ?_, fun c => ⟨by omega, fun c2 => ⟨_, rfl, hpre, ?_, frW⟩, fun c2 => wmi_p (c_M_partsOf (by omega)) ⟨_, rfl, hpre, ?_, frW⟩⟩, fun c => ?_, fun c => ?_, fun c => ?_, fun c => ⟨_, rfl, hpre, ?_, frW⟩⟩
      · rw [rowW.1]
        refine wmi_p (c_M_signsIn rowW.2 a7 (by omega) (by omega) ⟨24, sf_50 hFW, by omega⟩) ⟨_, rfl, hpre, ?_, frW⟩
        rw [rc_cnt a5.1, if_pos c]
      · subst c
        have key : ∀ k : Nat, k ≤ (rc 0 t).length → WP E m_M_square (d + 5) 141 [(0, aP 42), (6, aI (cnD ((rc 0 t).take k) ((dq 0 0 t).take k) : Nat)), (7, aI k)] [] ω (fun r τ => ∃ v, r = some (aI v) ∧ σ.2 <+: τ.2 ∧ v = ((sg t - so t : Nat) : Int) ∧ Fr scr σ τ) := by
          refine lpx (fun k => (rc 0 t).length - k) _ _ (fun k hI ih => ?_)
          have hcl := cnD_le ((rc 0 t).take k) ((dq 0 0 t).take k)
          rw [List.length_take] at hcl
          refine b_M_square_141 _ _ hFW ⟨by omega, by rw [rowW.1]; omega, fun c => ⟨_, rfl, hpre, ?_, frW⟩, fun c => ?_⟩
          · rw [rowW.1] at c
            rw [show k = (rc 0 t).length by omega, List.take_length, ← dq_len t 0 0, List.take_length, cnD_rc a5.1]
            rfl
          · rw [rowW.1] at c
            have hkl : k < (rc 0 t).length := by omega
            have hkd : k < (dq 0 0 t).length := by rw [dq_len]; omega
            have e1 := rowW.2.get (k := k) (by omega) (by omega)
            rw [show ((k : Int) - 0).toNat = k by omega] at e1
            have hxb := a7.at rowW.2 (i := k) (by omega) (by omega)
            have h9 := ih (k + 1) (by omega) (by omega)
            have ed : (dq 0 0 t).take (k + 1) = (dq 0 0 t).take k ++ [(dq 0 0 t)[k]] := by rw [List.take_add_one, List.getElem?_eq_getElem hkd]; rfl
            rw [take_succ_getD hkl, ed, cnD_app _ _ _ _ (by rw [List.length_take, List.length_take, dq_len]), ← e1] at h9
            have hde := List.getElem?_eq_getElem hkd
            generalize (dq 0 0 t)[k] = e at h9 hde
            have hdb : e ≤ 100 := by
              obtain ⟨m1, -⟩ := dq_max a5.1 0 0
              have := m1 e (List.mem_of_getElem? hde)
              have := a5.2.2.1
              omega
            refine ⟨by omega, wmi_p (c_M_isSign (by omega)) ⟨hFW, b2i_r _, fun c2 => b_M_square_179 _ _ ?_, fun c2 => wmi_p (c_M_around a5.1 (by omega) rowW.2 (by omega) ⟨24, sf_50 hFW, by omega⟩ (by omega) hde) ⟨by omega, fun c3 => b_M_square_179 _ _ ?_, fun c3 => b_M_square_179 _ _ ?_⟩⟩⟩
            · rw [b2i_0] at c2
              simp only [cnD, c2, false_and, if_false] at h9
              exact h9
            · have : e = 0 := by omega
              subst this
              simp only [cnD, Nat.lt_irrefl, and_false, if_false] at h9
              exact h9
            · rw [b2i_n0] at c2
              have : 0 < e := by omega
              simp only [cnD, c2, this, and_self, if_true] at h9
              rw [Int.natCast_add] at h9
              exact h9
        exact key 0 (Nat.zero_le _)
      · subst c
        have ha : isA t = false := by rcases hb with q | q; exact q.2; omega
        show (1 : Int) = (nA t : Int)
        cases t <;> simp_all [isA, nA]
      · subst c
        have ha : isA t = true := by rcases hb with q | q; omega; exact q.2
        rw [hx0, hnd.1]
        show ((ch t).length : Int) = (nA t : Int)
        cases t with
        | add a b => rw [← pA_len]; rfl
        | _ => simp [isA] at ha
      · subst c
        -- the first row
        have hu : ∃ u, u = (if isA t then fstT t else t) ∧ ok u ∧ sg u ≤ 10 ∧ isA u = false ∧ ω.1 50 b = nd u := by
          rcases hb with ⟨rfl, ha⟩ | ⟨rfl, ha⟩
          · exact ⟨t, by rw [if_neg (by simp [ha])], a5.1, h10, ha, hx0⟩
          · have hj : isJ t = true := by simp [isJ, ha]
            obtain ⟨R, r1, r2, r3, r4, r5⟩ := joint_split a5.1 hj (by omega)
            refine ⟨fstT t, by rw [if_pos ha], r3, by omega, ?_, ?_⟩
            · have h9 := a5.1
              cases t with
              | add a b => exact h9.2.2
              | _ => simp [isA] at ha
            · have h9 := rowW.2
              rw [r1, rc0_nd r3] at h9
              exact (At.cons.mp h9).2.hd
        obtain ⟨u, u1, u2, u3, u4, u5⟩ := hu
        have hnu := nd_pts u2 (by omega)
        have hju := nd_j u2 (by omega)
        refine ⟨by omega, wmi_p (c_M_isSign (by omega)) ⟨hFW, b2i_r _, fun c2 => ⟨by omega, wmi_p (c_M_partsOf (by omega)) ⟨_, rfl, hpre, ?_, frW⟩⟩, fun c2 => ⟨_, rfl, hpre, ?_, frW⟩⟩⟩
        · rw [b2i_0, u5] at c2
          have hj := hju.1.mp (by omega)
          show ptsOf (ω.1 50 b) = (nM (if isA t then fstT t else t) : Int)
          rw [u5, hnu.1, ← u1]
          cases u with
          | mul a b => rw [← pM_len]; rfl
          | _ => simp_all [isJ, isM, isA]
        · rw [b2i_n0, u5] at c2
          have hj : isJ u = false := by
            cases hh : isJ u with
            | false => rfl
            | true => exact absurd (hju.1.mpr hh) (by omega)
          show (1 : Int) = (nM (if isA t then fstT t else t) : Int)
          rw [← u1]
          cases u <;> simp_all [isJ, isM, isA, nM]
      · subst c
        exact wmi_p (c_M_bracketsInText hFW txW (by omega) hbyte) ⟨_, rfl, hpre, rfl, frW⟩
      · subst c
        exact wmi_p (c_M_deepInText hFW txW (by omega) hbyte) ⟨_, rfl, hpre, rfl, frW⟩
      · rw [if_neg (by omega), if_neg (by omega), if_neg (by omega), if_neg (by omega), if_neg (by omega), if_neg (by omega), if_neg (by omega), if_neg (by omega)]
    refine ⟨hFW, by omega, fun c2 => b_M_square_47 _ _ ⟨by decide, fun _ => inner 0 (Or.inl ⟨rfl, ?_⟩), fun q => absurd rfl q⟩, fun c2 => b_M_square_47 _ _ ⟨by decide, fun q => absurd q (by decide), fun _ => inner 1 (Or.inr ⟨rfl, ?_⟩)⟩⟩
    · rw [hx0] at c2
      cases hh : isA t with
      | false => rfl
      | true => exact absurd (hnj.2.mpr hh) (by omega)
    · rw [hx0] at c2
      exact hnj.2.mp (by omega)
  · rw [b2i_0] at c
    refine ⟨_, rfl, List.prefix_refl _, ?_, Fr.refl _ _⟩
    cases hs : sqAt M l s with
    | none => rfl
    | some t => exact absurd (by simp [hs]) c
end MSquare
