/-! THE BEST ARRANGEMENT -/
def ltL : List Int → List Int → Bool
  | x :: X, y :: Y => if x = y then ltL X Y else decide (x < y)
  | _, _ => false
/-- how long a text is without its brackets -/
def bl : Tr → Nat
  | .var _ => 1
  | .pow t _ => bl t + 3
  | .mul a b => bl a + bl b + 1
  | .add a b => bl a + bl b + 1
  | _ => 0
def bri : Tr → Nat
  | .pow t _ => bra (tx 0 t)
  | _ => 0
theorem bra_cons (x : Int) (K : List Int) : bra (x :: K) = (if x = 40 then 1 else 0) + bra K := rfl
theorem tx_bl {t : Tr} (h : ok t) : ∀ k, (tx k t).length = bl t + 2 * bra (tx k t) := by
  induction t with
  | var l =>
    intro k
    have h2 : vN l < 26 := h
    have e : ¬ (97 + (vN l : Int) = 40) := by omega
    simp [tx, bl, bra, e]
  | pow t l ih =>
    intro k
    have h2 : l < 26 := h.2
    have e : ¬ (97 + (l : Int) = 40) := by omega
    have := ih h.1 0
    simp only [tx, bl, bra_cons, bra_app, List.length_cons, List.length_append, e, if_false, show ¬ ((60 : Int) = 40) by decide, show ¬ ((62 : Int) = 40) by decide, bra, List.length_nil]
    omega
  | mul a b iha ihb =>
    intro k
    have h1 := iha h.1 1
    have h2 := ihb h.2.1 1
    simp only [tx, bl, bra_cons, bra_app, List.length_cons, List.length_append, show ¬ ((42 : Int) = 40) by decide, if_false]
    omega
  | add a b iha ihb =>
    intro k
    have h1 := iha h.1 2
    have h2 := ihb h.2.1 2
    simp only [tx, bl]
    split
    · simp only [bra_cons, bra_app, List.length_cons, List.length_append, show ¬ ((58 : Int) = 40) by decide, show ¬ ((41 : Int) = 40) by decide, if_false, if_true, bra, List.length_nil]
      omega
    · simp only [bra_cons, bra_app, List.length_cons, List.length_append, show ¬ ((58 : Int) = 40) by decide, if_false]
      omega
  | _ => exact absurd h (by simp [ok])
theorem sbs_bl (xs : List Tr) {s : Tr} (hs : okP s = true) : bl (sbs xs s) + 1 = ((lv s).map (fun i => bl (xs.getD i (.var 0)) + 1)).sum := by
  induction s with
  | var l => simp [sbs, lv]
  | mul a b iha ihb =>
    obtain ⟨h1, h2, -⟩ := okP_mul hs
    have ia := iha h1
    have ib := ihb h2
    simp only [sbs, bl, lv, List.map_append, List.sum_append_nat]
    omega
  | add a b iha ihb =>
    obtain ⟨h1, h2, -⟩ := okP_add hs
    have ia := iha h1
    have ib := ihb h2
    simp only [sbs, bl, lv, List.map_append, List.sum_append_nat]
    omega
  | _ => simp [okP] at hs
/-- better than another one -/
def btr (T : Tb) (M : Mo) (c b : Tr) : Bool := decide (gr T M c < gr T M b) || (decide (gr T M c = gr T M b) && (decide (bra (tx 0 c) < bra (tx 0 b)) || (decide (bra (tx 0 c) = bra (tx 0 b)) && ltL (tx 0 c) (tx 0 b))))
def nxtB (T : Tb) (M : Mo) (o : Option Tr) (c : Tr) : Tr := match o with
  | none => c
  | some b => if btr T M c b then c else b
def cnd (n : Nat) : List Tr := (fF n).flatMap (fun s => [s, tn s])
def bstF (T : Tb) (M : Mo) (o : Option Tr) (L : List Tr) : Option Tr := L.foldl (fun o c => some (nxtB T M o c)) o
def bstO (T : Tb) (M : Mo) (t : Tr) : Option Tr := bstF T M none ((cnd (so t)).map (sbs (oS t)))
def BstIs (σ : St) (T : Tb) (M : Mo) (o : Option Tr) : Prop := match o with
  | none => σ.1 42 41 = 0
  | some b => (σ.1 42 41 = (rc 0 b).length ∧ At (σ.1 74) 0 (rc 0 b)) ∧ σ.1 42 42 = gr T M b ∧ σ.1 42 43 = bra (tx 0 b) ∧ σ.1 42 45 = (tx 0 b).length ∧ At (σ.1 75) 0 (tx 0 b)
def beX : List (Int × Int) := [(74, -1), (42, 41), (42, 42), (42, 43), (75, -1), (42, 45)]
theorem BstIs.keep {σ τ : St} {T : Tb} {M : Mo} {o : Option Tr} {X : List (Int × Int)} (h : BstIs σ T M o) (hf : Fr X σ τ) (h1 : ∀ j, frO X 74 j = true ∧ frO X 75 j = true) (h2 : frO X 42 41 = true ∧ frO X 42 42 = true ∧ frO X 42 43 = true ∧ frO X 42 45 = true) : BstIs τ T M o := by
  cases o with
  | none => exact (hf.2 _ _ h2.1).trans h
  | some b =>
    obtain ⟨⟨a1, a2⟩, a3, a4, a5, a6⟩ := h
    exact ⟨⟨(hf.2 _ _ h2.1).trans a1, a2.congr (fun i hi => hf.2 _ _ (h1 _).1)⟩, (hf.2 _ _ h2.2.1).trans a3, (hf.2 _ _ h2.2.2.1).trans a4, (hf.2 _ _ h2.2.2.2).trans a5, a6.congr (fun i hi => hf.2 _ _ (h1 _).2)⟩
theorem ltL_irr (X : List Int) : ltL X X = false := by
  induction X with
  | nil => rfl
  | cons x X ih => simp [ltL, ih]
section MBest
variable {E : EV} {d : Nat} {σ : St} {T : Tb} {M : Mo} {P : List Mo} {tp : List Int}
theorem c_M_isAhead {X Y : List Int} (hF : Fix σ) (hX : TxIs σ X) (hY : At (σ.1 75) 0 Y) (hl : X.length = Y.length) (hn : X.length ≤ 79) (hxb : ∀ x ∈ X, 0 ≤ x ∧ x ≤ 255) (hyb : ∀ x ∈ Y, 0 ≤ x ∧ x ≤ 255) : WMi E m_M_isAhead d [aP 42] σ (fun r τ => r = b2i (ltL X Y = true) ∧ τ = σ) := by
  refine e_M_isAhead ?_
  have key : ∀ k : Nat, (k ≤ X.length ∧ ltL (X.drop k) (Y.drop k) = ltL X Y) → WP E m_M_isAhead d 2 [(0, aP 42), (1, aI k)] [] σ (fun r τ => ∃ v, r = some (aI v) ∧ σ.2 <+: τ.2 ∧ v = b2i (ltL X Y = true) ∧ τ = σ) := by
    refine lpx (fun k => X.length - k) _ _ (fun k hI ih => ?_)
    obtain ⟨i1, i2⟩ := hI
    refine b_M_isAhead_2 _ hF ⟨by omega, by rw [hX.1]; omega, fun c => ri_p ?_, fun c => ?_⟩
    · rw [hX.1] at c
      rw [← i2, List.drop_eq_nil_of_le (by omega)]
      rfl
    · rw [hX.1] at c
      have hkx : k < X.length := by omega
      have hky : k < Y.length := by omega
      have e1 := hX.2.get (k := k) (by omega) (by omega)
      have e2 := hY.get (k := k) (by omega) (by omega)
      rw [show ((k : Int) - 0).toNat = k by omega, List.getD_eq_getElem?_getD, List.getElem?_eq_getElem hkx, Option.getD_some] at e1
      rw [show ((k : Int) - 0).toNat = k by omega, List.getD_eq_getElem?_getD, List.getElem?_eq_getElem hky, Option.getD_some] at e2
      have b1 := hxb _ (List.getElem_mem hkx)
      have b2 := hyb _ (List.getElem_mem hky)
      rw [List.drop_eq_getElem_cons hkx, List.drop_eq_getElem_cons hky] at i2
      simp only [ltL] at i2
      rw [e1, e2]
      refine ⟨by omega, by omega, by omega, by omega, fun c2 => ?_, fun c2 => ⟨by omega, by omega, by omega, by omega, fun c3 => ri_p ?_, fun c3 => ri_p ?_⟩⟩
      · rw [if_pos c2] at i2
        have h9 := ih (k + 1) (by omega) ⟨by omega, i2⟩
        rw [show ((k + 1 : Nat) : Int) = (k : Int) + 1 by omega] at h9
        exact h9
      · rw [if_neg c2] at i2
        rw [b2i_f]
        rw [← i2, decide_eq_true_eq]
        omega
      · rw [if_neg c2] at i2
        rw [b2i_t]
        rw [← i2, decide_eq_true_eq]
        omega
  exact key 0 ⟨Nat.zero_le _, by simp⟩
def cmX : List (Int × Int) := (52, -1) :: (53, -1) :: (54, -1) :: (64, -1) :: (42, 29) :: (65, -1) :: (66, -1) :: (67, -1) :: (68, -1) :: beX
theorem c_M_compares {c : Tr} {o : Option Tr} (h : RS σ T M P tp) (hk : okD T M P tp) (hR : RowIs σ (rc 0 c)) (hc : okS T c) (hB : BstIs σ T M o) (hob : ∀ b, o = some b → okS T b ∧ bl b = bl c) : WMv E m_M_compares (d + 3) [aP 42] σ (fun τ => Fr cmX σ τ ∧ BstIs τ T M (some (nxtB T M o c))) := by
  have hF := h.1.1
  have hkM := hk.2.1
  have hgc := gr_b hk.1 hkM hc
  have hc10 := hc.2.1
  have htl := tx_len hc.1 0
  have hrl := rc_len2 hc.1 0
  have hbraL : ∀ X : List Int, bra X ≤ X.length := by
    intro X
    induction X with
    | nil => simp [bra]
    | cons x X ih => simp only [bra, List.length_cons]; split <;> omega
  refine e_M_compares hF (WMi.mono (c_M_greatest' h hk.1 hkM hR hc) (fun r τ1 p1 q1 => ?_))
  obtain ⟨f1, m1, rfl⟩ := q1
  have h1 := h.scr (f1.mono (by decide))
  have B1 : BstIs τ1 T M o := hB.keep f1 (fun j => ⟨rfl, rfl⟩) ⟨rfl, rfl, rfl, rfl⟩
  have R1 : RowIs τ1 (rc 0 c) := hR.keep f1 rfl (fun _ => rfl)
  -- what is laid once it is better
  have lay : ∀ υ : St, Fr cmX σ υ → RowIs υ (rc 0 c) → TxIs υ (tx 0 c) → nxtB T M o c = c → WP E m_M_compares (d + 3) 74 [(0, aP 42), (1, aI (gr T M c)), (2, aI (bra (tx 0 c) : Nat))] [] υ (fun r τ => r = none ∧ σ.2 <+: τ.2 ∧ Fr cmX σ τ ∧ BstIs τ T M (some (nxtB T M o c))) := by
    intro υ f2 R2 X2 hn
    rw [hn]
    have F2 := f2.fix hF (by decide)
    refine b_M_compares_74 _ _ F2 ?_
    rw [R2.1]
    have fw : Fr beX υ (wr (wr (wr υ 42 42 (gr T M c)) 42 43 (bra (tx 0 c) : Nat)) 42 41 (rc 0 c).length) := ((Fr.wr (frO_k (by decide))).tr (Fr.wr (frO_k (by decide)))).tr (Fr.wr (frO_k (by decide)))
    have w1 : (wr (wr (wr υ 42 42 (gr T M c)) 42 43 (bra (tx 0 c) : Nat)) 42 41 (rc 0 c).length).1 42 42 = gr T M c := by rw [wr_nk _ (by decide), wr_nk _ (by decide), wr_same]
    have w2 : (wr (wr (wr υ 42 42 (gr T M c)) 42 43 (bra (tx 0 c) : Nat)) 42 41 (rc 0 c).length).1 42 43 = (bra (tx 0 c) : Nat) := by rw [wr_nk _ (by decide), wr_same]
    have w3 : (wr (wr (wr υ 42 42 (gr T M c)) 42 43 (bra (tx 0 c) : Nat)) 42 41 (rc 0 c).length).1 42 41 = (rc 0 c).length := wr_same _ _ _ _
    generalize wr (wr (wr υ 42 42 (gr T M c)) 42 43 (bra (tx 0 c) : Nat)) 42 41 (rc 0 c).length = ψ at *
    have key : ∀ z : Nat × St, (z.1 ≤ (rc 0 c).length ∧ Fr [(74, -1)] ψ z.2 ∧ At (z.2.1 74) 0 ((rc 0 c).take z.1)) → WP E m_M_compares (d + 3) 94 [(0, aP 42), (3, aI z.1)] [] z.2 (fun r τ => r = none ∧ σ.2 <+: τ.2 ∧ Fr cmX σ τ ∧ BstIs τ T M (some c)) := by
      refine lpx (fun z => (rc 0 c).length - z.1) _ _ (fun z hI ih => ?_)
      obtain ⟨k, τ⟩ := z
      obtain ⟨i1, i2, i3⟩ := hI
      simp only at i1 i2 i3 ih ⊢
      have f3 : Fr cmX σ τ := (f2.tr (fw.mono (by decide))).tr (i2.mono (by decide))
      have F3 := f3.fix hF (by decide)
      have R3 : RowIs τ (rc 0 c) := (R2.keep fw rfl (fun _ => rfl)).keep i2 rfl (fun _ => rfl)
      refine b_M_compares_94 _ F3 ⟨by omega, by rw [R3.1]; omega, fun c2 => ?_, fun c2 => ⟨by rw [R3.1] at c2; omega, by rw [R3.1] at c2; omega, ?_⟩⟩
      · rw [R3.1] at c2
        rw [List.take_of_length_le (by omega)] at i3
        have x3 : τ.1 42 29 = (tx 0 c).length := (i2.2 _ _ rfl).trans ((fw.2 _ _ rfl).trans X2.1)
        rw [x3]
        have fw4 : Fr beX τ (wr τ 42 45 (tx 0 c).length) := Fr.wr (frO_k (by decide))
        have y1 : At ((wr τ 42 45 (tx 0 c).length).1 74) 0 (rc 0 c) := i3.congr (fun i hi => wr_na _ (by decide))
        have y2 : (wr τ 42 45 (tx 0 c).length).1 42 45 = (tx 0 c).length := wr_same _ _ _ _
        have y3 : (wr τ 42 45 (tx 0 c).length).1 42 41 = (rc 0 c).length := by rw [wr_nk _ (by decide)]; exact (i2.2 _ _ rfl).trans w3
        have y4 : (wr τ 42 45 (tx 0 c).length).1 42 42 = gr T M c := by rw [wr_nk _ (by decide)]; exact (i2.2 _ _ rfl).trans w1
        have y5 : (wr τ 42 45 (tx 0 c).length).1 42 43 = (bra (tx 0 c) : Nat) := by rw [wr_nk _ (by decide)]; exact (i2.2 _ _ rfl).trans w2
        have y6 : TxIs (wr τ 42 45 (tx 0 c).length) (tx 0 c) := ⟨(fw4.2 _ _ rfl).trans x3, X2.2.congr (fun i hi => (fw4.2 _ _ rfl).trans ((i2.2 _ _ rfl).trans (fw.2 _ _ rfl)))⟩
        have f4 := f3.tr (fw4.mono (by decide))
        generalize wr τ 42 45 (tx 0 c).length = ω at *
        have key2 : ∀ y : Nat × St, (y.1 ≤ (tx 0 c).length ∧ Fr [(75, -1)] ω y.2 ∧ At (y.2.1 75) 0 ((tx 0 c).take y.1)) → WP E m_M_compares (d + 3) 130 [(0, aP 42), (3, aI y.1)] [] y.2 (fun r τ => r = none ∧ σ.2 <+: τ.2 ∧ Fr cmX σ τ ∧ BstIs τ T M (some c)) := by
          refine lpx (fun y => (tx 0 c).length - y.1) _ _ (fun y hI2 ih2 => ?_)
          obtain ⟨j, χ⟩ := y
          obtain ⟨j1, j2, j3⟩ := hI2
          simp only at j1 j2 j3 ih2 ⊢
          have f5 : Fr cmX σ χ := f4.tr (j2.mono (by decide))
          have F5 := f5.fix hF (by decide)
          have t5 : χ.1 42 29 = (tx 0 c).length := (j2.2 _ _ rfl).trans y6.1
          refine b_M_compares_130 _ F5 ⟨by omega, by rw [t5]; omega, fun c3 => ?_, fun c3 => ⟨by rw [t5] at c3; omega, by rw [t5] at c3; omega, ?_⟩⟩
          · rw [t5] at c3
            rw [List.take_of_length_le (by omega)] at j3
            exact ⟨rfl, pre_eq f5.1, f5, ⟨(j2.2 _ _ rfl).trans y3, y1.congr (fun i hi => j2.2 _ _ rfl)⟩, (j2.2 _ _ rfl).trans y4, (j2.2 _ _ rfl).trans y5, (j2.2 _ _ rfl).trans y2, j3⟩
          · rw [t5] at c3
            have hjl : j < (tx 0 c).length := by omega
            have h9 := ih2 (j + 1, wr χ 75 j (χ.1 64 j)) (by show (tx 0 c).length - (j + 1) < (tx 0 c).length - j; omega) ⟨by show j + 1 ≤ _; omega, j2.tr (Fr.wr (frO_a (by decide) _)), ?_⟩
            · simp only at h9
              rw [show ((j + 1 : Nat) : Int) = (j : Int) + 1 by omega] at h9
              exact h9
            · show At ((wr χ 75 j (χ.1 64 j)).1 75) 0 ((tx 0 c).take (j + 1))
              have hlt : ((tx 0 c).take j).length = j := by rw [List.length_take]; omega
              have hg := y6.2.get (k := j) (by omega) (by omega)
              rw [show ((j : Int) - 0).toNat = j by omega] at hg
              rw [take_succ_getD hjl]
              refine j3.push ?_ (fun i hi => ?_)
              · rw [hlt, wr_same, j2.2 _ _ rfl]; exact hg
              · rw [hlt] at hi
                exact wr_nk _ hi
        exact key2 (0, ω) ⟨Nat.zero_le _, Fr.refl _ _, At.nil _ _⟩
      · rw [R3.1] at c2
        have hkl : k < (rc 0 c).length := by omega
        have h9 := ih (k + 1, wr τ 74 k (τ.1 50 k)) (by show (rc 0 c).length - (k + 1) < (rc 0 c).length - k; omega) ⟨by show k + 1 ≤ _; omega, i2.tr (Fr.wr (frO_a (by decide) _)), ?_⟩
        · simp only at h9
          rw [show ((k + 1 : Nat) : Int) = (k : Int) + 1 by omega] at h9
          exact h9
        · show At ((wr τ 74 k (τ.1 50 k)).1 74) 0 ((rc 0 c).take (k + 1))
          have hlt : ((rc 0 c).take k).length = k := by rw [List.length_take]; omega
          have hg := R3.2.get (k := k) (by omega) (by omega)
          rw [show ((k : Int) - 0).toNat = k by omega] at hg
          rw [take_succ_getD hkl]
          refine i3.push ?_ (fun i hi => ?_)
          · rw [hlt, wr_same]; exact hg
          · rw [hlt] at hi
            exact wr_nk _ hi
    exact key (0, ψ) ⟨Nat.zero_le _, Fr.refl _ _, At.nil _ _⟩
  -- the text is written
  have wrt : (∀ b, o = some b → gr T M c ≤ gr T M b) → WP E m_M_compares (d + 3) 21 [(0, aP 42), (1, aI (gr T M c))] [] τ1 (fun r τ => r = none ∧ σ.2 <+: τ.2 ∧ Fr cmX σ τ ∧ BstIs τ T M (some (nxtB T M o c))) := by
    intro hle
    have fw : Fr cmX τ1 (wr τ1 42 29 0) := Fr.wr (frO_k (by decide))
    have F2 := fw.fix h1.1.1 (by decide)
    have X2 : TxIs (wr τ1 42 29 0) [] := ⟨wr_same _ _ _ _, At.nil _ _⟩
    have R2 : RowIs (wr τ1 42 29 0) (rc 0 c) := ⟨by rw [wr_nk _ (by decide)]; exact R1.1, R1.2.congr (fun i hi => wr_na _ (by decide))⟩
    have B2 : BstIs (wr τ1 42 29 0) T M o := B1.keep (X := [(42, 29)]) (Fr.wr (frO_k (by decide))) (fun j => ⟨rfl, rfl⟩) ⟨rfl, rfl, rfl, rfl⟩
    have hbyte : ∀ x ∈ tx 0 c, 0 ≤ x ∧ x ≤ 255 := fun x hx => by have := tx_byte hc.1 0 x hx; omega
    refine b_M_compares_21 _ h1.1.1 (WMv.mono (c_M_writesRow F2 R2 X2 hc.1 hc10 (by simp; omega)) (fun τ2 p2 q2 => ?_))
    have F3 := q2.1.fix F2 (by decide)
    have X3 : TxIs τ2 (tx 0 c) := by simpa using q2.2
    have R3 : RowIs τ2 (rc 0 c) := R2.keep q2.1 rfl (fun _ => rfl)
    have B3 : BstIs τ2 T M o := B2.keep q2.1 (fun j => ⟨rfl, rfl⟩) ⟨rfl, rfl, rfl, rfl⟩
    have f3 : Fr cmX σ τ2 := ((f1.mono (by decide)).tr fw).tr (q2.1.mono (by decide))
    have hbc := hbraL (tx 0 c)
    refine ⟨F3, wmi_p (c_M_bracketsInText F3 X3 (by omega) hbyte) ⟨F3, ?_⟩⟩
    cases o with
    | none =>
      have b0 : τ2.1 42 41 = 0 := B3
      rw [b0]
      exact ⟨by decide, fun _ => lay τ2 f3 R3 X3 rfl, fun q => absurd (by decide) q⟩
    | some b =>
      obtain ⟨⟨b1, b2⟩, b3, b4, b5, b6⟩ := B3
      obtain ⟨hbk, hbl⟩ := hob b rfl
      have hgb := gr_b hk.1 hkM hbk
      have hrb := rc_len2 hbk.1 0
      have hsb := sg_pos hbk.1
      have htb := tx_len hbk.1 0
      have hb10 := hbk.2.1
      have hbb := hbraL (tx 0 b)
      have hle' := hle b rfl
      rw [b1, b3, b4]
      have hlB := tx_bl hbk.1 0
      have hlC := tx_bl hc.1 0
      have hnx : nxtB T M (some b) c = if btr T M c b then c else b := rfl
      have keepB : ∀ ω : St, ω = τ2 → btr T M c b = false → (none : Option AV) = none ∧ σ.2 <+: ω.2 ∧ Fr cmX σ ω ∧ BstIs ω T M (some (nxtB T M (some b) c)) := by
        rintro ω rfl hb
        rw [hnx, hb]
        exact ⟨rfl, pre_eq f3.1, f3, ⟨b1, b2⟩, b3, b4, b5, b6⟩
      refine ⟨by omega, fun q => by omega, fun _ => ⟨by omega, by omega, fun c2 => lay τ2 f3 R3 X3 ?_, fun c2 => ⟨by omega, by omega, fun c3 => keepB τ2 rfl ?_, fun c3 => ⟨by omega, by omega, fun c4 => lay τ2 f3 R3 X3 ?_, fun c4 => ?_⟩⟩⟩⟩
      · rw [hnx]
        have : btr T M c b = true := by unfold btr; rw [decide_eq_true (show gr T M c < gr T M b by omega)]; rfl
        rw [this]; rfl
      · unfold btr
        rw [decide_eq_false (show ¬ gr T M c < gr T M b by omega), decide_eq_false (show ¬ bra (tx 0 c) < bra (tx 0 b) by omega), decide_eq_false (show ¬ bra (tx 0 c) = bra (tx 0 b) by omega)]
        simp
      · rw [hnx]
        have : btr T M c b = true := by unfold btr; rw [decide_eq_true c2, decide_eq_true (show bra (tx 0 c) < bra (tx 0 b) by omega)]; simp
        rw [this]; rfl
      · have e4 : bra (tx 0 c) = bra (tx 0 b) := by omega
        have hbyteB : ∀ x ∈ tx 0 b, 0 ≤ x ∧ x ≤ 255 := fun x hx => by have := tx_byte hbk.1 0 x hx; omega
        have hbt : btr T M c b = ltL (tx 0 c) (tx 0 b) := by
          unfold btr
          rw [decide_eq_false (show ¬ gr T M c < gr T M b by omega), decide_eq_true c2, decide_eq_false (show ¬ bra (tx 0 c) < bra (tx 0 b) by omega), decide_eq_true e4]
          simp
        refine wmi_p (c_M_isAhead F3 X3 b6 (by omega) (by omega) hbyte hbyteB) ⟨b2i_r _, fun c5 => lay τ2 f3 R3 X3 ?_, fun c5 => keepB τ2 rfl ?_⟩
        · rw [b2i_n0] at c5
          rw [hnx, hbt, c5]; rfl
        · rw [b2i_0] at c5
          rw [hbt]
          simpa using c5
  cases o with
  | none =>
    have b0 : τ1.1 42 41 = 0 := B1
    rw [b0]
    exact ⟨h1.1.1, by decide, fun _ => wrt (fun b hb => by cases hb), fun q => absurd (by decide) q⟩
  | some b =>
    obtain ⟨⟨b1, b2⟩, b3, b4, b5, b6⟩ := B1
    obtain ⟨hbk, hbl⟩ := hob b rfl
    have hgb := gr_b hk.1 hkM hbk
    have hrb := rc_len2 hbk.1 0
    have hsb := sg_pos hbk.1
    have hb10 := hbk.2.1
    rw [b1, b3]
    refine ⟨h1.1.1, by omega, fun q => by omega, fun _ => ⟨by omega, by omega, fun c2 => wrt (fun b' hb' => by cases hb'; exact c2), fun c2 => ?_⟩⟩
    have hb : btr T M c b = false := by
      unfold btr
      rw [decide_eq_false (show ¬ gr T M c < gr T M b by omega), decide_eq_false (show ¬ gr T M c = gr T M b by omega)]
      rfl
    have hnx : nxtB T M (some b) c = b := by show (if btr T M c b then c else b) = b; rw [hb]; rfl
    rw [hnx]
    exact ⟨rfl, pre_eq f1.1, f1.mono (by decide), ⟨b1, b2⟩, b3, b4, b5, b6⟩
end MBest
