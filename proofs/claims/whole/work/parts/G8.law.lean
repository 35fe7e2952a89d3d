/-! THE LAW'S LOOP: call by call both sides answer alike -/
section GLaw
variable {E : EV} {d : Nat} {m mS mM : MI} {as : List AV} {σ : St}
theorem WM.norm {Q : St → Prop} {v v' : AV} (he : eV E v = eV E v') (h : WM E m d as σ (fun r τ => r = some v ∧ Q τ)) : WM E m d as σ (fun r τ => r = some v' ∧ Q τ) := by
  obtain ⟨r, σ', hb, rfl, hq⟩ := h
  refine ⟨some v', σ', ?_, rfl, hq⟩
  have e : QcE E (some v) σ' = QcE E (some v') σ' := by
    unfold QcE
    simp only [Option.map_some, he]
  unfold Big at hb ⊢
  rw [← e]
  exact hb
def nrI (x : Int) : Int := (Int32.ofInt x).toInt
def nrJ (x : Int) : Int := (Int64.ofInt x).toInt
theorem nrI_r (x : Int) : rI (nrI x) := ⟨Int32.le_toInt _, by have := Int32.toInt_lt (Int32.ofInt x); unfold nrI; omega⟩
theorem nrJ_r (x : Int) : rL (nrJ x) := ⟨Int64.le_toInt _, by have := Int64.toInt_lt (Int64.ofInt x); unfold nrJ; omega⟩
theorem nrI_e (x : Int) : eV E (aI x) = eV E (aI (nrI x)) := by
  show Value.int _ = Value.int _
  unfold nrI
  rw [Int32.ofInt_toInt]
theorem nrJ_e (x : Int) : eV E (aL x) = eV E (aL (nrJ x)) := by
  show Value.long _ = Value.long _
  unfold nrJ
  rw [Int64.ofInt_toInt]
/-- what holds at the head of the law's loop before its k-th call -/
def LI (k : Nat) (σ : St) : Prop := ∃ (D : Dt) (b : Int), okDd D ∧ CSd σ b D ∧ RSd σ D ∧ FmOK σ ∧ 92 ≤ σ.2.length ∧ σ.2.length ≤ 92 + 100 * k ∧ tot σ ≤ 200000 + 2000 * k
theorem LI.fix {k : Nat} (h : LI k σ) : Fix σ := by
  obtain ⟨D, b, h1, h2, h3⟩ := h
  exact h2.1.1
theorem LI.mono {k k' : Nat} (h : LI k σ) (hk : k ≤ k') : LI k' σ := by
  obtain ⟨D, b, h1, h2, h3, h4, h5, h6, h7⟩ := h
  exact ⟨D, b, h1, h2, h3, h4, h5, by omega, by omega⟩
set_option maxRecDepth 20000 in
theorem LI.both {k : Nat} {σ1 σ2 : St} {D D' : Dt} {b b' : Int} (hk : okDd D') (hc : Cf 100 2000 clX σ σ1) (h5 : 92 ≤ σ.2.length) (h6 : σ.2.length ≤ 92 + 100 * k) (h7 : tot σ ≤ 200000 + 2000 * k) (hC : CSd σ1 b' D') (hf : Fr rfX σ1 σ2) (hR : RSd σ2 D') (hm : FmOK σ2) : LI (k + 1) σ2 := by
  have hl := hc.1.length_le
  have e : tot σ2 = tot σ1 := by unfold tot; rw [hf.1]
  refine ⟨D', b', hk, hC.rf hf hR.1.1, hR, hm, ?_, ?_, ?_⟩
  · rw [hf.1]; omega
  · rw [hf.1]; have := hc.2.1.1; omega
  · rw [e]; have := hc.2.1.2; omega
theorem law_I (hB : Both E mS mM as d) {k : Nat} (h : LI k σ) : WMi E mS d (aP 1 :: as) σ (fun v σ1 => Fix σ1 ∧ WMi E mM d (aP 42 :: as) σ1 (fun w σ2 => rI v ∧ rI w ∧ v = w ∧ LI (k + 1) σ2)) := by
  obtain ⟨D, b, h1, h2, h3, h4, h5, h6, h7⟩ := h
  obtain ⟨v, D', hk, hc, hm⟩ := hB D b σ h1 h2
  refine WM.mono (WM.norm (nrI_e v) hc) (fun r σ1 hr => ?_)
  obtain ⟨rfl, hp, hf, b', hC⟩ := hr
  have e := Cf.m hf h5
  refine ⟨nrI v, rfl, hp, hC.1.1, WM.mono (WM.norm (nrI_e v) (hm σ1 (h3.eq e hC.1.1) (h4.eq e))) (fun r σ2 hr => ?_)⟩
  obtain ⟨rfl, hp2, hf2, hR, hF⟩ := hr
  exact ⟨nrI v, rfl, hp2, nrI_r v, nrI_r v, rfl, LI.both (D := D) (b := b) hk hf h5 h6 h7 hC hf2 hR hF⟩
theorem law_L (hB : BothL E mS mM as d) {k : Nat} (h : LI k σ) : WMl E mS d (aP 1 :: as) σ (fun v σ1 => Fix σ1 ∧ WMl E mM d (aP 42 :: as) σ1 (fun w σ2 => rL v ∧ rL w ∧ v = w ∧ LI (k + 1) σ2)) := by
  obtain ⟨D, b, h1, h2, h3, h4, h5, h6, h7⟩ := h
  obtain ⟨v, D', hk, hc, hm⟩ := hB D b σ h1 h2
  refine WM.mono (WM.norm (nrJ_e v) hc) (fun r σ1 hr => ?_)
  obtain ⟨rfl, hp, hf, b', hC⟩ := hr
  have e := Cf.m hf h5
  refine ⟨nrJ v, rfl, hp, hC.1.1, WM.mono (WM.norm (nrJ_e v) (hm σ1 (h3.eq e hC.1.1) (h4.eq e))) (fun r σ2 hr => ?_)⟩
  obtain ⟨rfl, hp2, hf2, hR, hF⟩ := hr
  exact ⟨nrJ v, rfl, hp2, nrJ_r v, nrJ_r v, rfl, LI.both (D := D) (b := b) hk hf h5 h6 h7 hC hf2 hR hF⟩
theorem rI_iand (x y : Int) : rI (iand x y) := nrI_r' _ where nrI_r' (z : Int32) : rI z.toInt := ⟨Int32.le_toInt _, by have := Int32.toInt_lt z; omega⟩
/-- what the law's loop leaves -/
def LQ (r : Option AV) (τ : St) : Prop := r = some (aI 1) ∧ τ.2.length ≤ 51400 ∧ tot τ ≤ 1300000
variable {L : Nat} {f : Nat → Int}
theorem la_feed (hX : XT E (-7) .int L f) (hr : ∀ j, rI (f j)) {k : Nat} {x : Int} {Q : Option AV → St → Prop} (h : LI k σ) (h6 : 0 ≤ x ∧ x + 5 < L) (hk : ∀ υ, LI (k + 1) υ → WP E m_Law (d + 116) 18 [(0, aP (-7)), (1, aP 1), (2, aP 42), (3, aI (x + 6))] [] υ Q) : WP E m_Law (d + 116) 192 [(0, aP (-7)), (1, aP 1), (2, aP 42), (3, aI x)] [] σ Q :=
  b_Law_192 hX x h.fix ⟨⟨by omega, by omega⟩, ⟨by omega, by omega⟩, ⟨by omega, by omega⟩, ⟨by omega, by omega⟩, ⟨by omega, by omega⟩, WMi.mono (law_I op_feed h) (fun v τ _ q => ⟨q.1, ⟨by omega, by omega⟩, ⟨by omega, by omega⟩, ⟨by omega, by omega⟩, ⟨by omega, by omega⟩, ⟨by omega, by omega⟩, WMi.mono q.2 (fun w υ _ p => ⟨p.1, p.2.1, fun _ => b_Law_1552 hX x (hk υ p.2.2.2), fun c => absurd p.2.2.1 c⟩)⟩)⟩
theorem la_back (hX : XT E (-7) .int L f) (hr : ∀ j, rI (f j)) {k : Nat} {x : Int} {Q : Option AV → St → Prop} (h : LI k σ) (h6 : 0 ≤ x ∧ x + 5 < L) (hk : ∀ υ, LI (k + 1) υ → WP E m_Law (d + 116) 18 [(0, aP (-7)), (1, aP 1), (2, aP 42), (3, aI (x + 6))] [] υ Q) : WP E m_Law (d + 116) 255 [(0, aP (-7)), (1, aP 1), (2, aP 42), (3, aI x)] [] σ Q :=
  b_Law_255 hX x h.fix ⟨⟨by omega, by omega⟩, WMi.mono (law_I (op_back (hr _)) h) (fun v τ _ q => ⟨q.1, ⟨by omega, by omega⟩, WMi.mono q.2 (fun w υ _ p => ⟨p.1, p.2.1, fun _ => b_Law_1552 hX x (hk υ p.2.2.2), fun c => absurd p.2.2.1 c⟩)⟩)⟩
theorem la_text (hS : StrE E) (hX : XT E (-7) .int L f) (hr : ∀ j, rI (f j)) {k : Nat} {x : Int} {Q : Option AV → St → Prop} (h : LI k σ) (h6 : 0 ≤ x ∧ x + 5 < L) (hk : ∀ υ, LI (k + 1) υ → WP E m_Law (d + 116) 18 [(0, aP (-7)), (1, aP 1), (2, aP 42), (3, aI (x + 6))] [] υ Q) : WP E m_Law (d + 116) 278 [(0, aP (-7)), (1, aP 1), (2, aP 42), (3, aI x)] [] σ Q :=
  b_Law_278 hX x h.fix (WMi.mono (law_I (op_text hS) h) (fun v τ _ q => ⟨q.1, WMi.mono q.2 (fun w υ _ p => ⟨p.1, p.2.1, fun _ => b_Law_1552 hX x (hk υ p.2.2.2), fun c => absurd p.2.2.1 c⟩)⟩))
theorem la_exchange (hX : XT E (-7) .int L f) (hr : ∀ j, rI (f j)) {k : Nat} {x : Int} {Q : Option AV → St → Prop} (h : LI k σ) (h6 : 0 ≤ x ∧ x + 5 < L) (hk : ∀ υ, LI (k + 1) υ → WP E m_Law (d + 116) 18 [(0, aP (-7)), (1, aP 1), (2, aP 42), (3, aI (x + 6))] [] υ Q) : WP E m_Law (d + 116) 291 [(0, aP (-7)), (1, aP 1), (2, aP 42), (3, aI x)] [] σ Q :=
  b_Law_291 hX x h.fix ⟨⟨by omega, by omega⟩, ⟨by omega, by omega⟩, ⟨by omega, by omega⟩, ⟨by omega, by omega⟩, WMi.mono (law_I (op_exchange (hr _) (hr _) (hr _) (hr _)) h) (fun v τ _ q => ⟨q.1, ⟨by omega, by omega⟩, ⟨by omega, by omega⟩, ⟨by omega, by omega⟩, ⟨by omega, by omega⟩, WMi.mono q.2 (fun w υ _ p => ⟨p.1, p.2.1, fun _ => b_Law_1552 hX x (hk υ p.2.2.2), fun c => absurd p.2.2.1 c⟩)⟩)⟩
theorem la_turn (hX : XT E (-7) .int L f) (hr : ∀ j, rI (f j)) {k : Nat} {x : Int} {Q : Option AV → St → Prop} (h : LI k σ) (h6 : 0 ≤ x ∧ x + 5 < L) (hk : ∀ υ, LI (k + 1) υ → WP E m_Law (d + 116) 18 [(0, aP (-7)), (1, aP 1), (2, aP 42), (3, aI (x + 6))] [] υ Q) : WP E m_Law (d + 116) 344 [(0, aP (-7)), (1, aP 1), (2, aP 42), (3, aI x)] [] σ Q :=
  b_Law_344 hX x h.fix ⟨⟨by omega, by omega⟩, ⟨by omega, by omega⟩, WMi.mono (law_I (op_turn (hr _) (hr _)) h) (fun v τ _ q => ⟨q.1, ⟨by omega, by omega⟩, ⟨by omega, by omega⟩, WMi.mono q.2 (fun w υ _ p => ⟨p.1, p.2.1, fun _ => b_Law_1552 hX x (hk υ p.2.2.2), fun c => absurd p.2.2.1 c⟩)⟩)⟩
theorem la_join (hX : XT E (-7) .int L f) (hr : ∀ j, rI (f j)) {k : Nat} {x : Int} {Q : Option AV → St → Prop} (h : LI k σ) (h6 : 0 ≤ x ∧ x + 5 < L) (hk : ∀ υ, LI (k + 1) υ → WP E m_Law (d + 116) 18 [(0, aP (-7)), (1, aP 1), (2, aP 42), (3, aI (x + 6))] [] υ Q) : WP E m_Law (d + 116) 377 [(0, aP (-7)), (1, aP 1), (2, aP 42), (3, aI x)] [] σ Q :=
  b_Law_377 hX x h.fix ⟨⟨by omega, by omega⟩, ⟨by omega, by omega⟩, WMi.mono (law_I (op_join (hr _) (hr _)) h) (fun v τ _ q => ⟨q.1, ⟨by omega, by omega⟩, ⟨by omega, by omega⟩, WMi.mono q.2 (fun w υ _ p => ⟨p.1, p.2.1, fun _ => b_Law_1552 hX x (hk υ p.2.2.2), fun c => absurd p.2.2.1 c⟩)⟩)⟩
theorem la_part (hX : XT E (-7) .int L f) (hr : ∀ j, rI (f j)) {k : Nat} {x : Int} {Q : Option AV → St → Prop} (h : LI k σ) (h6 : 0 ≤ x ∧ x + 5 < L) (hk : ∀ υ, LI (k + 1) υ → WP E m_Law (d + 116) 18 [(0, aP (-7)), (1, aP 1), (2, aP 42), (3, aI (x + 6))] [] υ Q) : WP E m_Law (d + 116) 410 [(0, aP (-7)), (1, aP 1), (2, aP 42), (3, aI x)] [] σ Q :=
  b_Law_410 hX x h.fix ⟨⟨by omega, by omega⟩, ⟨by omega, by omega⟩, WMi.mono (law_I (op_part (hr _) (hr _)) h) (fun v τ _ q => ⟨q.1, ⟨by omega, by omega⟩, ⟨by omega, by omega⟩, WMi.mono q.2 (fun w υ _ p => ⟨p.1, p.2.1, fun _ => b_Law_1552 hX x (hk υ p.2.2.2), fun c => absurd p.2.2.1 c⟩)⟩)⟩
theorem la_swap (hX : XT E (-7) .int L f) (hr : ∀ j, rI (f j)) {k : Nat} {x : Int} {Q : Option AV → St → Prop} (h : LI k σ) (h6 : 0 ≤ x ∧ x + 5 < L) (hk : ∀ υ, LI (k + 1) υ → WP E m_Law (d + 116) 18 [(0, aP (-7)), (1, aP 1), (2, aP 42), (3, aI (x + 6))] [] υ Q) : WP E m_Law (d + 116) 443 [(0, aP (-7)), (1, aP 1), (2, aP 42), (3, aI x)] [] σ Q :=
  b_Law_443 hX x h.fix ⟨⟨by omega, by omega⟩, ⟨by omega, by omega⟩, ⟨by omega, by omega⟩, ⟨by omega, by omega⟩, WMi.mono (law_I (op_swap (hr _) (hr _) (hr _) (hr _)) h) (fun v τ _ q => ⟨q.1, ⟨by omega, by omega⟩, ⟨by omega, by omega⟩, ⟨by omega, by omega⟩, ⟨by omega, by omega⟩, WMi.mono q.2 (fun w υ _ p => ⟨p.1, p.2.1, fun _ => b_Law_1552 hX x (hk υ p.2.2.2), fun c => absurd p.2.2.1 c⟩)⟩)⟩
theorem la_insert (hX : XT E (-7) .int L f) (hr : ∀ j, rI (f j)) {k : Nat} {x : Int} {Q : Option AV → St → Prop} (h : LI k σ) (h6 : 0 ≤ x ∧ x + 5 < L) (hk : ∀ υ, LI (k + 1) υ → WP E m_Law (d + 116) 18 [(0, aP (-7)), (1, aP 1), (2, aP 42), (3, aI (x + 6))] [] υ Q) : WP E m_Law (d + 116) 496 [(0, aP (-7)), (1, aP 1), (2, aP 42), (3, aI x)] [] σ Q :=
  b_Law_496 hX x h.fix ⟨⟨by omega, by omega⟩, ⟨by omega, by omega⟩, ⟨by omega, by omega⟩, WMi.mono (law_I (op_insert (hr _) (hr _) (hr _)) h) (fun v τ _ q => ⟨q.1, ⟨by omega, by omega⟩, ⟨by omega, by omega⟩, ⟨by omega, by omega⟩, WMi.mono q.2 (fun w υ _ p => ⟨p.1, p.2.1, fun _ => b_Law_1552 hX x (hk υ p.2.2.2), fun c => absurd p.2.2.1 c⟩)⟩)⟩
theorem la_release (hX : XT E (-7) .int L f) (hr : ∀ j, rI (f j)) {k : Nat} {x : Int} {Q : Option AV → St → Prop} (h : LI k σ) (h6 : 0 ≤ x ∧ x + 5 < L) (hk : ∀ υ, LI (k + 1) υ → WP E m_Law (d + 116) 18 [(0, aP (-7)), (1, aP 1), (2, aP 42), (3, aI (x + 6))] [] υ Q) : WP E m_Law (d + 116) 539 [(0, aP (-7)), (1, aP 1), (2, aP 42), (3, aI x)] [] σ Q :=
  b_Law_539 hX x h.fix ⟨⟨by omega, by omega⟩, ⟨by omega, by omega⟩, ⟨by omega, by omega⟩, WMi.mono (law_I (op_release (hr _) (hr _) (hr _)) h) (fun v τ _ q => ⟨q.1, ⟨by omega, by omega⟩, ⟨by omega, by omega⟩, ⟨by omega, by omega⟩, WMi.mono q.2 (fun w υ _ p => ⟨p.1, p.2.1, fun _ => b_Law_1552 hX x (hk υ p.2.2.2), fun c => absurd p.2.2.1 c⟩)⟩)⟩
theorem la_move (hX : XT E (-7) .int L f) (hr : ∀ j, rI (f j)) {k : Nat} {x : Int} {Q : Option AV → St → Prop} (h : LI k σ) (h6 : 0 ≤ x ∧ x + 5 < L) (hk : ∀ υ, LI (k + 1) υ → WP E m_Law (d + 116) 18 [(0, aP (-7)), (1, aP 1), (2, aP 42), (3, aI (x + 6))] [] υ Q) : WP E m_Law (d + 116) 582 [(0, aP (-7)), (1, aP 1), (2, aP 42), (3, aI x)] [] σ Q :=
  b_Law_582 hX x h.fix ⟨⟨by omega, by omega⟩, ⟨by omega, by omega⟩, ⟨by omega, by omega⟩, WMi.mono (law_I (op_move (hr _) (hr _) (hr _)) h) (fun v τ _ q => ⟨q.1, ⟨by omega, by omega⟩, ⟨by omega, by omega⟩, ⟨by omega, by omega⟩, WMi.mono q.2 (fun w υ _ p => ⟨p.1, p.2.1, fun _ => b_Law_1552 hX x (hk υ p.2.2.2), fun c => absurd p.2.2.1 c⟩)⟩)⟩
theorem la_mirror (hX : XT E (-7) .int L f) (hr : ∀ j, rI (f j)) {k : Nat} {x : Int} {Q : Option AV → St → Prop} (h : LI k σ) (h6 : 0 ≤ x ∧ x + 5 < L) (hk : ∀ υ, LI (k + 1) υ → WP E m_Law (d + 116) 18 [(0, aP (-7)), (1, aP 1), (2, aP 42), (3, aI (x + 6))] [] υ Q) : WP E m_Law (d + 116) 625 [(0, aP (-7)), (1, aP 1), (2, aP 42), (3, aI x)] [] σ Q :=
  b_Law_625 hX x h.fix ⟨⟨by omega, by omega⟩, WMi.mono (law_I (op_mirror (hr _)) h) (fun v τ _ q => ⟨q.1, ⟨by omega, by omega⟩, WMi.mono q.2 (fun w υ _ p => ⟨p.1, p.2.1, fun _ => b_Law_1552 hX x (hk υ p.2.2.2), fun c => absurd p.2.2.1 c⟩)⟩)⟩
theorem la_arrange (hX : XT E (-7) .int L f) (hr : ∀ j, rI (f j)) {k : Nat} {x : Int} {Q : Option AV → St → Prop} (h : LI k σ) (h6 : 0 ≤ x ∧ x + 5 < L) (hk : ∀ υ, LI (k + 1) υ → WP E m_Law (d + 116) 18 [(0, aP (-7)), (1, aP 1), (2, aP 42), (3, aI (x + 6))] [] υ Q) : WP E m_Law (d + 116) 648 [(0, aP (-7)), (1, aP 1), (2, aP 42), (3, aI x)] [] σ Q :=
  b_Law_648 hX x h.fix ⟨⟨by omega, by omega⟩, ⟨by omega, by omega⟩, WMi.mono (law_I (op_arrange (hr _) (hr _)) h) (fun v τ _ q => ⟨q.1, ⟨by omega, by omega⟩, ⟨by omega, by omega⟩, WMi.mono q.2 (fun w υ _ p => ⟨p.1, p.2.1, fun _ => b_Law_1552 hX x (hk υ p.2.2.2), fun c => absurd p.2.2.1 c⟩)⟩)⟩
theorem la_side (hX : XT E (-7) .int L f) (hr : ∀ j, rI (f j)) {k : Nat} {x : Int} {Q : Option AV → St → Prop} (h : LI k σ) (h6 : 0 ≤ x ∧ x + 5 < L) (hk : ∀ υ, LI (k + 1) υ → WP E m_Law (d + 116) 18 [(0, aP (-7)), (1, aP 1), (2, aP 42), (3, aI (x + 6))] [] υ Q) : WP E m_Law (d + 116) 681 [(0, aP (-7)), (1, aP 1), (2, aP 42), (3, aI x)] [] σ Q :=
  b_Law_681 hX x h.fix ⟨⟨by omega, by omega⟩, WMi.mono (law_I (op_side (hr _)) h) (fun v τ _ q => ⟨q.1, ⟨by omega, by omega⟩, WMi.mono q.2 (fun w υ _ p => ⟨p.1, p.2.1, fun _ => b_Law_1552 hX x (hk υ p.2.2.2), fun c => absurd p.2.2.1 c⟩)⟩)⟩
theorem la_gap (hX : XT E (-7) .int L f) (hr : ∀ j, rI (f j)) {k : Nat} {x : Int} {Q : Option AV → St → Prop} (h : LI k σ) (h6 : 0 ≤ x ∧ x + 5 < L) (hk : ∀ υ, LI (k + 1) υ → WP E m_Law (d + 116) 18 [(0, aP (-7)), (1, aP 1), (2, aP 42), (3, aI (x + 6))] [] υ Q) : WP E m_Law (d + 116) 704 [(0, aP (-7)), (1, aP 1), (2, aP 42), (3, aI x)] [] σ Q :=
  b_Law_704 hX x h.fix ⟨⟨by omega, by omega⟩, WMi.mono (law_I (op_gap (hr _)) h) (fun v τ _ q => ⟨q.1, ⟨by omega, by omega⟩, WMi.mono q.2 (fun w υ _ p => ⟨p.1, p.2.1, fun _ => b_Law_1552 hX x (hk υ p.2.2.2), fun c => absurd p.2.2.1 c⟩)⟩)⟩
theorem la_undo (hX : XT E (-7) .int L f) (hr : ∀ j, rI (f j)) {k : Nat} {x : Int} {Q : Option AV → St → Prop} (h : LI k σ) (h6 : 0 ≤ x ∧ x + 5 < L) (hk : ∀ υ, LI (k + 1) υ → WP E m_Law (d + 116) 18 [(0, aP (-7)), (1, aP 1), (2, aP 42), (3, aI (x + 6))] [] υ Q) : WP E m_Law (d + 116) 727 [(0, aP (-7)), (1, aP 1), (2, aP 42), (3, aI x)] [] σ Q :=
  b_Law_727 hX x h.fix (WMi.mono (law_I op_undo h) (fun v τ _ q => ⟨q.1, WMi.mono q.2 (fun w υ _ p => ⟨p.1, p.2.1, fun _ => b_Law_1552 hX x (hk υ p.2.2.2), fun c => absurd p.2.2.1 c⟩)⟩))
theorem la_sign (hX : XT E (-7) .int L f) (hr : ∀ j, rI (f j)) {k : Nat} {x : Int} {Q : Option AV → St → Prop} (h : LI k σ) (h6 : 0 ≤ x ∧ x + 5 < L) (hk : ∀ υ, LI (k + 1) υ → WP E m_Law (d + 116) 18 [(0, aP (-7)), (1, aP 1), (2, aP 42), (3, aI (x + 6))] [] υ Q) : WP E m_Law (d + 116) 740 [(0, aP (-7)), (1, aP 1), (2, aP 42), (3, aI x)] [] σ Q :=
  b_Law_740 hX x h.fix ⟨⟨by omega, by omega⟩, ⟨by omega, by omega⟩, WMi.mono (law_I (op_sign (hr _) (hr _)) h) (fun v τ _ q => ⟨q.1, ⟨by omega, by omega⟩, ⟨by omega, by omega⟩, WMi.mono q.2 (fun w υ _ p => ⟨p.1, p.2.1, fun _ => b_Law_1552 hX x (hk υ p.2.2.2), fun c => absurd p.2.2.1 c⟩)⟩)⟩
theorem la_line (hX : XT E (-7) .int L f) (hr : ∀ j, rI (f j)) {k : Nat} {x : Int} {Q : Option AV → St → Prop} (h : LI k σ) (h6 : 0 ≤ x ∧ x + 5 < L) (hk : ∀ υ, LI (k + 1) υ → WP E m_Law (d + 116) 18 [(0, aP (-7)), (1, aP 1), (2, aP 42), (3, aI (x + 6))] [] υ Q) : WP E m_Law (d + 116) 773 [(0, aP (-7)), (1, aP 1), (2, aP 42), (3, aI x)] [] σ Q :=
  b_Law_773 hX x h.fix ⟨⟨by omega, by omega⟩, ⟨by omega, by omega⟩, WMi.mono (law_I (op_line (hr _) (hr _)) h) (fun v τ _ q => ⟨q.1, ⟨by omega, by omega⟩, ⟨by omega, by omega⟩, WMi.mono q.2 (fun w υ _ p => ⟨p.1, p.2.1, fun _ => b_Law_1552 hX x (hk υ p.2.2.2), fun c => absurd p.2.2.1 c⟩)⟩)⟩
theorem la_square (hX : XT E (-7) .int L f) (hr : ∀ j, rI (f j)) {k : Nat} {x : Int} {Q : Option AV → St → Prop} (h : LI k σ) (h6 : 0 ≤ x ∧ x + 5 < L) (hk : ∀ υ, LI (k + 1) υ → WP E m_Law (d + 116) 18 [(0, aP (-7)), (1, aP 1), (2, aP 42), (3, aI (x + 6))] [] υ Q) : WP E m_Law (d + 116) 806 [(0, aP (-7)), (1, aP 1), (2, aP 42), (3, aI x)] [] σ Q :=
  b_Law_806 hX x h.fix ⟨⟨by omega, by omega⟩, ⟨by omega, by omega⟩, ⟨by omega, by omega⟩, WMi.mono (law_I (op_square (hr _) (hr _) (hr _)) h) (fun v τ _ q => ⟨q.1, ⟨by omega, by omega⟩, ⟨by omega, by omega⟩, ⟨by omega, by omega⟩, WMi.mono q.2 (fun w υ _ p => ⟨p.1, p.2.1, fun _ => b_Law_1552 hX x (hk υ p.2.2.2), fun c => absurd p.2.2.1 c⟩)⟩)⟩
theorem la_scale (hX : XT E (-7) .int L f) (hr : ∀ j, rI (f j)) {k : Nat} {x : Int} {Q : Option AV → St → Prop} (h : LI k σ) (h6 : 0 ≤ x ∧ x + 5 < L) (hk : ∀ υ, LI (k + 1) υ → WP E m_Law (d + 116) 18 [(0, aP (-7)), (1, aP 1), (2, aP 42), (3, aI (x + 6))] [] υ Q) : WP E m_Law (d + 116) 849 [(0, aP (-7)), (1, aP 1), (2, aP 42), (3, aI x)] [] σ Q :=
  b_Law_849 hX x h.fix ⟨⟨by omega, by omega⟩, ⟨by omega, by omega⟩, ⟨by omega, by omega⟩, WMi.mono (law_I (op_scale (hr _) (hr _) (hr _)) h) (fun v τ _ q => ⟨q.1, ⟨by omega, by omega⟩, ⟨by omega, by omega⟩, ⟨by omega, by omega⟩, WMi.mono q.2 (fun w υ _ p => ⟨p.1, p.2.1, fun _ => b_Law_1552 hX x (hk υ p.2.2.2), fun c => absurd p.2.2.1 c⟩)⟩)⟩
theorem la_letter (hX : XT E (-7) .int L f) (hr : ∀ j, rI (f j)) {k : Nat} {x : Int} {Q : Option AV → St → Prop} (h : LI k σ) (h6 : 0 ≤ x ∧ x + 5 < L) (hk : ∀ υ, LI (k + 1) υ → WP E m_Law (d + 116) 18 [(0, aP (-7)), (1, aP 1), (2, aP 42), (3, aI (x + 6))] [] υ Q) : WP E m_Law (d + 116) 892 [(0, aP (-7)), (1, aP 1), (2, aP 42), (3, aI x)] [] σ Q :=
  b_Law_892 hX x h.fix ⟨⟨by omega, by omega⟩, ⟨by omega, by omega⟩, ⟨by omega, by omega⟩, WMi.mono (law_I (op_letter (hr _) (hr _) (hr _)) h) (fun v τ _ q => ⟨q.1, ⟨by omega, by omega⟩, ⟨by omega, by omega⟩, ⟨by omega, by omega⟩, WMi.mono q.2 (fun w υ _ p => ⟨p.1, p.2.1, fun _ => b_Law_1552 hX x (hk υ p.2.2.2), fun c => absurd p.2.2.1 c⟩)⟩)⟩
theorem la_inside (hX : XT E (-7) .int L f) (hr : ∀ j, rI (f j)) {k : Nat} {x : Int} {Q : Option AV → St → Prop} (h : LI k σ) (h6 : 0 ≤ x ∧ x + 5 < L) (hk : ∀ υ, LI (k + 1) υ → WP E m_Law (d + 116) 18 [(0, aP (-7)), (1, aP 1), (2, aP 42), (3, aI (x + 6))] [] υ Q) : WP E m_Law (d + 116) 935 [(0, aP (-7)), (1, aP 1), (2, aP 42), (3, aI x)] [] σ Q :=
  b_Law_935 hX x h.fix ⟨⟨by omega, by omega⟩, ⟨by omega, by omega⟩, ⟨by omega, by omega⟩, WMi.mono (law_I (op_inside (hr _) (hr _) (hr _)) h) (fun v τ _ q => ⟨q.1, ⟨by omega, by omega⟩, ⟨by omega, by omega⟩, ⟨by omega, by omega⟩, WMi.mono q.2 (fun w υ _ p => ⟨p.1, p.2.1, fun _ => b_Law_1552 hX x (hk υ p.2.2.2), fun c => absurd p.2.2.1 c⟩)⟩)⟩
theorem la_box (hX : XT E (-7) .int L f) (hr : ∀ j, rI (f j)) {k : Nat} {x : Int} {Q : Option AV → St → Prop} (h : LI k σ) (h6 : 0 ≤ x ∧ x + 5 < L) (hk : ∀ υ, LI (k + 1) υ → WP E m_Law (d + 116) 18 [(0, aP (-7)), (1, aP 1), (2, aP 42), (3, aI (x + 6))] [] υ Q) : WP E m_Law (d + 116) 978 [(0, aP (-7)), (1, aP 1), (2, aP 42), (3, aI x)] [] σ Q :=
  b_Law_978 hX x h.fix ⟨⟨by omega, by omega⟩, ⟨by omega, by omega⟩, ⟨by omega, by omega⟩, ⟨by omega, by omega⟩, ⟨by omega, by omega⟩, WMl.mono (law_L (op_box (hr _) (hr _) (hr _) (hr _) (hr _)) h) (fun v τ _ q => ⟨q.1, ⟨by omega, by omega⟩, ⟨by omega, by omega⟩, ⟨by omega, by omega⟩, ⟨by omega, by omega⟩, ⟨by omega, by omega⟩, WMl.mono q.2 (fun w υ _ p => ⟨p.1, p.2.1, fun _ => b_Law_1552 hX x (hk υ p.2.2.2), fun c => absurd p.2.2.1 c⟩)⟩)⟩
theorem la_at (hX : XT E (-7) .int L f) (hr : ∀ j, rI (f j)) {k : Nat} {x : Int} {Q : Option AV → St → Prop} (h : LI k σ) (h6 : 0 ≤ x ∧ x + 5 < L) (hk : ∀ υ, LI (k + 1) υ → WP E m_Law (d + 116) 18 [(0, aP (-7)), (1, aP 1), (2, aP 42), (3, aI (x + 6))] [] υ Q) : WP E m_Law (d + 116) 1042 [(0, aP (-7)), (1, aP 1), (2, aP 42), (3, aI x)] [] σ Q :=
  b_Law_1042 hX x h.fix ⟨⟨by omega, by omega⟩, ⟨by omega, by omega⟩, ⟨by omega, by omega⟩, ⟨by omega, by omega⟩, ⟨by omega, by omega⟩, WMi.mono (law_I (op_at (hr _) (hr _) (hr _) (hr _) (hr _)) h) (fun v τ _ q => ⟨q.1, ⟨by omega, by omega⟩, ⟨by omega, by omega⟩, ⟨by omega, by omega⟩, ⟨by omega, by omega⟩, ⟨by omega, by omega⟩, WMi.mono q.2 (fun w υ _ p => ⟨p.1, p.2.1, fun _ => b_Law_1552 hX x (hk υ p.2.2.2), fun c => absurd p.2.2.1 c⟩)⟩)⟩
theorem la_column (hX : XT E (-7) .int L f) (hr : ∀ j, rI (f j)) {k : Nat} {x : Int} {Q : Option AV → St → Prop} (h : LI k σ) (h6 : 0 ≤ x ∧ x + 5 < L) (hk : ∀ υ, LI (k + 1) υ → WP E m_Law (d + 116) 18 [(0, aP (-7)), (1, aP 1), (2, aP 42), (3, aI (x + 6))] [] υ Q) : WP E m_Law (d + 116) 1105 [(0, aP (-7)), (1, aP 1), (2, aP 42), (3, aI x)] [] σ Q :=
  b_Law_1105 hX x h.fix ⟨⟨by omega, by omega⟩, ⟨by omega, by omega⟩, WMi.mono (law_I (op_column (hr _) (hr _)) h) (fun v τ _ q => ⟨q.1, ⟨by omega, by omega⟩, ⟨by omega, by omega⟩, WMi.mono q.2 (fun w υ _ p => ⟨p.1, p.2.1, fun _ => b_Law_1552 hX x (hk υ p.2.2.2), fun c => absurd p.2.2.1 c⟩)⟩)⟩
theorem la_covered (hX : XT E (-7) .int L f) (hr : ∀ j, rI (f j)) {k : Nat} {x : Int} {Q : Option AV → St → Prop} (h : LI k σ) (h6 : 0 ≤ x ∧ x + 5 < L) (hk : ∀ υ, LI (k + 1) υ → WP E m_Law (d + 116) 18 [(0, aP (-7)), (1, aP 1), (2, aP 42), (3, aI (x + 6))] [] υ Q) : WP E m_Law (d + 116) 1138 [(0, aP (-7)), (1, aP 1), (2, aP 42), (3, aI x)] [] σ Q :=
  b_Law_1138 hX x h.fix ⟨⟨by omega, by omega⟩, ⟨by omega, by omega⟩, ⟨by omega, by omega⟩, WMl.mono (law_L (op_covered (hr _) (hr _) (hr _)) h) (fun v τ _ q => ⟨q.1, ⟨by omega, by omega⟩, ⟨by omega, by omega⟩, ⟨by omega, by omega⟩, WMl.mono q.2 (fun w υ _ p => ⟨p.1, p.2.1, fun _ => b_Law_1552 hX x (hk υ p.2.2.2), fun c => absurd p.2.2.1 c⟩)⟩)⟩
theorem la_smallest (hX : XT E (-7) .int L f) (hr : ∀ j, rI (f j)) {k : Nat} {x : Int} {Q : Option AV → St → Prop} (h : LI k σ) (h6 : 0 ≤ x ∧ x + 5 < L) (hk : ∀ υ, LI (k + 1) υ → WP E m_Law (d + 116) 18 [(0, aP (-7)), (1, aP 1), (2, aP 42), (3, aI (x + 6))] [] υ Q) : WP E m_Law (d + 116) 1182 [(0, aP (-7)), (1, aP 1), (2, aP 42), (3, aI x)] [] σ Q :=
  b_Law_1182 hX x h.fix ⟨⟨by omega, by omega⟩, ⟨by omega, by omega⟩, WMi.mono (law_I (op_smallest (hr _) (hr _)) h) (fun v τ _ q => ⟨q.1, ⟨by omega, by omega⟩, ⟨by omega, by omega⟩, WMi.mono q.2 (fun w υ _ p => ⟨p.1, p.2.1, fun _ => b_Law_1552 hX x (hk υ p.2.2.2), fun c => absurd p.2.2.1 c⟩)⟩)⟩
theorem la_same (hX : XT E (-7) .int L f) (hr : ∀ j, rI (f j)) {k : Nat} {x : Int} {Q : Option AV → St → Prop} (h : LI k σ) (h6 : 0 ≤ x ∧ x + 5 < L) (hk : ∀ υ, LI (k + 1) υ → WP E m_Law (d + 116) 18 [(0, aP (-7)), (1, aP 1), (2, aP 42), (3, aI (x + 6))] [] υ Q) : WP E m_Law (d + 116) 1215 [(0, aP (-7)), (1, aP 1), (2, aP 42), (3, aI x)] [] σ Q :=
  b_Law_1215 hX x h.fix ⟨⟨by omega, by omega⟩, ⟨by omega, by omega⟩, ⟨by omega, by omega⟩, ⟨by omega, by omega⟩, WMi.mono (law_I (op_same (hr _) (hr _) (hr _) (hr _)) h) (fun v τ _ q => ⟨q.1, ⟨by omega, by omega⟩, ⟨by omega, by omega⟩, ⟨by omega, by omega⟩, ⟨by omega, by omega⟩, WMi.mono q.2 (fun w υ _ p => ⟨p.1, p.2.1, fun _ => b_Law_1552 hX x (hk υ p.2.2.2), fun c => absurd p.2.2.1 c⟩)⟩)⟩
theorem la_tightest (hX : XT E (-7) .int L f) (hr : ∀ j, rI (f j)) {k : Nat} {x : Int} {Q : Option AV → St → Prop} (h : LI k σ) (h6 : 0 ≤ x ∧ x + 5 < L) (hk : ∀ υ, LI (k + 1) υ → WP E m_Law (d + 116) 18 [(0, aP (-7)), (1, aP 1), (2, aP 42), (3, aI (x + 6))] [] υ Q) : WP E m_Law (d + 116) 1268 [(0, aP (-7)), (1, aP 1), (2, aP 42), (3, aI x)] [] σ Q :=
  b_Law_1268 hX x h.fix ⟨⟨by omega, by omega⟩, WMi.mono (law_I (op_tightest (hr _)) h) (fun v τ _ q => ⟨q.1, ⟨by omega, by omega⟩, WMi.mono q.2 (fun w υ _ p => ⟨p.1, p.2.1, fun _ => b_Law_1552 hX x (hk υ p.2.2.2), fun c => absurd p.2.2.1 c⟩)⟩)⟩
theorem la_least (hX : XT E (-7) .int L f) (hr : ∀ j, rI (f j)) {k : Nat} {x : Int} {Q : Option AV → St → Prop} (h : LI k σ) (h6 : 0 ≤ x ∧ x + 5 < L) (hk : ∀ υ, LI (k + 1) υ → WP E m_Law (d + 116) 18 [(0, aP (-7)), (1, aP 1), (2, aP 42), (3, aI (x + 6))] [] υ Q) : WP E m_Law (d + 116) 1291 [(0, aP (-7)), (1, aP 1), (2, aP 42), (3, aI x)] [] σ Q :=
  b_Law_1291 hX x h.fix ⟨⟨by omega, by omega⟩, ⟨by omega, by omega⟩, WMi.mono (law_I (op_least (hr _) (hr _)) h) (fun v τ _ q => ⟨q.1, ⟨by omega, by omega⟩, ⟨by omega, by omega⟩, WMi.mono q.2 (fun w υ _ p => ⟨p.1, p.2.1, fun _ => b_Law_1552 hX x (hk υ p.2.2.2), fun c => absurd p.2.2.1 c⟩)⟩)⟩
theorem la_ways (hW : WaysE E) (hX : XT E (-7) .int L f) (hr : ∀ j, rI (f j)) {k : Nat} {x : Int} {Q : Option AV → St → Prop} (h : LI k σ) (h6 : 0 ≤ x ∧ x + 5 < L) (hk : ∀ υ, LI (k + 1) υ → WP E m_Law (d + 116) 18 [(0, aP (-7)), (1, aP 1), (2, aP 42), (3, aI (x + 6))] [] υ Q) : WP E m_Law (d + 116) 1324 [(0, aP (-7)), (1, aP 1), (2, aP 42), (3, aI x)] [] σ Q :=
  b_Law_1324 hX x h.fix ⟨⟨by omega, by omega⟩, ⟨by omega, by omega⟩, WMi.mono (law_I (op_ways hW (hr _) (hr _)) h) (fun v τ _ q => ⟨q.1, ⟨by omega, by omega⟩, ⟨by omega, by omega⟩, WMi.mono q.2 (fun w υ _ p => ⟨p.1, p.2.1, fun _ => b_Law_1552 hX x (hk υ p.2.2.2), fun c => absurd p.2.2.1 c⟩)⟩)⟩
theorem la_best (hX : XT E (-7) .int L f) (hr : ∀ j, rI (f j)) {k : Nat} {x : Int} {Q : Option AV → St → Prop} (h : LI k σ) (h6 : 0 ≤ x ∧ x + 5 < L) (hk : ∀ υ, LI (k + 1) υ → WP E m_Law (d + 116) 18 [(0, aP (-7)), (1, aP 1), (2, aP 42), (3, aI (x + 6))] [] υ Q) : WP E m_Law (d + 116) 1357 [(0, aP (-7)), (1, aP 1), (2, aP 42), (3, aI x)] [] σ Q :=
  b_Law_1357 hX x h.fix ⟨⟨by omega, by omega⟩, ⟨by omega, by omega⟩, ⟨by omega, by omega⟩, WMi.mono (law_I (op_best (hr _) (hr _) (hr _)) h) (fun v τ _ q => ⟨q.1, ⟨by omega, by omega⟩, ⟨by omega, by omega⟩, ⟨by omega, by omega⟩, WMi.mono q.2 (fun w υ _ p => ⟨p.1, p.2.1, fun _ => b_Law_1552 hX x (hk υ p.2.2.2), fun c => absurd p.2.2.1 c⟩)⟩)⟩
theorem la_bestText (hX : XT E (-7) .int L f) (hr : ∀ j, rI (f j)) {k : Nat} {x : Int} {Q : Option AV → St → Prop} (h : LI k σ) (h6 : 0 ≤ x ∧ x + 5 < L) (hk : ∀ υ, LI (k + 1) υ → WP E m_Law (d + 116) 18 [(0, aP (-7)), (1, aP 1), (2, aP 42), (3, aI (x + 6))] [] υ Q) : WP E m_Law (d + 116) 1400 [(0, aP (-7)), (1, aP 1), (2, aP 42), (3, aI x)] [] σ Q :=
  b_Law_1400 hX x h.fix ⟨⟨by omega, by omega⟩, ⟨by omega, by omega⟩, ⟨by omega, by omega⟩, WMi.mono (law_I (op_bestText (hr _) (hr _) (hr _)) h) (fun v τ _ q => ⟨q.1, ⟨by omega, by omega⟩, ⟨by omega, by omega⟩, ⟨by omega, by omega⟩, WMi.mono q.2 (fun w υ _ p => ⟨p.1, p.2.1, fun _ => b_Law_1552 hX x (hk υ p.2.2.2), fun c => absurd p.2.2.1 c⟩)⟩)⟩
theorem la_joined (hX : XT E (-7) .int L f) (hr : ∀ j, rI (f j)) {k : Nat} {x : Int} {Q : Option AV → St → Prop} (h : LI k σ) (h6 : 0 ≤ x ∧ x + 5 < L) (hk : ∀ υ, LI (k + 1) υ → WP E m_Law (d + 116) 18 [(0, aP (-7)), (1, aP 1), (2, aP 42), (3, aI (x + 6))] [] υ Q) : WP E m_Law (d + 116) 1443 [(0, aP (-7)), (1, aP 1), (2, aP 42), (3, aI x)] [] σ Q :=
  b_Law_1443 hX x h.fix ⟨⟨by omega, by omega⟩, ⟨by omega, by omega⟩, ⟨by omega, by omega⟩, WMi.mono (law_I (op_joined (hr _) (hr _) (hr _)) h) (fun v τ _ q => ⟨q.1, ⟨by omega, by omega⟩, ⟨by omega, by omega⟩, ⟨by omega, by omega⟩, WMi.mono q.2 (fun w υ _ p => ⟨p.1, p.2.1, fun _ => b_Law_1552 hX x (hk υ p.2.2.2), fun c => absurd p.2.2.1 c⟩)⟩)⟩
theorem la_spell (hS : StrE E) (hX : XT E (-7) .int L f) (hr : ∀ j, rI (f j)) {k : Nat} {x : Int} {Q : Option AV → St → Prop} (h : LI k σ) (h6 : 0 ≤ x ∧ x + 5 < L) (hk : ∀ υ, LI (k + 1) υ → WP E m_Law (d + 116) 18 [(0, aP (-7)), (1, aP 1), (2, aP 42), (3, aI (x + 6))] [] υ Q) : WP E m_Law (d + 116) 1486 [(0, aP (-7)), (1, aP 1), (2, aP 42), (3, aI x)] [] σ Q :=
  b_Law_1486 hX x h.fix ⟨⟨by omega, by omega⟩, ⟨by omega, by omega⟩, ⟨by omega, by omega⟩, WMi.mono (law_I (op_spell hS (hr _) (hr _) (hr _)) h) (fun v τ _ q => ⟨q.1, ⟨by omega, by omega⟩, ⟨by omega, by omega⟩, ⟨by omega, by omega⟩, WMi.mono q.2 (fun w υ _ p => ⟨p.1, p.2.1, fun _ => b_Law_1552 hX x (hk υ p.2.2.2), fun c => absurd p.2.2.1 c⟩)⟩)⟩
theorem la_count (hX : XT E (-7) .int L f) (hr : ∀ j, rI (f j)) {k : Nat} {x : Int} {Q : Option AV → St → Prop} (h : LI k σ) (h6 : 0 ≤ x ∧ x + 5 < L) (hk : ∀ υ, LI (k + 1) υ → WP E m_Law (d + 116) 18 [(0, aP (-7)), (1, aP 1), (2, aP 42), (3, aI (x + 6))] [] υ Q) : WP E m_Law (d + 116) 1529 [(0, aP (-7)), (1, aP 1), (2, aP 42), (3, aI x)] [] σ Q :=
  b_Law_1529 hX x h.fix ⟨⟨by omega, by omega⟩, WMi.mono (law_I (op_count (hr _)) h) (fun v τ _ q => ⟨q.1, ⟨by omega, by omega⟩, WMi.mono q.2 (fun w υ _ p => ⟨p.1, p.2.1, fun _ => b_Law_1552 hX x (hk υ p.2.2.2), fun c => absurd p.2.2.1 c⟩)⟩)⟩
/-- the loop -/
theorem law_loop (hS : StrE E) (hW : WaysE E) (hX : XT E (-7) .int L f) (hr : ∀ j, rI (f j)) (hL : L ≤ 3072) : ∀ (n k : Nat) (x : Int) (σ : St), LI k σ → x = 6 * (k : Int) → k + n = 513 → WP E m_Law (d + 116) 18 [(0, aP (-7)), (1, aP 1), (2, aP 42), (3, aI x)] [] σ LQ := by
  intro n
  induction n with
  | zero =>
    intro k x σ h hx hn
    refine b_Law_18 hX x ⟨⟨by omega, by omega⟩, ⟨by omega, by omega⟩, fun _ => ?_, fun c => absurd ?_ c⟩
    · obtain ⟨D, b, h1, h2, h3, h4, h5, h6, h7⟩ := h
      exact ⟨rfl, by omega, by omega⟩
    · omega
  | succ n ih =>
    intro k x σ h hx hn
    refine b_Law_18 hX x ⟨⟨by omega, by omega⟩, ⟨by omega, by omega⟩, fun _ => ?_, fun c => ?_⟩
    · obtain ⟨D, b, h1, h2, h3, h4, h5, h6, h7⟩ := h
      exact ⟨rfl, by omega, by omega⟩
    · have h6 : 0 ≤ x ∧ x + 5 < L := ⟨by omega, by omega⟩
      have hk : ∀ υ, LI (k + 1) υ → WP E m_Law (d + 116) 18 [(0, aP (-7)), (1, aP 1), (2, aP 42), (3, aI (x + 6))] [] υ LQ := fun υ hu => ih (k + 1) (x + 6) υ hu (by omega) (by omega)
      refine ⟨⟨by omega, by omega⟩, rI_iand _ _, fun _ => la_feed hX hr h h6 hk, fun _ => la_back hX hr h h6 hk, fun _ => la_text hS hX hr h h6 hk, fun _ => la_exchange hX hr h h6 hk, fun _ => la_turn hX hr h h6 hk, fun _ => la_join hX hr h h6 hk, fun _ => la_part hX hr h h6 hk, fun _ => la_swap hX hr h h6 hk, fun _ => la_insert hX hr h h6 hk, fun _ => la_release hX hr h h6 hk, fun _ => la_move hX hr h h6 hk, fun _ => la_mirror hX hr h h6 hk, fun _ => la_arrange hX hr h h6 hk, fun _ => la_side hX hr h h6 hk, fun _ => la_gap hX hr h h6 hk, fun _ => la_undo hX hr h h6 hk, fun _ => la_sign hX hr h h6 hk, fun _ => la_line hX hr h h6 hk, fun _ => la_square hX hr h h6 hk, fun _ => la_scale hX hr h h6 hk, fun _ => la_letter hX hr h h6 hk, fun _ => la_inside hX hr h h6 hk, fun _ => la_box hX hr h h6 hk, fun _ => la_at hX hr h h6 hk, fun _ => la_column hX hr h h6 hk, fun _ => la_covered hX hr h h6 hk, fun _ => la_smallest hX hr h h6 hk, fun _ => la_same hX hr h h6 hk, fun _ => la_tightest hX hr h h6 hk, fun _ => la_least hX hr h h6 hk, fun _ => la_ways hW hX hr h h6 hk, fun _ => la_best hX hr h h6 hk, fun _ => la_bestText hX hr h h6 hk, fun _ => la_joined hX hr h h6 hk, fun _ => la_spell hS hX hr h h6 hk, fun _ => la_count hX hr h h6 hk, fun _ => b_Law_1552 hX x (hk σ (h.mono (by omega)))⟩
theorem law_ends (hS : StrE E) (hW : WaysE E) (hX : XT E (-7) .int L f) (hr : ∀ j, rI (f j)) (hL : L ≤ 3072) : WP E m_Law (d + 116) 0 [(0, aP (-7))] [] ((fun _ _ => 0, []) : St) LQ := by
  have i0 : Is ((fun _ _ => 0, []) : St) 0 [] := ⟨rfl, fun _ _ => rfl, fun w hw => by simp at hw, by omega⟩
  have n0 : nx ((fun _ _ => 0, []) : St) = 1 := i0.n_ rfl
  refine b_Law_0 hX ⟨by rw [n0]; omega, ?_⟩
  rw [n0]
  refine WMv.mono (w_S_init (i0.a_ (n' := 1) (by decide) rfl)) (fun τ _ i1 => ?_)
  have n1 : nx τ = 42 := i1.n_ rfl
  refine ⟨by rw [n1]; omega, ?_⟩
  rw [n1]
  refine WMv.mono (w_M_init (i1.a_ (n' := 42) (by decide) rfl)) (fun υ _ i2 => ?_)
  have i3 : Is υ 92 WF := i2
  refine law_loop hS hW hX hr hL 513 0 0 υ ⟨D00, 92, st_D, st_C i3, st_R i3, st_F i3, ?_, ?_, ?_⟩ rfl rfl
  · rw [i3.len]; omega
  · rw [i3.len]; omega
  · unfold tot
    rw [i3.1]
    decide +kernel
end GLaw
