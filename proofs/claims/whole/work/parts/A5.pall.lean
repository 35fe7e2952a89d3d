/-! ALL OF A TEXT -/
theorem runS_ok {tp : List Int} {T : Tb} (hT : okTab T) : ∀ (n : Nat) (fs : List Fm2) (p s : Nat) (t : Tr) (q : Nat), p ≤ tp.length → okFs T fs s → s ≤ 10 → fs ≠ [] → runS tp T n fs p s = .ok (t, q) → (p < q ∧ q ≤ tp.length) ∧ okS T t
  | 0, fs, p, s, t, q, _, _, _, _, h => by simp [runS] at h
  | n + 1, fs, p, s, t, q, hp, hok, hs, hne, h => by
    obtain ⟨bg1, bg2⟩ := bgP_ok (p := p) hT hok hs hp
    simp only [runS] at h
    cases hb : bgP tp T fs p s with
    | error f => rw [hb] at h; cases h
    | ok v =>
      cases v with
      | inl w =>
        obtain ⟨g, p1, s1⟩ := w
        rw [hb] at h
        dsimp only at h
        obtain ⟨k1, k2, k3, k4, k5⟩ := bg1 g p1 s1 hb
        have := runS_ok hT n (g :: fs) p1 s1 t q k2.2 k1 k3 (by simp) h
        exact ⟨by omega, this.2⟩
      | inr w =>
        obtain ⟨u, p1⟩ := w
        rw [hb] at h
        dsimp only at h
        obtain ⟨k1, k2, k3, k4⟩ := bg2 u p1 hb
        have epp := endP_pos (tp := tp) (fs := fs) (t := u) (p := p1) k4.2
        have eok := okFs_end (T := T) (tp := tp) (fs := fs) (t := u) (p := p1) (s := s) hne hok k1
        cases he : endP tp fs u p1 with
        | error f => rw [he] at h; cases h
        | ok v2 =>
          cases v2 with
          | inl w2 =>
            obtain ⟨gs, p2⟩ := w2
            rw [he] at h
            dsimp only at h
            obtain ⟨m1, m2, m3⟩ := eok.1 gs p2 he
            have m4 := epp.1 gs p2 he
            rw [k2] at m1
            have := runS_ok hT n gs p2 (s + 1) t q m4.2 m1 k3 m2 h
            exact ⟨by omega, this.2⟩
          | inr w2 =>
            obtain ⟨u2, p2⟩ := w2
            rw [he] at h
            simp only [Except.ok.injEq, Prod.mk.injEq] at h
            obtain ⟨rfl, rfl⟩ := h
            obtain ⟨m1, m2⟩ := eok.2 u2 p2 he
            have m4 := epp.2 u2 p2 he
            exact ⟨by omega, m1.1, by omega, by have := m1.2.2; omega, m1.2.1⟩
theorem rdSquare_ok {tp : List Int} {T : Tb} {p q : Nat} {t : Tr} (hT : okTab T) (hp : p ≤ tp.length) (h : rdSquare tp T p = .ok (t, q)) : (p < q ∧ q ≤ tp.length) ∧ okS T t :=
  runS_ok hT _ fr0 p 0 t q hp ⟨trivial, trivial, by decide, fun l hl => (by cases hl), 0, rfl, rfl⟩ (by omega) (by simp [fr0]) h
theorem rdSqs_ok {tp : List Int} {T : Tb} (hT : okTab T) : ∀ (n : Nat) (acc : List Tr) (p : Nat) (L : List Tr) (q : Nat), p ≤ tp.length → n + acc.length = 8 → (∀ t ∈ acc, okS T t) → rdSqs tp T n acc p = .ok (L, q) → (p < q ∧ q ≤ tp.length) ∧ (1 ≤ L.length ∧ L.length ≤ 8) ∧ ∀ t ∈ L, okS T t
  | 0, acc, p, L, q, _, _, _, h => by simp [rdSqs] at h
  | n + 1, acc, p, L, q, hp, hl, hk, h => by
    simp only [rdSqs] at h
    cases hs : rdSquare tp T p with
    | error f => rw [hs] at h; cases h
    | ok v =>
      obtain ⟨t, p1⟩ := v
      rw [hs] at h
      dsimp only at h
      obtain ⟨h1, h2⟩ := rdSquare_ok hT hp hs
      have hk2 : ∀ u ∈ acc ++ [t], okS T u := fun u hu => by
        rcases List.mem_append.mp hu with q | q
        · exact hk u q
        · rw [List.mem_singleton] at q; subst q; exact h2
      split at h
      · rename_i hc
        have hb := byt_lt hc (by decide)
        have hn := nbk_b h1.2
        split at h
        · cases h
        · have := rdSqs_ok hT n (acc ++ [t]) (nbk tp p1 + 1) L q (by omega) (by simp; omega) hk2 h
          exact ⟨by omega, this.2⟩
      · simp only [Except.ok.injEq, Prod.mk.injEq] at h
        obtain ⟨rfl, rfl⟩ := h
        exact ⟨h1, by simp; omega, hk2⟩
theorem rdLn_ok {tp : List Int} {T : Tb} {p q : Nat} {L : Ln} (hT : okTab T) (hp : p ≤ tp.length) (h : rdLn tp T p = .ok (L, q)) : (p < q ∧ q ≤ tp.length) ∧ okLn T L := by
  unfold rdLn at h
  have hp1 : p ≤ (if isW tp p 5 then te tp p else p) ∧ (if isW tp p 5 then te tp p else p) ≤ tp.length := by
    split
    · rename_i hw
      have := te_pos hp (isW_1 (by decide) hw)
      omega
    · omega
  generalize (if isW tp p 5 then te tp p else p) = p1 at *
  cases hs : rdSqs tp T 8 [] p1 with
  | error f => rw [hs] at h; cases h
  | ok v =>
    obtain ⟨K, p2⟩ := v
    rw [hs] at h
    dsimp only at h
    obtain ⟨h1, h2, h3⟩ := rdSqs_ok hT 8 [] p1 K p2 hp1.2 rfl (fun t ht => by simp at ht) hs
    split at h
    · cases h
    · rename_i p3 hm
      simp only [Except.ok.injEq, Prod.mk.injEq] at h
      obtain ⟨rfl, rfl⟩ := h
      have := nMk_pos (by decide) h1.2 hm
      exact ⟨by omega, h2, h3⟩
theorem tok_mono {T T' : Tb} (h : ∀ l, 0 < (T l).1 → T' l = T l) {t : Tr} (ht : tok T t) : tok T' t := by
  induction t with
  | var l => show 0 < (T' (vN l)).1; rw [h _ ht]; exact ht
  | pow t l ih => exact ⟨by rw [h _ ht.1.1]; exact ht.1, ih ht.2⟩
  | mul a b iha ihb => exact ⟨iha ht.1, ihb ht.2⟩
  | add a b iha ihb => exact ⟨iha ht.1, ihb ht.2⟩
  | _ => trivial
theorem okMo_mono {T T' : Tb} (h : ∀ l, 0 < (T l).1 → T' l = T l) {M : Mo} (hM : okMo T M) : okMo T' M :=
  ⟨hM.1, hM.2.1, hM.2.2.1, fun L hL => ⟨(hM.2.2.2 L hL).1, fun t ht => by
    obtain ⟨a1, a2, a3, a4⟩ := (hM.2.2.2 L hL).2 t ht
    exact ⟨a1, a2, a3, tok_mono h a4⟩⟩⟩
theorem rdSgn_mono {tp : List Int} {T T' : Tb} {p q : Nat} (h : rdSgn tp T p = .ok (T', q)) : ∀ l, 0 < (T l).1 → T' l = T l := by
  unfold rdSgn at h
  by_cases c : letN tp p = -1 ∨ 0 < (T (letN tp p).toNat).1 ∨ tdN T = 12
  · rw [if_pos c] at h; cases h
  · rw [if_neg c] at h
    split at h
    · cases h
    · simp only [Except.ok.injEq, Prod.mk.injEq] at h
      obtain ⟨rfl, rfl⟩ := h
      intro l hl
      unfold setT
      rw [if_neg]
      intro q
      rw [q] at hl
      exact c (Or.inr (Or.inl hl))
abbrev RdS : Type := Tb × Mo
def rdAll (tp : List Int) : Nat → RdS → Nat → Except Nat RdS
  | 0, _, p => .error p
  | n + 1, s, p =>
    if tk tp p = 0 then .ok s
    else if isW tp p 0 then (match nMk tp 59 (nN tp 1 24 (.ok (te tp p))).2 with
      | .error f => .error f
      | .ok p1 => rdAll tp n (s.1, (nN tp 1 24 (.ok (te tp p))).1, s.2.2.1, s.2.2.2) p1)
    else if isW tp p 1 then (match nMk tp 59 (nN tp 0 3 (.ok (te tp p))).2 with
      | .error f => .error f
      | .ok p1 => rdAll tp n (s.1, s.2.1, (nN tp 0 3 (.ok (te tp p))).1, s.2.2.2) p1)
    else if isW tp p 2 then (match rdSgn tp s.1 (te tp p) with
      | .error f => .error f
      | .ok (T', p1) => rdAll tp n (T', s.2) p1)
    else if isW tp p 4 ∧ s.2.2.2.length < 4 then (match rdLn tp s.1 (te tp p) with
      | .error f => .error f
      | .ok (L, p1) => rdAll tp n (s.1, s.2.1, s.2.2.1, s.2.2.2 ++ [L]) p1)
    else .error (nbk tp p)
def T00 : Tb := fun _ => (0, 0, 0, 0)
def rdText (tp : List Int) : Except Nat RdS := rdAll tp (tp.length + 1) (T00, 12, 1, []) 0
def okR (s : RdS) : Prop := okTab s.1 ∧ tdN s.1 ≤ 12 ∧ okMo s.1 s.2
theorem okR_side {s : RdS} (h : okR s) {v : Int} (hv : 1 ≤ v ∧ v ≤ 24) : okR (s.1, v, s.2.2.1, s.2.2.2) := ⟨h.1, h.2.1, hv, h.2.2.2⟩
theorem okR_gap {s : RdS} (h : okR s) {v : Int} (hv : 0 ≤ v ∧ v ≤ 3) : okR (s.1, s.2.1, v, s.2.2.2) := ⟨h.1, h.2.1, h.2.2.1, hv, h.2.2.2.2⟩
theorem okR_line {s : RdS} (h : okR s) {L : Ln} (hL : okLn s.1 L) (h4 : s.2.2.2.length < 4) : okR (s.1, s.2.1, s.2.2.1, s.2.2.2 ++ [L]) := ⟨h.1, h.2.1, h.2.2.1, h.2.2.2.1, by show (s.2.2.2 ++ [L]).length ≤ 4; simp; omega, fun K hK => by
  rcases List.mem_append.mp hK with q | q
  · exact h.2.2.2.2.2 K q
  · rw [List.mem_singleton] at q; subst q; exact hL⟩
theorem rdAll_ok {tp : List Int} : ∀ (n : Nat) (s : RdS) (p : Nat) (u : RdS), p ≤ tp.length → okR s → rdAll tp n s p = .ok u → okR u
  | 0, s, p, u, _, _, h => by simp [rdAll] at h
  | n + 1, s, p, u, hp, hk, h => by
    simp only [rdAll] at h
    by_cases c0 : tk tp p = 0
    · rw [if_pos c0] at h; cases h; exact hk
    · rw [if_neg c0] at h
      by_cases c1 : isW tp p 0 = true
      · rw [if_pos c1] at h
        have ht := te_pos hp (isW_1 (by decide) c1)
        split at h
        · cases h
        · rename_i p1 hm
          obtain ⟨p', e, -, -⟩ := nMk_ok hm
          have h2 := nN_pos ht.2 e
          rw [e] at hm
          have h3 := nMk_pos (by decide) h2.2 hm
          exact rdAll_ok n _ p1 u h3.2 (okR_side hk (nN_b (by decide) _)) h
      · rw [if_neg c1] at h
        by_cases c2 : isW tp p 1 = true
        · rw [if_pos c2] at h
          have ht := te_pos hp (isW_1 (by decide) c2)
          split at h
          · cases h
          · rename_i p1 hm
            obtain ⟨p', e, -, -⟩ := nMk_ok hm
            have h2 := nN_pos ht.2 e
            rw [e] at hm
            have h3 := nMk_pos (by decide) h2.2 hm
            exact rdAll_ok n _ p1 u h3.2 (okR_gap hk (nN_b (by decide) _)) h
        · rw [if_neg c2] at h
          by_cases c3 : isW tp p 2 = true
          · rw [if_pos c3] at h
            have ht := te_pos hp (isW_1 (by decide) c3)
            split at h
            · cases h
            · rename_i T' p1 hs
              obtain ⟨b1, b2, b3, b4⟩ := rdSgn_ok hk.1 hk.2.1 ht.2 hs
              exact rdAll_ok n (T', s.2) p1 u b4 ⟨b1, b2, okMo_mono (rdSgn_mono hs) hk.2.2⟩ h
          · rw [if_neg c3] at h
            by_cases c4 : isW tp p 4 = true ∧ s.2.2.2.length < 4
            · rw [if_pos c4] at h
              have ht := te_pos hp (isW_1 (by decide) c4.1)
              split at h
              · cases h
              · rename_i L p1 hs
                obtain ⟨b1, b2⟩ := rdLn_ok hk.1 ht.2 hs
                exact rdAll_ok n _ p1 u b1.2 (okR_line hk b2 c4.2) h
            · rw [if_neg c4] at h; cases h
theorem okR_0 : okR (T00, 12, 1, []) := ⟨fun l hl => Or.inl ⟨rfl, rfl, rfl, rfl⟩, by decide, ⟨by decide, by decide⟩, ⟨by decide, by decide⟩, by decide, fun L hL => by simp at hL⟩
theorem LnAt.mv {T : Tb} {f g : Int → Int} {p : Int} {L : Ln} (h : LnAt f p L) (hk : okLn T L) (e : ∀ j, 0 ≤ j → j < 170 → g (p + j) = f (p + j)) : LnAt g p L := by
  have h8 := hk.1.2
  have e' : ∀ q, p ≤ q → q < p + 170 → g q = f q := fun q a b => by have := e (q - p) (by omega) (by omega); rw [show p + (q - p) = q by omega] at this; exact this
  refine ⟨(e' _ (by omega) (by omega)).trans h.1, (e' _ (by omega) (by omega)).trans h.2.1, fun s t hs => ?_⟩
  have hsl := (List.getElem?_eq_some_iff.mp hs).1
  have ht := hk.2 t (List.mem_of_getElem? hs)
  have hr := rc_len2 ht.1 0
  have hsg := ht.2.1
  exact (h.2.2 s t hs).move (by omega) (fun k a b => e' _ (by omega) (by omega))
def raX : List (Int × Int) := (78, -1) :: (79, -1) :: (80, -1) :: (81, -1) :: (42, 58) :: rlX
def RaRes (o : Except Nat RdS) (τ : St) : Prop := match o with
  | .error f => τ.1 42 53 = 1 ∧ τ.1 42 51 = f
  | .ok s => τ.1 42 53 = 0 ∧ RdF τ s.1 ∧ MoAt (τ.1 48) 0 s.2
section MAllR
variable {E : EV} {d : Nat} {σ : St} {tp : List Int}
theorem c_M_readsAll {s0 : RdS} (hF : Fix σ) (hTp : Tp σ tp) (hR : RdF σ s0.1) (hM : MoAt (σ.1 48) 0 s0.2) (hk : okR s0) (hw : σ.1 42 53 = 0) (hla : LA σ tp 0) : WMv E m_M_readsAll (d + 7) [aP 42] σ (fun τ => Fr raX σ τ ∧ RaRes (rdAll tp (tp.length + 1) s0 0) τ) := by
  generalize hG : rdAll tp (tp.length + 1) s0 0 = G
  have key : ∀ z : Nat × RdS × Nat × St, (Fr raX σ z.2.2.2 ∧ z.2.2.2.1 42 53 = 0 ∧ LA z.2.2.2 tp z.2.2.1 ∧ RdF z.2.2.2 z.2.1.1 ∧ MoAt (z.2.2.2.1 48) 0 z.2.1.2 ∧ okR z.2.1 ∧ tp.length + 1 ≤ z.1 + z.2.2.1 ∧ rdAll tp z.1 z.2.1 z.2.2.1 = G) → WP E m_M_readsAll (d + 7) 0 [(0, aP 42)] [] z.2.2.2 (fun r τ => r = none ∧ σ.2 <+: τ.2 ∧ Fr raX σ τ ∧ RaRes (G) τ) := by
    refine lpx (fun z => z.1) _ _ (fun z hI ih => ?_)
    obtain ⟨n, s, p, τ⟩ := z
    obtain ⟨i1, i2, i3, i4, i5, i6, i7, i8⟩ := hI
    simp only at i1 i2 i3 i4 i5 i6 i7 i8 ih ⊢
    have hFT := i1.fix hF (by decide)
    have TpT : Tp τ tp := hTp.keep i1 rfl (fun _ => ⟨rfl, rfl⟩)
    have hpl := i3.1
    have htk := tk_b tp p
    obtain ⟨k1, k2, k3⟩ := i6
    have hk4 := k3.2.2.1
    have hm2 : τ.1 48 2 = (s.2.2.2.length : Int) := i5.2.2.1
    cases n with
    | zero => omega
    | succ n =>
      -- once it is wrong
      have wrongQ : ∀ χ : St, Fr raX σ χ → χ.1 42 53 = 1 → RaRes (G) χ → WP E m_M_readsAll (d + 7) 0 [(0, aP 42)] [] χ (fun r τ => r = none ∧ σ.2 <+: τ.2 ∧ Fr raX σ τ ∧ RaRes (G) τ) := by
        intro χ g1 g2 g3
        refine b_M_readsAll_0 (g1.fix hF (by decide)) ?_
        rw [g2]
        exact ⟨by decide, fun _ => ⟨rfl, pre_eq g1.1, g1, g3⟩, fun q => absurd q (by decide)⟩
      simp only [rdAll] at i8
      refine b_M_readsAll_0 hFT ?_
      rw [i2, i3.2.2.2.1]
      refine ⟨by decide, fun q => absurd rfl q, fun _ => ⟨by omega, fun c0 => ?_, fun c0 => ?_⟩⟩
      · rw [if_pos (by omega)] at i8
        refine ⟨rfl, pre_eq i1.1, i1, ?_⟩
        rw [← i8]
        exact ⟨i2, i4, i5⟩
      · rw [if_neg (by omega)] at i8
        refine wmi_p (c_M_isWord hFT TpT i3 (by decide)) ⟨hFT, b2i_r _, fun c1 => ?_, fun c1 => ?_⟩
        · rw [b2i_0] at c1
          rw [if_neg c1] at i8
          refine wmi_p (c_M_isWord hFT TpT i3 (by decide)) ⟨hFT, b2i_r _, fun c2 => ?_, fun c2 => ?_⟩
          · rw [b2i_0] at c2
            rw [if_neg c2] at i8
            refine wmi_p (c_M_isWord hFT TpT i3 (by decide)) ⟨hFT, b2i_r _, fun c3 => ?_, fun c3 => ?_⟩
            · rw [b2i_0] at c3
              rw [if_neg c3] at i8
              have bad : ¬ (isW tp p 4 = true ∧ s.2.2.2.length < 4) → WP E m_M_readsAll (d + 7) 129 [(0, aP 42)] [] τ (fun r τ => r = none ∧ σ.2 <+: τ.2 ∧ Fr raX σ τ ∧ RaRes (G) τ) := by
                intro hb
                rw [if_neg hb] at i8
                refine b_M_readsAll_129 hFT (wrongQ _ (i1.tr (Fr.wr (frO_k (by decide)))) (wr_same _ _ _ _) ?_)
                rw [← i8]
                exact ⟨wr_same _ _ _ _, by rw [wr_nk _ (by decide)]; exact i3.2.1⟩
              refine wmi_p (c_M_isWord hFT TpT i3 (by decide)) ⟨hFT, b2i_r _, fun c4 => ?_, fun c4 => ?_⟩
              · rw [b2i_0] at c4
                exact bad (fun q => c4 q.1)
              · -- a line
                rw [b2i_n0] at c4
                rw [hm2]
                refine ⟨by omega, fun c5 => bad (fun q => by omega), fun c5 => ?_⟩
                rw [if_pos ⟨c4, by omega⟩] at i8
                have ht1 := isW_1 (by decide) c4
                have htp := te_pos hpl ht1
                refine WMv.mono (LA.go hFT TpT i3 ht1 (Or.inl rfl)) (fun τ1 p1 q1 => ?_)
                have F1 := q1.1.fix hFT (by decide)
                have Tp1 : Tp τ1 tp := TpT.keep q1.1 rfl (fun _ => ⟨rfl, rfl⟩)
                have R1 : RdF τ1 s.1 := i4.keep q1.1 (fun _ => ⟨rfl, rfl, rfl, rfl⟩) rfl
                refine ⟨F1, WMv.mono (c_M_readsLine (d := d) (k := s.2.2.2.length) F1 Tp1 R1.t k1 ((q1.1.2 _ _ rfl).trans i2) q1.2 ((q1.1.2 _ _ rfl).trans hm2) (by omega)) (fun τ2 p2 q2 => ?_)⟩
                obtain ⟨f2, r2⟩ := q2
                have fr2 : Fr raX σ τ2 := (i1.tr (q1.1.mono (by decide))).tr (f2.mono (by decide))
                cases hl : rdLn tp s.1 (te tp p) with
                | error f =>
                  rw [hl] at i8 r2
                  dsimp only at i8
                  exact wrongQ τ2 fr2 r2.1 (by rw [← i8]; exact r2)
                | ok v =>
                  obtain ⟨L, p3⟩ := v
                  rw [hl] at i8 r2
                  dsimp only at i8
                  obtain ⟨⟨u1, u2⟩, u3, u4, u5, u6⟩ := r2
                  have hpos := (rdLn_ok k1 htp.2 hl).1
                  refine ih (n, (s.1, s.2.1, s.2.2.1, s.2.2.2 ++ [L]), p3, τ2) (Nat.lt_succ_self n) ⟨fr2, u1, u2, R1.keep f2 (fun _ => ⟨rfl, rfl, rfl, rfl⟩) rfl, ?_, okR_line ⟨k1, k2, k3⟩ u3 (by omega), by show tp.length + 1 ≤ n + p3; omega, i8⟩
                  have same : ∀ j : Int, 0 ≤ j → j < 3 + 170 * (s.2.2.2.length : Int) → j ≠ 2 → τ2.1 48 j = τ.1 48 j := fun j a b c => (u6 j b c).trans (q1.1.2 _ _ rfl)
                  refine ⟨(same 0 (by omega) (by omega) (by omega)).trans i5.1, (same 1 (by omega) (by omega) (by omega)).trans i5.2.1, by show τ2.1 48 2 = ((s.2.2.2 ++ [L]).length : Int); rw [u5]; simp, fun l K hK => ?_⟩
                  have hK' : (s.2.2.2 ++ [L])[l]? = some K := hK
                  by_cases hll : l < s.2.2.2.length
                  · rw [List.getElem?_append_left hll] at hK'
                    refine (i5.2.2.2 l K hK').mv (k3.2.2.2 K (List.mem_of_getElem? hK')) (fun j a b => same _ (by omega) (by omega) (by omega))
                  · have hlt := (List.getElem?_eq_some_iff.mp hK').1
                    simp only [List.length_append, List.length_singleton] at hlt
                    have hle : l = s.2.2.2.length := by omega
                    subst hle
                    have hKL : K = L := by simpa using hK'.symm
                    subst hKL
                    rw [show (0 : Int) + 3 + 170 * (s.2.2.2.length : Int) = 3 + 170 * (s.2.2.2.length : Int) by omega]
                    exact u4
            · -- a sign is told
              rw [b2i_n0] at c3
              rw [if_pos c3] at i8
              have ht1 := isW_1 (by decide) c3
              have htp := te_pos hpl ht1
              refine WMv.mono (LA.go hFT TpT i3 ht1 (Or.inl rfl)) (fun τ1 p1 q1 => ?_)
              have F1 := q1.1.fix hFT (by decide)
              have Tp1 : Tp τ1 tp := TpT.keep q1.1 rfl (fun _ => ⟨rfl, rfl⟩)
              have R1 : RdF τ1 s.1 := i4.keep q1.1 (fun _ => ⟨rfl, rfl, rfl, rfl⟩) rfl
              refine ⟨F1, WMv.mono (c_M_readsSign (d := d + 3) F1 Tp1 R1 k1 k2 ((q1.1.2 _ _ rfl).trans i2) q1.2) (fun τ2 p2 q2 => ?_)⟩
              obtain ⟨f2, r2⟩ := q2
              have fr2 : Fr raX σ τ2 := (i1.tr (q1.1.mono (by decide))).tr (f2.mono (by decide))
              cases hl : rdSgn tp s.1 (te tp p) with
              | error f =>
                rw [hl] at i8 r2
                dsimp only at i8
                exact wrongQ τ2 fr2 r2.1 (by rw [← i8]; exact r2)
              | ok v =>
                obtain ⟨T', p3⟩ := v
                rw [hl] at i8 r2
                dsimp only at i8
                obtain ⟨⟨u1, u2⟩, u3⟩ := r2
                obtain ⟨b1, b2, b3, b4⟩ := rdSgn_ok k1 k2 htp.2 hl
                have hrd : τ2.1 48 = τ.1 48 := funext (fun j => (f2.2 _ _ rfl).trans (q1.1.2 _ _ rfl))
                exact ih (n, (T', s.2), p3, τ2) (Nat.lt_succ_self n) ⟨fr2, u1, u2, u3, by show MoAt (τ2.1 48) 0 s.2; rw [hrd]; exact i5, ⟨b1, b2, okMo_mono (rdSgn_mono hl) k3⟩, by show tp.length + 1 ≤ n + p3; omega, i8⟩
          · -- gap
            rw [b2i_n0] at c2
            rw [if_pos c2] at i8
            have ht1 := isW_1 (by decide) c2
            have htp := te_pos hpl ht1
            refine WMv.mono (LA.go hFT TpT i3 ht1 (Or.inl rfl)) (fun τ1 p1 q1 => ?_)
            have F1 := q1.1.fix hFT (by decide)
            have Tp1 : Tp τ1 tp := TpT.keep q1.1 rfl (fun _ => ⟨rfl, rfl⟩)
            have W1 : Wr τ1 tp (.ok (te tp p)) := ⟨(q1.1.2 _ _ rfl).trans i2, q1.2⟩
            refine ⟨F1, WMi.mono (c_M_needsNumber (d := d + 4) F1 Tp1 W1 (by decide) (by decide)) (fun v τ2 p2 q2 => ?_)⟩
            obtain ⟨f2, hv, W2⟩ := q2
            have bv := nN_b (tp := tp) (lo := 0) (hi := 3) (by decide) (.ok (te tp p))
            rw [← hv] at bv i8
            have F2 := f2.fix F1 (by decide)
            have fw : Fr [(48, -1)] τ2 (wr τ2 48 1 v) := Fr.wr (frO_a (by decide) _)
            have F3 := fw.fix F2 (by decide)
            have Tp3 : Tp (wr τ2 48 1 v) tp := (Tp1.keep f2 rfl (fun _ => ⟨rfl, rfl⟩)).keep fw rfl (fun _ => ⟨rfl, rfl⟩)
            have W3 : Wr (wr τ2 48 1 v) tp (nN tp 0 3 (.ok (te tp p))).2 := by
              generalize (nN tp 0 3 (.ok (te tp p))).2 = r at W2
              cases r with
              | error f => exact ⟨(fw.2 _ _ rfl).trans W2.1, (fw.2 _ _ rfl).trans W2.2⟩
              | ok q => exact ⟨(fw.2 _ _ rfl).trans W2.1, W2.2.keep fw ⟨rfl, rfl, rfl, rfl⟩⟩
            refine ⟨F2, WMv.mono (c_M_needsMark (d := d + 4) F3 Tp3 W3 (by decide) (by decide) (by decide)) (fun τ4 p4 q4 => ?_)⟩
            have fr4 : Fr raX σ τ4 := (((i1.tr (q1.1.mono (by decide))).tr (f2.mono (by decide))).tr (fw.mono (by decide))).tr (q4.1.mono (by decide))
            cases hm : nMk tp 59 (nN tp 0 3 (.ok (te tp p))).2 with
            | error f =>
              have W4 := q4.2
              rw [hm] at W4 i8
              dsimp only at i8
              exact wrongQ τ4 fr4 W4.1 (by rw [← i8]; exact W4)
            | ok p3 =>
              have W4 := q4.2
              rw [hm] at W4 i8
              dsimp only at i8
              obtain ⟨p', e, -, -⟩ := nMk_ok hm
              have h2 := nN_pos htp.2 e
              rw [e] at hm
              have h3 := nMk_pos (by decide) h2.2 hm
              have hrd : ∀ j, j ≠ 1 → τ4.1 48 j = τ.1 48 j := fun j hj => by rw [q4.1.2 _ _ rfl, wr_nk _ hj, f2.2 _ _ rfl, q1.1.2 _ _ rfl]
              have hrd1 : τ4.1 48 1 = v := by rw [q4.1.2 _ _ rfl, wr_same]
              refine ih (n, (s.1, s.2.1, v, s.2.2.2), p3, τ4) (Nat.lt_succ_self n) ⟨fr4, W4.1, W4.2, (((i4.keep q1.1 (fun _ => ⟨rfl, rfl, rfl, rfl⟩) rfl).keep f2 (fun _ => ⟨rfl, rfl, rfl, rfl⟩) rfl).keep fw (fun _ => ⟨rfl, rfl, rfl, rfl⟩) rfl).keep q4.1 (fun _ => ⟨rfl, rfl, rfl, rfl⟩) rfl, ?_, okR_gap ⟨k1, k2, k3⟩ bv, by show tp.length + 1 ≤ n + p3; omega, i8⟩
              exact ⟨(hrd 0 (by decide)).trans i5.1, hrd1, (hrd 2 (by decide)).trans i5.2.2.1, fun l K hK => (i5.2.2.2 l K hK).mv (k3.2.2.2 K (List.mem_of_getElem? hK)) (fun j a b => hrd _ (by omega))⟩
        · -- side
          rw [b2i_n0] at c1
          rw [if_pos c1] at i8
          have ht1 := isW_1 (by decide) c1
          have htp := te_pos hpl ht1
          refine WMv.mono (LA.go hFT TpT i3 ht1 (Or.inl rfl)) (fun τ1 p1 q1 => ?_)
          have F1 := q1.1.fix hFT (by decide)
          have Tp1 : Tp τ1 tp := TpT.keep q1.1 rfl (fun _ => ⟨rfl, rfl⟩)
          have W1 : Wr τ1 tp (.ok (te tp p)) := ⟨(q1.1.2 _ _ rfl).trans i2, q1.2⟩
          refine ⟨F1, WMi.mono (c_M_needsNumber (d := d + 4) F1 Tp1 W1 (by decide) (by decide)) (fun v τ2 p2 q2 => ?_)⟩
          obtain ⟨f2, hv, W2⟩ := q2
          have bv := nN_b (tp := tp) (lo := 1) (hi := 24) (by decide) (.ok (te tp p))
          rw [← hv] at bv i8
          have F2 := f2.fix F1 (by decide)
          have fw : Fr [(48, -1)] τ2 (wr τ2 48 0 v) := Fr.wr (frO_a (by decide) _)
          have F3 := fw.fix F2 (by decide)
          have Tp3 : Tp (wr τ2 48 0 v) tp := (Tp1.keep f2 rfl (fun _ => ⟨rfl, rfl⟩)).keep fw rfl (fun _ => ⟨rfl, rfl⟩)
          have W3 : Wr (wr τ2 48 0 v) tp (nN tp 1 24 (.ok (te tp p))).2 := by
            generalize (nN tp 1 24 (.ok (te tp p))).2 = r at W2
            cases r with
            | error f => exact ⟨(fw.2 _ _ rfl).trans W2.1, (fw.2 _ _ rfl).trans W2.2⟩
            | ok q => exact ⟨(fw.2 _ _ rfl).trans W2.1, W2.2.keep fw ⟨rfl, rfl, rfl, rfl⟩⟩
          refine ⟨F2, WMv.mono (c_M_needsMark (d := d + 4) F3 Tp3 W3 (by decide) (by decide) (by decide)) (fun τ4 p4 q4 => ?_)⟩
          have fr4 : Fr raX σ τ4 := (((i1.tr (q1.1.mono (by decide))).tr (f2.mono (by decide))).tr (fw.mono (by decide))).tr (q4.1.mono (by decide))
          cases hm : nMk tp 59 (nN tp 1 24 (.ok (te tp p))).2 with
          | error f =>
            have W4 := q4.2
            rw [hm] at W4 i8
            dsimp only at i8
            exact wrongQ τ4 fr4 W4.1 (by rw [← i8]; exact W4)
          | ok p3 =>
            have W4 := q4.2
            rw [hm] at W4 i8
            dsimp only at i8
            obtain ⟨p', e, -, -⟩ := nMk_ok hm
            have h2 := nN_pos htp.2 e
            rw [e] at hm
            have h3 := nMk_pos (by decide) h2.2 hm
            have hrd : ∀ j, j ≠ 0 → τ4.1 48 j = τ.1 48 j := fun j hj => by rw [q4.1.2 _ _ rfl, wr_nk _ hj, f2.2 _ _ rfl, q1.1.2 _ _ rfl]
            have hrd1 : τ4.1 48 0 = v := by rw [q4.1.2 _ _ rfl, wr_same]
            refine ih (n, (s.1, v, s.2.2.1, s.2.2.2), p3, τ4) (Nat.lt_succ_self n) ⟨fr4, W4.1, W4.2, (((i4.keep q1.1 (fun _ => ⟨rfl, rfl, rfl, rfl⟩) rfl).keep f2 (fun _ => ⟨rfl, rfl, rfl, rfl⟩) rfl).keep fw (fun _ => ⟨rfl, rfl, rfl, rfl⟩) rfl).keep q4.1 (fun _ => ⟨rfl, rfl, rfl, rfl⟩) rfl, ?_, okR_side ⟨k1, k2, k3⟩ bv, by show tp.length + 1 ≤ n + p3; omega, i8⟩
            exact ⟨hrd1, (hrd 1 (by decide)).trans i5.2.1, (hrd 2 (by decide)).trans i5.2.2.1, fun l K hK => (i5.2.2.2 l K hK).mv (k3.2.2.2 K (List.mem_of_getElem? hK)) (fun j a b => hrd _ (by omega))⟩
  exact s_m (key (tp.length + 1, s0, 0, σ) ⟨Fr.refl _ _, hw, hla, hR, hM, hk, by show tp.length + 1 ≤ tp.length + 1 + 0; omega, hG⟩)
end MAllR
