/-! ARRANGE, BEST, BESTTEXT, JOINED -/
section CArr5
variable {E : EV} {d : Nat} {σ : St} {T : Tb} {M : Mo} {b : Int} {t : Tr} {P : List Mo} {tp : List Int}
/-- the state is kept where the arranger's memory is new -/
theorem CS.kf {n m : Nat} {τ : St} (h : CS σ b T M P tp) (hf : Cf n m kX σ τ) (hk : CK τ b T) : CS τ b T M P tp := by
  obtain ⟨⟨h1, h2, h2'⟩, ⟨h3, h4⟩, ⟨h5, h6⟩, ⟨h7, h8⟩, h9⟩ := h
  have hl := h1.len
  have e : ∀ a k : Int, a ≤ 92 → frO kX a k = true → τ.1 a k = σ.1 a k := fun a k ha hk => hf.2.2 a k (by omega) hk
  have e9 : ∀ k, τ.1 9 k = σ.1 9 k := fun k => e 9 k (by omega) rfl
  have e13 : ∀ k, τ.1 13 k = σ.1 13 k := fun k => e 13 k (by omega) rfl
  refine ⟨⟨hf.fix h1 (by decide), h2, by have := hf.1.length_le; omega⟩, ⟨?_, ?_⟩, ⟨?_, fun i m hm => ?_⟩, ⟨?_, fun i x hx => ?_⟩, hk⟩
  · rw [e 1 0 (by omega) rfl]; exact h3.cf hf rfl
  · rw [e 1 1 (by omega) rfl]; exact h4.cf hf rfl h2
  · rw [e 1 3 (by omega) rfl]; exact h5
  · rw [e9]; exact (h6 i m hm).cf hf rfl h2
  · rw [e 12 1 (by omega) rfl]; exact h7
  · rw [e13]; exact h8 i x hx
def bo (T : Tb) (M : Mo) (o : Option Tr) : Option Tr := o.bind (fun t => if so t ≤ 6 then bstO T M t else none)
theorem c_S_bestOf {x : Int} {o : Option Tr} (h : CS σ b T M P tp) (hT : okTab T) (hk : okMo T M) (hx : SqR b σ x o) (ho : oOk T o) : WMr E m_S_bestOf (d + 11) [aP 1, aP x] σ (fun r τ => (Cf 2 25 kX σ τ ∧ CS τ b T M P tp) ∧ SqR b τ r (bo T M o) ∧ oOk T (bo T M o) ∧ SqR b τ x o) := by
  have hF := h.1.1
  have hb := h.1.2
  refine e_S_bestOf _ hF ⟨fun c => ?_, fun c => ?_⟩
  · have ho1 := hx.pos.mp c
    subst ho1
    exact ⟨_, rfl, List.prefix_refl _, ⟨Cf.refl _ _ _ _, h⟩, rfl, trivial, hx⟩
  · cases o with
    | none => exact absurd hx c
    | some t =>
      have hx2 := hx.2
      have hc := ho.cc
      refine ⟨hx2.2.1, wmi_p (c_Sq_outerSigns hx2.2 hc.1 (by omega)) ⟨hF, by have := so_le t; have := ho.2.1; omega, fun c2 => ?_, fun c2 => ?_⟩⟩
      · have h6 : so t ≤ 6 := by omega
        have ebo : bo T M (some t) = bstO T M t := by unfold bo; simp [h6]
        rw [ebo]
        have hck := h.2.2.2.2
        -- what is not known is looked for
        have look : WMv E m_Arranger_find (d + 10) [aP 32, aP x, aP (σ.1 1 0), aP (σ.1 1 1), aP 10] σ (fun τ => Fix τ ∧ ∃ v, some (aP (τ.1 32 13)) = some (aP v) ∧ σ.2 <+: τ.2 ∧ (Cf 2 25 kX σ τ ∧ CS τ b T M P tp) ∧ SqR b τ v (bstO T M t) ∧ oOk T (bstO T M t) ∧ SqR b τ x (some t)) := by
          refine WMv.mono (c_Arranger_find h hT hk hx2 ho h6) (fun τ hp hq => ?_)
          obtain ⟨u, e1, uk, cf, su, k1, k2, k3⟩ := hq
          have hxt := hx2.cf cf (imX_lt rfl hb.1)
          have su' : SqC b τ (τ.1 32 13) u := su.lo hb.2
          have hM := hk.1
          have hg := hk.2.1
          have hcs : CS τ b T M P tp := by
            refine h.kf cf (Or.inr ⟨t, u, ⟨by rw [k1]; exact hxt.lo hb.1, su'.lo hb.1⟩, fun _ => ⟨⟨uk, ho, by rw [k2]; omega, by rw [k3]; omega⟩, su'.1.1, su'.1.2, fun M' m1 m2 => ?_⟩⟩)
            rw [bstO_c (M := M) t (by rw [m1, k2]) (by rw [m2, k3]), e1]
          rw [e1]
          exact ⟨hcs.1.1, _, rfl, hp, ⟨cf, hcs⟩, ⟨by have := (sh_len su'.2.1).1; omega, su'⟩, uk, ⟨hx.1, hxt⟩⟩
        have hxpos := (sh_len hx2.2.1).1
        rcases hck with k0 | ⟨t', u, ⟨s1, s2⟩, s3⟩
        · have kn : WMi E m_Arranger_knows (d + 10) [aP 32, aP x, aP (σ.1 1 1)] σ (fun r τ => r = 0 ∧ τ = σ) :=
            e_Arranger_knows _ _ hF ⟨by omega, by omega, fun _ => ri_p rfl, fun q => by omega⟩
          exact wmi_p kn ⟨hF, by decide, fun q => absurd rfl q, fun _ => look⟩
        · by_cases q : σ.1 32 10 = x
          · have hbx : b < σ.1 32 10 := by rw [q]; exact hx2.1.1
            obtain ⟨⟨uk, tk', r1, r2⟩, b1, b2, b3⟩ := s3 hbx
            have ett : t' = t := by
              rw [q] at s1
              obtain ⟨-, c1, c2, c3⟩ := s1
              obtain ⟨-, d1, d2, d3⟩ := hx2
              rw [d2] at c2
              have el : (cC t).length = (cC t').length := by simpa using c2
              have ec : cC t' = cC t := by
                refine List.ext_getElem? (fun i => ?_)
                by_cases qi : i < (cC t).length
                · have x1 := c3 i (by omega)
                  have x2 := d3 i qi
                  rw [x1, List.getD_eq_getElem?_getD, List.getD_eq_getElem?_getD, List.getElem?_eq_getElem (by omega), List.getElem?_eq_getElem qi] at x2
                  rw [List.getElem?_eq_getElem (by omega), List.getElem?_eq_getElem qi]
                  exact congrArg some x2
                · rw [List.getElem?_eq_none (by omega), List.getElem?_eq_none (by omega)]
              exact (cC_inj t' t [] [] tk'.1.w hc.1 (by rw [ec])).1
            subst ett
            refine wmi_p (c_Arranger_knows h hk (by omega) r1 r2 (by omega)) ⟨hF, b2i_r _, fun c3 => ?_, fun _ => look⟩
            rw [b2i_n0] at c3
            have e1 := b3 M c3.2.1.symm c3.2.2.symm
            rw [e1]
            have su : SqC b σ (σ.1 32 13) u := ⟨⟨b1, b2⟩, s2.2⟩
            exact ⟨_, rfl, List.prefix_refl _, ⟨Cf.refl _ _ _ _, h⟩, ⟨by have := (sh_len s2.2.1).1; omega, su⟩, uk, hx⟩
          · have p1 := (sh_len s1.2.1).1
            have kn : WMi E m_Arranger_knows (d + 10) [aP 32, aP x, aP (σ.1 1 1)] σ (fun r τ => r = 0 ∧ τ = σ) :=
              e_Arranger_knows _ _ hF ⟨by omega, by omega, fun _ => ri_p rfl, fun q2 => absurd q2 q⟩
            exact wmi_p kn ⟨hF, by decide, fun q => absurd rfl q, fun _ => look⟩
      · have ebo : bo T M (some t) = none := by unfold bo; simp; omega
        rw [ebo]
        exact ⟨_, rfl, List.prefix_refl _, ⟨Cf.refl _ _ _ _, h⟩, rfl, trivial, hx⟩
/-- what an asking that may look for the best leaves -/
def AskK (σ : St) (b : Int) (T : Tb) (M : Mo) (P : List Mo) (tp : List Int) (τ : St) : Prop := Cf 2 25 kX σ τ ∧ CS τ b T M P tp
theorem bstO_some {T : Tb} {M : Mo} {t : Tr} (ht : ok t) (h6 : so t ≤ 6) : ∃ u, bstO T M t = some u := by
  have h1 := so_pos ht
  have ho := oS_ok (T := T) ht
  have hS : ∀ u ∈ oS t, isS u = true ∧ ok u := fun u hu => ⟨(ho u hu).1, (ho u hu).2.1⟩
  have hall : ∀ s ∈ cnd (so t), okP s = true ∧ lv s = List.range (oS t).length := by
    intro s hs
    have := gS_ok 6 0 (so t) h1 h6 (by omega) s (cnd_gS h1 h6 hs)
    rw [oS_len, List.range_eq_range']
    exact this
  have hne : cnd (so t) ≠ [] := by
    intro q
    have hl := gS_len (f := 0) (n := so t) h1 (by omega)
    have hz : gS 0 (so t) = [] := by
      cases hg : gS 0 (so t) with
      | nil => rfl
      | cons s L => have := gS_cnd h1 h6 (s := s) (by rw [hg]; exact List.mem_cons_self); rw [q] at this; simp at this
    rw [hz] at hl
    have : ∀ n, 1 ≤ n → n ≤ 6 → cN n ≠ 0 := by
      intro n q1 q2
      match n, q1, q2 with
      | 1, _, _ => decide
      | 2, _, _ => decide
      | 3, _, _ => decide
      | 4, _, _ => decide
      | 5, _, _ => decide
      | 6, _, _ => decide
    exact this _ h1 h6 hl.symm
  unfold bstO
  cases hc : cnd (so t) with
  | nil => exact absurd hc hne
  | cons c L =>
    rw [hc] at hall
    obtain ⟨m', k1, k2, k3⟩ := bstF_min (T := T) (M := M) hS L c hall
    exact ⟨_, k2⟩
theorem c_S_best {l s w : Int} (h : CS σ b T M P tp) (hT : okTab T) (hk : okMo T M) (h1 : rI l) (h2 : rI s) (h3 : rI w) : WMi E m_S_best (d + 20) [aP 1, aI l, aI s, aI w] σ (fun r τ => r = sp_best T M l s w ∧ AskK σ b T M P tp τ) := by
  have hF := h.1.1
  have ho := hk.oOk l s
  have stay : AskK σ b T M P tp σ := ⟨Cf.refl _ _ _ _, h⟩
  refine e_S_best _ _ _ hF (WMr.mono (c_S_squareAt h hk h1 h2) (fun r τ _ hq => ?_))
  obtain ⟨hq1, rfl⟩ := hq
  unfold sp_best
  cases hs : sqAt M l s with
  | none => rw [hs] at hq1; exact ⟨hF, fun _ => ⟨_, rfl, List.prefix_refl _, rfl, stay⟩, fun c => absurd hq1 c⟩
  | some t =>
    rw [hs] at hq1 ho
    dsimp only
    refine ⟨hF, fun c => absurd c hq1.1, fun _ => ⟨h3, fun c => ⟨_, rfl, List.prefix_refl _, by rw [if_neg (by omega)], stay⟩, fun c => ⟨h3, fun c2 => ?_, fun c2 => ⟨_, rfl, List.prefix_refl _, by rw [if_neg (by omega)], stay⟩⟩⟩⟩
    rw [if_pos (by omega)]
    refine WMr.mono (c_S_bestOf (d := d + 8) h hT hk hq1 ho) (fun v τ2 hp2 hq2 => ?_)
    obtain ⟨⟨cf, S2⟩, sr, so2, -⟩ := hq2
    by_cases h6 : so t ≤ 6
    · rw [if_pos h6]
      have ebo : bo T M (some t) = bstO T M t := by unfold bo; simp [h6]
      rw [ebo] at sr so2
      obtain ⟨u, hu⟩ := bstO_some (T := T) (M := M) ho.1 h6
      rw [hu] at sr so2 ⊢
      refine ⟨S2.1.1, fun _ => WMi.mono (c_S_scaleOf S2 hT hk sr.2 sr.1 so2 h3) (fun v3 τ3 hp3 hq3 => ⟨_, rfl, hp2.trans hp3, ?_, ?_⟩), fun c3 => absurd c3 sr.1⟩
      · rw [hq3.1, if_pos (by omega)]; rfl
      · have cf3 := (hq3.2.cf 0 0).mono (Y := cX) (Nat.le_refl _) (Nat.le_refl _) (by decide)
        exact ⟨(cf.tr ((hq3.2.cf 0 0).mono (Y := kX) (Nat.le_refl _) (Nat.le_refl _) (by decide))).mono (by omega) (by omega) (by decide), S2.cf cf3⟩
    · rw [if_neg h6]
      have ebo : bo T M (some t) = none := by unfold bo; simp; omega
      rw [ebo] at sr
      exact ⟨S2.1.1, fun c3 => absurd sr c3, fun _ => ⟨_, rfl, hp2, rfl, cf, S2⟩⟩
theorem c_S_bestText {l s i : Int} (h : CS σ b T M P tp) (hT : okTab T) (hk : okMo T M) (h1 : rI l) (h2 : rI s) (h3 : rI i) : WMi E m_S_bestText (d + 110) [aP 1, aI l, aI s, aI i] σ (fun r τ => r = sp_bestText T M l s i ∧ AskK σ b T M P tp τ) := by
  have hF := h.1.1
  have ho := hk.oOk l s
  have stay : AskK σ b T M P tp σ := ⟨Cf.refl _ _ _ _, h⟩
  refine e_S_bestText _ _ _ hF (WMr.mono (c_S_squareAt h hk h1 h2) (fun r τ _ hq => ?_))
  obtain ⟨hq1, rfl⟩ := hq
  unfold sp_bestText
  cases hs : sqAt M l s with
  | none => rw [hs] at hq1; exact ⟨hF, fun _ => ⟨_, rfl, List.prefix_refl _, rfl, stay⟩, fun c => absurd hq1 c⟩
  | some t =>
    rw [hs] at hq1 ho
    dsimp only
    refine ⟨hF, fun c => absurd c hq1.1, fun _ => ⟨h3, fun c => ?_, fun c => ⟨_, rfl, List.prefix_refl _, by rw [if_neg (by omega)], stay⟩⟩⟩
    rw [if_pos (by omega)]
    refine WMr.mono (c_S_bestOf (d := d + 98) h hT hk hq1 ho) (fun v τ2 hp2 hq2 => ?_)
    obtain ⟨⟨cf, S2⟩, sr, so2, -⟩ := hq2
    by_cases h6 : so t ≤ 6
    · rw [if_pos h6]
      have ebo : bo T M (some t) = bstO T M t := by unfold bo; simp [h6]
      rw [ebo] at sr so2
      obtain ⟨u, hu⟩ := bstO_some (T := T) (M := M) ho.1 h6
      rw [hu] at sr so2 ⊢
      have hc := so2.cc
      refine ⟨S2.1.1, fun _ => WMr.mono (c_S_spelled (d := d + 8) S2.1.1 (sr.2.lo S2.1.2.1) hc.1 (by omega) h3) (fun v3 τ3 hp3 hq3 => ?_), fun c3 => absurd c3 sr.1⟩
      obtain ⟨rfl, f3, w', sp3⟩ := hq3
      have F3 := f3.fix S2.1.1 (by decide)
      refine ⟨sf_31 F3, wmi_p (c_Speller_told F3 sp3 h3) ⟨_, rfl, hp2.trans hp3, by rw [if_neg (by omega)]; rfl, ?_⟩⟩
      have cf3 := (f3.cf 0 0).mono (Y := cX) (Nat.le_refl _) (Nat.le_refl _) (by decide)
      exact ⟨(cf.tr ((f3.cf 0 0).mono (Y := kX) (Nat.le_refl _) (Nat.le_refl _) (by decide))).mono (by omega) (by omega) (by decide), S2.cf cf3⟩
    · rw [if_neg h6]
      have ebo : bo T M (some t) = none := by unfold bo; simp; omega
      rw [ebo] at sr
      exact ⟨S2.1.1, fun c3 => absurd sr c3, fun _ => ⟨_, rfl, hp2, rfl, cf, S2⟩⟩
theorem sqBh_at (M : Mo) (l s : Int) (hs : (sqAt M l s).isSome = true) : sqBh M l s = sqAt M l (s + 1) := by
  unfold sqBh sqAt at *
  cases hl : lnAt M l with
  | none => rfl
  | some L =>
    rw [hl] at hs
    simp only [Option.bind_some] at hs ⊢
    obtain ⟨t, ht⟩ := Option.isSome_iff_exists.mp hs
    have := sqIn_some ht
    rw [if_pos (by omega)]
theorem sqBh_ok {l s : Int} (hk : okMo T M) : oOk T (sqBh M l s) := by
  unfold sqBh
  cases hl : lnAt M l with
  | none => trivial
  | some L =>
    simp only [Option.bind_some]
    split
    · cases hq : sqIn L (s + 1) with
      | none => trivial
      | some t => exact ((hk.ln hl).1.sq hq).1
    · trivial
theorem c_S_joined {l s w : Int} (h : CS σ b T M P tp) (hT : okTab T) (hk : okMo T M) (h1 : rI l) (h2 : rI s) (h3 : rI w) : WMi E m_S_joined (d + 20) [aP 1, aI l, aI s, aI w] σ (fun r τ => r = sp_joined T M l s w ∧ Cf 2 25 cX σ τ) := by
  have hF := h.1.1
  have ho := hk.oOk l s
  have ho2 := sqBh_ok (l := l) (s := s) hk
  refine e_S_joined _ _ _ hF (WMr.mono (c_S_squareAt h hk h1 h2) (fun r τ _ hq => ?_))
  obtain ⟨hq1, rfl⟩ := hq
  refine ⟨hF, WMr.mono (c_S_squareBehind h hk h1 h2) (fun r2 τ _ hq => ?_)⟩
  obtain ⟨hq2, rfl⟩ := hq
  unfold sp_joined
  cases hs : sqAt M l s with
  | none => rw [hs] at hq1; exact ⟨hF, fun _ => ⟨_, rfl, List.prefix_refl _, rfl, Cf.refl _ _ _ _⟩, fun c => absurd hq1 c⟩
  | some t =>
    have eb := sqBh_at M l s (by rw [hs]; rfl)
    rw [eb] at hq2 ho2
    rw [hs] at hq1 ho
    cases hs2 : sqAt M l (s + 1) with
    | none => rw [hs2] at hq2; exact ⟨hF, fun c => absurd c hq1.1, fun _ => ⟨fun _ => ⟨_, rfl, List.prefix_refl _, rfl, Cf.refl _ _ _ _⟩, fun c => absurd hq2 c⟩⟩
    | some u =>
      rw [hs2] at hq2 ho2
      dsimp only
      refine ⟨hF, fun c => absurd c hq1.1, fun _ => ⟨fun c => absurd c hq2.1, fun _ => ⟨h3, fun c => ⟨_, rfl, List.prefix_refl _, by rw [if_neg (by omega)], Cf.refl _ _ _ _⟩, fun c => ⟨h3, fun c2 => ?_, fun c2 => ⟨_, rfl, List.prefix_refl _, by rw [if_neg (by omega)], Cf.refl _ _ _ _⟩⟩⟩⟩⟩
      rw [if_pos (by omega)]
      refine WMr.mono (c_S_bothJoined (d := d + 15) h hq1 hq2 ho ho2) (fun v τ2 hp2 hq3 => ?_)
      obtain ⟨cf, sr⟩ := hq3
      have S2 := h.cf cf
      by_cases h10 : sg t + sg u ≤ 10
      · have eb2 : bj (some t) (some u) = some (jn t u) := if_pos h10
        rw [eb2] at sr
        rw [if_pos h10]
        have hjk : okS T (jn t u) := ⟨jn_ok ho.1 ho2.1, by rw [jn_sg]; exact h10, by rw [jn_dcp]; have := ho.2.2.1; have := ho2.2.2.1; omega, jn_tok ho.2.2.2 ho2.2.2.2⟩
        refine ⟨S2.1.1, fun _ => WMi.mono (c_S_scaleOf S2 hT hk sr.2 sr.1 hjk h3) (fun v3 τ3 hp3 hq3 => ⟨_, rfl, hp2.trans hp3, ?_, ?_⟩), fun c3 => absurd c3 sr.1⟩
        · rw [hq3.1, if_pos (by omega)]
        · exact (cf.tr ((hq3.2.cf 0 0).mono (Y := cX) (Nat.le_refl _) (Nat.le_refl _) (by decide))).mono (by omega) (by omega) (by decide)
      · have eb2 : bj (some t) (some u) = none := if_neg h10
        rw [eb2] at sr
        rw [if_neg h10]
        exact ⟨S2.1.1, fun c3 => absurd sr c3, fun _ => ⟨_, rfl, hp2, rfl, cf⟩⟩
/-- what arrange answers and leaves -/
def CResK (n m : Nat) (σ : St) (b : Int) (T : Tb) (M : Mo) (P : List Mo) (tp : List Int) (o : Option Mo) (r : Int) (τ : St) : Prop := match o with
  | none => r = 0 ∧ Cf n m kX σ τ ∧ CS τ b T M P tp
  | some M' => r = 1 ∧ Cf n m ((1, 1) :: (1, 3) :: (9, -1) :: kX) σ τ ∧ CS τ b T M' (push P M) tp
theorem c_S_arrange {l s : Int} (h : CS σ b T M P tp) (hT : okTab T) (hk : okMo T M) (hP : P.length ≤ 12) (h1 : rI l) (h2 : rI s) : WMi E m_S_arrange (d + 20) [aP 1, aI l, aI s] σ (CResK 12 200 σ b T M P tp (sp_arrange T M l s)) := by
  have hF := h.1.1
  have ho := hk.oOk l s
  refine e_S_arrange _ _ hF (WMr.mono (c_S_squareAt h hk h1 h2) (fun r τ _ hq => ?_))
  obtain ⟨hq1, rfl⟩ := hq
  refine ⟨hF, WMr.mono (c_S_bestOf (d := d + 8) h hT hk hq1 ho) (fun v τ2 hp2 hq2 => ?_)⟩
  obtain ⟨⟨cf, S2⟩, sr, so2, sx⟩ := hq2
  have cf' : Cf 12 200 kX τ τ2 := cf.mono (by omega) (by omega) (by decide)
  cases hs : sqAt M l s with
  | none =>
    have e : sp_arrange T M l s = none := by
      unfold sp_arrange
      cases hl : lnAt M l with
      | none => rfl
      | some L =>
        have : sqIn L s = none := by unfold sqAt at hs; rw [hl] at hs; exact hs
        simp [this]
    rw [e]
    rw [hs] at hq1
    exact ⟨S2.1.1, fun _ => ⟨_, rfl, hp2, rfl, cf', S2⟩, fun c => absurd hq1 c⟩
  | some t =>
    obtain ⟨L, hl, hsq⟩ := sqAt_some hs
    rw [hs] at hq1 ho sr so2 sx
    refine ⟨S2.1.1, fun c => absurd c hq1.1, fun _ => ?_⟩
    by_cases h6 : so t ≤ 6
    · have ebo : bo T M (some t) = bstO T M t := by unfold bo; simp [h6]
      rw [ebo] at sr so2
      obtain ⟨u, hu⟩ := bstO_some (T := T) (M := M) ho.1 h6
      rw [hu] at sr so2
      have e : sp_arrange T M l s = if rc 0 t = rc 0 u then none else some (setSq M l s L u) := by
        unfold sp_arrange
        rw [hl]
        dsimp only
        rw [hsq]
        dsimp only
        rw [if_pos h6, hu]
      rw [e]
      have ct := ho.cc
      have cu := so2.cc
      have hrc := rc_cC ho.1 so2.1 (by have := ho.2.1; omega) (by have := so2.2.1; omega)
      refine ⟨fun c => absurd c sr.1, fun _ => ⟨sr.2.2.1, wmi_p (c_Sq_isLike sr.2.2 sx.2.2 (by omega) (by omega) (cC_sym cu.1) (cC_sym ct.1)) ⟨S2.1.1, b2i_r _, fun c => ?_, fun c => ?_⟩⟩⟩
      · rw [b2i_0] at c
        rw [if_neg (fun q => c (hrc.mp q).symm)]
        refine WMi.mono (c_S_become (d := d + 15) S2 hk hP h1 h2 hl hsq sr.2) (fun v3 τ3 hp3 hq3 => ?_)
        obtain ⟨rfl, c3, S3⟩ := hq3
        exact ⟨Or.inr rfl, _, rfl, hp2.trans hp3, rfl, ((cf.mono (Nat.le_refl _) (Nat.le_refl _) (by decide)).tr (c3.mono (Y := (1, 1) :: (1, 3) :: (9, -1) :: kX) (Nat.le_refl _) (Nat.le_refl _) (by decide))).mono (by omega) (by omega) (by decide), S3⟩
      · rw [b2i_n0] at c
        rw [if_pos (hrc.mpr c.symm)]
        exact ⟨_, rfl, hp2, rfl, cf', S2⟩
    · have ebo : bo T M (some t) = none := by unfold bo; simp; omega
      rw [ebo] at sr
      have e : sp_arrange T M l s = none := by
        unfold sp_arrange
        rw [hl]
        dsimp only
        rw [hsq]
        dsimp only
        rw [if_neg h6]
      rw [e]
      exact ⟨fun _ => ⟨_, rfl, hp2, rfl, cf', S2⟩, fun c => absurd sr c⟩
end CArr5
