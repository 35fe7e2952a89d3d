/-! what frames are -/
theorem ja_ok {t u : Tr} (h : ok t) (hu : ok u) : ok (ja t u) := by
  induction t with
  | add a b iha ihb => exact ⟨h.1, ihb h.2.1, h.2.2⟩
  | var l => exact ⟨h, hu, rfl⟩
  | pow t l ih => exact ⟨h, hu, rfl⟩
  | mul a b iha ihb => exact ⟨h, hu, rfl⟩
  | _ => exact absurd h (by simp [ok])
theorem ja_sg (t u : Tr) : sg (ja t u) = sg t + sg u := by
  induction t with
  | add a b iha ihb => simp only [ja, sg, ihb]; omega
  | _ => simp [ja, sg]
theorem ja_dcp (t u : Tr) : dcp (ja t u) = max (dcp t) (dcp u) := by
  induction t with
  | add a b iha ihb => simp only [ja, dcp, ihb]; omega
  | _ => simp [ja, dcp]
theorem ja_tok {T : Tb} {t u : Tr} (h : tok T t) (hu : tok T u) : tok T (ja t u) := by
  induction t with
  | add a b iha ihb => exact ⟨h.1, ihb h.2⟩
  | _ => exact ⟨h, hu⟩
def okV (T : Tb) (c : Nat) (t : Tr) : Prop := ok t ∧ tok T t ∧ dcp t + c ≤ 3
def oP (P : Tr → Prop) : Option Tr → Prop
  | none => True
  | some t => P t
def osg : Option Tr → Nat
  | none => 0
  | some t => sg t
def okFs (T : Tb) : List Fm2 → Nat → Prop
  | [], s => s = 0
  | f :: fs, s => oP (okV T (crs (f :: fs))) f.2.1 ∧ oP (okV T (crs (f :: fs))) f.2.2 ∧ crs (f :: fs) ≤ 3 ∧ (∀ l, f.1 = some l → l < 26 ∧ 0 < (T l).1 ∧ 0 < (T l).2.2.1) ∧ ∃ s', s = s' + osg f.2.1 + osg f.2.2 + (if f.1.isSome then 1 else 0) ∧ okFs T fs s'
theorem jo_jn {T : Tb} {c : Nat} {o : Option Tr} {t : Tr} (h : oP (okV T c) o) (ht : okV T c t) : okV T c (jo jn o t) ∧ sg (jo jn o t) = osg o + sg t := by
  cases o with
  | none => exact ⟨ht, by simp [jo, osg]⟩
  | some a => exact ⟨⟨jn_ok h.1 ht.1, jn_tok h.2.1 ht.2.1, by show dcp (jn a t) + c ≤ 3; rw [jn_dcp]; have := h.2.2; have := ht.2.2; omega⟩, jn_sg a t⟩
theorem jo_ja {T : Tb} {c : Nat} {o : Option Tr} {t : Tr} (h : oP (okV T c) o) (ht : okV T c t) : okV T c (jo ja o t) ∧ sg (jo ja o t) = osg o + sg t := by
  cases o with
  | none => exact ⟨ht, by simp [jo, osg]⟩
  | some a => exact ⟨⟨ja_ok h.1 ht.1, ja_tok h.2.1 ht.2.1, by show dcp (ja a t) + c ≤ 3; rw [ja_dcp]; have := h.2.2; have := ht.2.2; omega⟩, ja_sg a t⟩
theorem okFs_end {T : Tb} {tp : List Int} : ∀ {fs : List Fm2} {t : Tr} {p s : Nat}, fs ≠ [] → okFs T fs s → okV T (crs fs) t → (∀ gs p', endP tp fs t p = .ok (.inl (gs, p')) → okFs T gs (s + sg t) ∧ gs ≠ [] ∧ gs.length ≤ fs.length) ∧ (∀ u p', endP tp fs t p = .ok (.inr (u, p')) → okV T 0 u ∧ sg u ≤ s + sg t)
  | [], t, p, s, hne, h, ht => absurd rfl hne
  | f :: fs, t, p, s, hne, h, ht => by
    obtain ⟨h1, h2, h3, h4, s', h5, h6⟩ := h
    obtain ⟨a1, a2⟩ := jo_jn h2 ht
    obtain ⟨b1, b2⟩ := jo_ja h1 a1
    have hcr : ∀ R P : Option Tr, crs ((f.1, R, P) :: fs) = crs (f :: fs) := fun R P => rfl
    simp only [endP]
    by_cases c1 : byt tp (nbk tp p) = 42
    · rw [if_pos c1]
      refine ⟨fun gs p' he => ?_, fun u p' he => by simp at he⟩
      simp only [Except.ok.injEq, Sum.inl.injEq, Prod.mk.injEq] at he
      obtain ⟨rfl, rfl⟩ := he
      exact ⟨⟨h1, a1, h3, h4, s', by show s + sg t = s' + osg f.2.1 + sg (jo jn f.2.2 t) + (if f.1.isSome then 1 else 0); rw [a2, h5]; omega, h6⟩, by simp, by simp⟩
    · rw [if_neg c1]
      by_cases c2 : byt tp (nbk tp p) = 58
      · rw [if_pos c2]
        refine ⟨fun gs p' he => ?_, fun u p' he => by simp at he⟩
        simp only [Except.ok.injEq, Sum.inl.injEq, Prod.mk.injEq] at he
        obtain ⟨rfl, rfl⟩ := he
        exact ⟨⟨b1, trivial, h3, h4, s', by show s + sg t = s' + sg (jo ja f.2.1 (jo jn f.2.2 t)) + 0 + (if f.1.isSome then 1 else 0); rw [b2, a2, h5]; omega, h6⟩, by simp, by simp⟩
      · rw [if_neg c2]
        by_cases c3 : fs.length = 0
        · rw [if_pos c3]
          refine ⟨fun gs p' he => by simp at he, fun u p' he => ?_⟩
          simp only [Except.ok.injEq, Sum.inr.injEq, Prod.mk.injEq] at he
          obtain ⟨rfl, rfl⟩ := he
          exact ⟨⟨b1.1, b1.2.1, by have := b1.2.2; omega⟩, by rw [b2, a2]; omega⟩
        · rw [if_neg c3]
          have hfs : fs ≠ [] := fun q => c3 (by rw [q]; rfl)
          cases hf : f.1 with
          | none =>
            dsimp only
            have e0 : crs (f :: fs) = crs fs := by simp [crs, hf]
            rw [e0] at b1
            by_cases c4 : byt tp (nbk tp p) = 41
            · rw [if_pos c4]
              have ih := okFs_end (T := T) (tp := tp) (p := nbk tp p + 1) hfs h6 b1
              have e1 : s + sg t = s' + sg (jo ja f.2.1 (jo jn f.2.2 t)) := by rw [b2, a2, h5, hf]; simp; omega
              rw [e1]
              exact ⟨fun gs p' he => by have := ih.1 gs p' he; exact ⟨this.1, this.2.1, by have := this.2.2; simp; omega⟩, ih.2⟩
            · rw [if_neg c4]
              exact ⟨fun gs p' he => by simp at he, fun u p' he => by simp at he⟩
          | some l =>
            dsimp only
            have e0 : crs (f :: fs) = 1 + crs fs := by simp [crs, hf]
            rw [e0] at b1
            by_cases c4 : byt tp (nbk tp p) = 62
            · rw [if_pos c4]
              have hl := h4 l hf
              have hv : okV T (crs fs) (.pow (jo ja f.2.1 (jo jn f.2.2 t)) l) := ⟨⟨b1.1, hl.1⟩, ⟨⟨hl.2.1, hl.2.2⟩, b1.2.1⟩, by have := b1.2.2; show dcp _ + 1 + crs fs ≤ 3; omega⟩
              have ih := okFs_end (T := T) (tp := tp) (p := nbk tp p + 1) hfs h6 hv
              have e1 : s + sg t = s' + sg (.pow (jo ja f.2.1 (jo jn f.2.2 t)) l) := by show s + sg t = s' + (sg _ + 1); rw [b2, a2, h5, hf]; simp; omega
              rw [e1]
              exact ⟨fun gs p' he => by have := ih.1 gs p' he; exact ⟨this.1, this.2.1, by have := this.2.2; simp; omega⟩, ih.2⟩
            · rw [if_neg c4]
              exact ⟨fun gs p' he => by simp at he, fun u p' he => by simp at he⟩
theorem endP_pos {tp : List Int} : ∀ {fs : List Fm2} {t : Tr} {p : Nat}, p ≤ tp.length → (∀ gs p', endP tp fs t p = .ok (.inl (gs, p')) → p < p' ∧ p' ≤ tp.length) ∧ (∀ u p', endP tp fs t p = .ok (.inr (u, p')) → p ≤ p' ∧ p' ≤ tp.length)
  | [], t, p, hp => ⟨fun gs p' he => by simp [endP] at he, fun u p' he => by simp only [endP, Except.ok.injEq, Sum.inr.injEq, Prod.mk.injEq] at he; omega⟩
  | f :: fs, t, p, hp => by
    have hb := nbk_b hp
    have hlt : ∀ c : Int, 0 ≤ c → byt tp (nbk tp p) = c → nbk tp p < tp.length := fun c hc q => Nat.not_le.mp (fun q2 => by unfold byt at q; rw [if_neg (by omega)] at q; omega)
    simp only [endP]
    by_cases c1 : byt tp (nbk tp p) = 42
    · have := hlt 42 (by decide) c1
      rw [if_pos c1]
      refine ⟨fun gs p' he => ?_, fun u p' he => by simp at he⟩
      simp only [Except.ok.injEq, Sum.inl.injEq, Prod.mk.injEq] at he
      omega
    · rw [if_neg c1]
      by_cases c2 : byt tp (nbk tp p) = 58
      · have := hlt 58 (by decide) c2
        rw [if_pos c2]
        refine ⟨fun gs p' he => ?_, fun u p' he => by simp at he⟩
        simp only [Except.ok.injEq, Sum.inl.injEq, Prod.mk.injEq] at he
        omega
      · rw [if_neg c2]
        by_cases c3 : fs.length = 0
        · rw [if_pos c3]
          refine ⟨fun gs p' he => by simp at he, fun u p' he => ?_⟩
          simp only [Except.ok.injEq, Sum.inr.injEq, Prod.mk.injEq] at he
          omega
        · rw [if_neg c3]
          cases hf : f.1 with
          | none =>
            dsimp only
            by_cases c4 : byt tp (nbk tp p) = 41
            · have := hlt 41 (by decide) c4
              rw [if_pos c4]
              have ih := endP_pos (tp := tp) (fs := fs) (t := jo ja f.2.1 (jo jn f.2.2 t)) (p := nbk tp p + 1) (by omega)
              exact ⟨fun gs p' he => by have := ih.1 gs p' he; omega, fun u p' he => by have := ih.2 u p' he; omega⟩
            · rw [if_neg c4]
              exact ⟨fun gs p' he => by simp at he, fun u p' he => by simp at he⟩
          | some l =>
            dsimp only
            by_cases c4 : byt tp (nbk tp p) = 62
            · have := hlt 62 (by decide) c4
              rw [if_pos c4]
              have ih := endP_pos (tp := tp) (fs := fs) (t := .pow (jo ja f.2.1 (jo jn f.2.2 t)) l) (p := nbk tp p + 1) (by omega)
              exact ⟨fun gs p' he => by have := ih.1 gs p' he; omega, fun u p' he => by have := ih.2 u p' he; omega⟩
            · rw [if_neg c4]
              exact ⟨fun gs p' he => by simp at he, fun u p' he => by simp at he⟩
/-- the reference's rows of frames -/
def FSk (σ : St) : Nat → List Fm2 → Prop
  | _, [] => True
  | hi, f :: fs => ∃ base A r : Nat, (base ≤ A ∧ A < r ∧ r < hi) ∧ (σ.1 89 fs.length = A ∧ σ.1 90 fs.length = r) ∧ RowN σ 2 A r f.2.1 ∧ RowN σ 1 r hi f.2.2 ∧ (match f.1 with
      | none => σ.1 91 fs.length = -1 ∧ base = A
      | some l => σ.1 91 fs.length = base ∧ base + 1 = A ∧ σ.1 82 base = 0 ∧ σ.1 83 base = l) ∧ FSk σ base fs
theorem FSk.keep {σ τ : St} : ∀ {hi : Nat} {fs : List Fm2}, FSk σ hi fs → (∀ j : Nat, j < hi → A7 σ τ j) → (∀ i : Nat, i < fs.length → τ.1 89 i = σ.1 89 i ∧ τ.1 90 i = σ.1 90 i ∧ τ.1 91 i = σ.1 91 i) → FSk τ hi fs
  | hi, [], h, _, _ => trivial
  | hi, f :: fs, h, ha, hr => by
    obtain ⟨base, A, r, h1, h2, h3, h4, h5, h6⟩ := h
    obtain ⟨r1, r2, r3⟩ := hr fs.length (by simp)
    refine ⟨base, A, r, h1, ⟨r1.trans h2.1, r2.trans h2.2⟩, h3.a7 h1.2.1 (fun j a b => ha j (by omega)), h4.a7 h1.2.2 (fun j a b => ha j b), ?_, FSk.keep h6 (fun j hj => ha j (by omega)) (fun i hi2 => hr i (by simp; omega))⟩
    cases hf : f.1 with
    | none => rw [hf] at h5; exact ⟨r3.trans h5.1, h5.2⟩
    | some l =>
      rw [hf] at h5
      obtain ⟨⟨a1, a2, -⟩, -⟩ := ha base (by omega)
      exact ⟨r3.trans h5.1, h5.2.1, a1.trans h5.2.2.1, a2.trans h5.2.2.2⟩
theorem FSk.up {σ : St} {hi hi' : Nat} {fs : List Fm2} (h : FSk σ hi fs) (hh : hi ≤ hi') : FSk σ hi' fs := by
  cases fs with
  | nil => trivial
  | cons f fs =>
    obtain ⟨base, A, r, h1, h2, h3, h4, h5, h6⟩ := h
    exact ⟨base, A, r, by omega, h2, h3, h4.up hh, h5, h6⟩
section MFrame
variable {E : EV} {d : Nat} {σ : St}
theorem c_M_only {a b c : Int} (ha : rI a) : WMi E m_M_only d [aI a, aI b, aI c] σ (fun r τ => r = (if a = 1 then b else c) ∧ τ = σ) :=
  e_M_only _ _ _ ⟨ha, fun q => ri_p (by rw [if_neg q]), fun q => ri_p (by rw [if_pos q])⟩
theorem c_M_endsRow {i A r hi : Nat} {R : Option Tr} {P : Tr} (hF : Fix σ) (hi8 : i < 8) (ho : σ.1 42 70 = i) (hA : σ.1 89 i = A) (hr : σ.1 90 i = r) (hAr : A < r ∧ r < hi ∧ hi ≤ 200) (h2 : RowN σ 2 A r R) (h1 : RowN σ 1 r hi (some P)) (hm1 : mny 1 P ≤ 1000) (hm2 : ∀ t, R = some t → mny 2 t ≤ 1000) :
    WMv E m_M_endsRow (d + 1) [aP 42] σ (fun τ => Fr apX σ τ ∧ RowN τ 2 A hi (some (jo ja R P)) ∧ ∀ j : Nat, j < A ∨ hi ≤ j → A7 σ τ j) := by
  obtain ⟨v, v1, v2⟩ := only_ND h1 (Or.inl rfl) hAr.2.1
  have hmr : σ.1 88 r = mny 1 P := h1.2.1
  have hmA : rI (σ.1 88 A) := by
    cases R with
    | none => rw [h2.2]; decide
    | some t => have := hm2 t rfl; rw [h2.2.1]; omega
  refine e_M_endsRow hF ?_
  rw [ho, hr, hA]
  refine ⟨by omega, by omega, by omega, by omega, wmi_p (c_M_only (by rw [hmr]; omega)) ?_⟩
  rw [v1]
  have hj : jS 2 = ja := rfl
  have := c_M_appends (E := E) (d := d) hF (Or.inr rfl) h2 hAr.1 hmA v2 (Nat.le_refl _) hAr.2.2
  rw [hj] at this
  exact ⟨hF, WMv.mono this (fun τ hp hq => ⟨rfl, hp, hq⟩)⟩
theorem c_M_endsGroup {i A r hi : Nat} {R : Option Tr} {P : Tr} (hF : Fix σ) (hi8 : i < 8) (ho : σ.1 42 70 = i) (hA : σ.1 89 i = A) (hr : σ.1 90 i = r) (hAr : A < r ∧ r < hi ∧ hi ≤ 200) (h2 : RowN σ 2 A r R) (h1 : RowN σ 1 r hi (some P)) (hm1 : mny 1 P ≤ 1000) (hm2 : ∀ t, R = some t → mny 2 t ≤ 1000) (hm3 : mny 2 (jo ja R P) ≤ 1000) :
    WMi E m_M_endsGroup (d + 2) [aP 42] σ (fun v τ => Fr apX σ τ ∧ (∃ g : Nat, v = g ∧ ND τ 0 A hi g 0 (jo ja R P)) ∧ ∀ j : Nat, j < A ∨ hi ≤ j → A7 σ τ j) := by
  refine e_M_endsGroup hF (WMv.mono (c_M_endsRow hF hi8 ho hA hr hAr h2 h1 hm1 hm2) (fun τ hp hq => ?_))
  obtain ⟨f1, q1, q2⟩ := hq
  have hT := f1.fix hF (by decide)
  obtain ⟨v, v1, v2⟩ := only_ND q1 (Or.inr rfl) (by omega)
  have hmA : τ.1 88 A = mny 2 (jo ja R P) := q1.2.1
  rw [f1.2 42 _ rfl, ho, f1.2 89 _ rfl, hA]
  refine ⟨hT, by omega, by omega, by omega, wmi_p (c_M_only (by rw [hmA]; omega)) ⟨_, rfl, hp, f1, ⟨v, v1, v2⟩, q2⟩⟩
def ogX : List (Int × Int) := (89, -1) :: (90, -1) :: (91, -1) :: (42, 66) :: ndArr
theorem c_M_opensGroup {n : Nat} {ow : Int} {f : Option Nat} {fs : List Fm2} {hi : Nat} (hF : Fix σ) (ho : σ.1 42 70 = fs.length) (hl : fs.length < 8) (hn : σ.1 42 66 = n) (h200 : n + 2 ≤ 200) (hfs : FSk σ hi fs) (hw : match f with | none => ow = -1 ∧ hi ≤ n | some l => ∃ b : Nat, ow = b ∧ b + 1 = n ∧ hi ≤ b ∧ σ.1 82 b = 0 ∧ σ.1 83 b = l) :
    WMv E m_M_opensGroup (d + 1) [aP 42, aI ow] σ (fun τ => Fr ogX σ τ ∧ τ.1 42 66 = n + 2 ∧ FSk τ (n + 2) ((f, none, none) :: fs)) := by
  refine e_M_opensGroup _ hF (WMi.mono (c_M_node hF hn (by omega)) (fun r τ1 p1 q1 => ?_))
  obtain ⟨rfl, f1, n1, ⟨s1, -, m1⟩, ag1⟩ := q1
  have F1 := f1.fix hF (by decide)
  have fw : Fr ogX τ1 (wr τ1 89 (σ.1 42 70) n) := Fr.wr (frO_a (by decide) _)
  have F2 := fw.fix F1 (by decide)
  rw [ho] at fw F2 ⊢
  refine ⟨F1, by omega, WMi.mono (c_M_node (n := n + 1) F2 (by rw [wr_na _ (by decide), n1]; rfl) (by omega)) (fun r τ2 p2 q2 => ?_)⟩
  obtain ⟨rfl, f2, n2, ⟨s2, -, m2⟩, ag2⟩ := q2
  have F3 := f2.fix F2 (by decide)
  have o1 : τ1.1 42 70 = fs.length := (f1.2 _ _ rfl).trans ho
  have o2 : τ2.1 42 70 = fs.length := by rw [f2.2 _ _ rfl, wr_na _ (by decide)]; exact o1
  rw [o1, o2]
  have fw3 : Fr ogX τ2 (wr (wr τ2 90 fs.length ((n + 1 : Nat) : Int)) 91 fs.length ow) := (Fr.wr (frO_a (by decide) _)).tr (Fr.wr (frO_a (by decide) _))
  have fall : Fr ogX σ (wr (wr τ2 90 fs.length ((n + 1 : Nat) : Int)) 91 fs.length ow) := (((f1.mono (by decide)).tr fw).tr (f2.mono (by decide))).tr fw3
  refine ⟨F3, by omega, by omega, rfl, pre_eq fall.1, fall, ?_, ?_⟩
  · rw [wr_na _ (by decide), wr_na _ (by decide), n2]; omega
  · have agw : ∀ j, A7 τ1 (wr τ1 89 fs.length n) j := A7.fr (X := [(89, -1)]) (Fr.wr (frO_a (by decide) _)) (fun j => ⟨rfl, rfl, rfl, rfl, rfl, rfl, rfl⟩)
    have agw2 : ∀ j, A7 τ2 (wr (wr τ2 90 fs.length ((n + 1 : Nat) : Int)) 91 fs.length ow) j := A7.fr (X := [(90, -1), (91, -1)]) ((Fr.wr (frO_a (by decide) _)).tr (Fr.wr (frO_a (by decide) _))) (fun j => ⟨rfl, rfl, rfl, rfl, rfl, rfl, rfl⟩)
    have agA : ∀ j, j < n → A7 σ (wr (wr τ2 90 fs.length ((n + 1 : Nat) : Int)) 91 fs.length ow) j := fun j hj => (((ag1 j (by omega)).tr (agw j)).tr (ag2 j (by omega))).tr (agw2 j)
    have hihi : hi ≤ n := by
      cases f with
      | none => exact hw.2
      | some l => obtain ⟨b, -, b2, b3, -⟩ := hw; omega
    have al : ∀ i : Nat, (wr (wr τ2 90 fs.length ((n + 1 : Nat) : Int)) 91 fs.length ow).1 89 i = (wr τ1 89 fs.length n).1 89 i := fun i => by rw [wr_na _ (by decide), wr_na _ (by decide)]; exact f2.2 _ _ rfl
    have rn : ∀ i : Nat, τ2.1 90 i = σ.1 90 i := fun i => (f2.2 _ _ rfl).trans ((wr_na _ (by decide)).trans (f1.2 _ _ rfl))
    have ow2 : ∀ i : Nat, τ2.1 91 i = σ.1 91 i := fun i => (f2.2 _ _ rfl).trans ((wr_na _ (by decide)).trans (f1.2 _ _ rfl))
    have rest : ∀ b, b ≤ n → hi ≤ b → FSk (wr (wr τ2 90 fs.length ((n + 1 : Nat) : Int)) 91 fs.length ow) b fs := fun b hb hb2 => (hfs.keep (fun j hj => agA j (by omega)) (fun i hi2 => ⟨by rw [al, wr_nk _ (by omega)]; exact f1.2 _ _ rfl, by rw [wr_na _ (by decide), wr_nk _ (by omega)]; exact rn i, by rw [wr_nk _ (by omega), wr_na _ (by decide)]; exact ow2 i⟩)).up hb2
    have e1 : RowN (wr (wr τ2 90 fs.length ((n + 1 : Nat) : Int)) 91 fs.length ow) 2 n (n + 1) none := by
      obtain ⟨⟨a1, -, -, -, -, a6⟩, -⟩ := ((agw n).tr (ag2 n (by omega))).tr (agw2 n)
      exact ⟨a1.trans s1, a6.trans m1⟩
    have e2 : RowN (wr (wr τ2 90 fs.length ((n + 1 : Nat) : Int)) 91 fs.length ow) 1 (n + 1) (n + 2) none := by
      obtain ⟨⟨a1, -, -, -, -, a6⟩, -⟩ := agw2 (n + 1)
      exact ⟨a1.trans s2, a6.trans m2⟩
    have eA : (wr (wr τ2 90 fs.length ((n + 1 : Nat) : Int)) 91 fs.length ow).1 89 fs.length = n := by rw [al, wr_same]
    have eR : (wr (wr τ2 90 fs.length ((n + 1 : Nat) : Int)) 91 fs.length ow).1 90 fs.length = ((n + 1 : Nat) : Int) := by rw [wr_na _ (by decide), wr_same]
    have eO : (wr (wr τ2 90 fs.length ((n + 1 : Nat) : Int)) 91 fs.length ow).1 91 fs.length = ow := wr_same _ _ _ _
    cases f with
    | none => exact ⟨n, n, n + 1, by omega, ⟨eA, eR⟩, e1, e2, ⟨eO.trans hw.1, rfl⟩, rest n (Nat.le_refl _) hihi⟩
    | some l =>
      obtain ⟨b, b1, b2, b3, b4, b5⟩ := hw
      obtain ⟨⟨a1, a2, -⟩, -⟩ := agA b (by omega)
      exact ⟨b, n, n + 1, by omega, ⟨eA, eR⟩, e1, e2, ⟨eO.trans b1, b2, a1.trans b4, a2.trans b5⟩, rest b (by omega) b3⟩
end MFrame
