/-! THE READER: groups; what the class reads is what the machine of frames reads -/
def cont (tp : List Int) (T : Tb) (m : Nat) (fs : List Fm2) (t : Tr) (p s : Nat) : Except Nat (Tr × Nat) := match endP tp fs t p with
  | .error f => .error f
  | .ok (.inl (gs, p2)) => runS tp T m gs p2 s
  | .ok (.inr (u, p2)) => .ok (u, p2)
def rgX : List (Int × Int) := [(12, 6), (12, 11), (14, 1), (15, -1)]
def RI (σ : St) (tp : List Int) (T : Tb) (q s : Nat) (K : List Int) : Prop := (Fix σ ∧ RT σ tp ∧ TabC σ (σ.1 12 7) T) ∧ (σ.1 12 6 = (q : Int) ∧ q ≤ tp.length) ∧ σ.1 12 11 = (s : Int) ∧ DrIs σ 14 15 K
theorem cC_lenw {t : Tr} (h : okw t) : (cC t).length + 1 ≤ 2 * sg t := by
  induction t with
  | var l => simp [cC, sg]
  | pow t l ih => have := ih h.1; simp [cC, sg]; omega
  | mul a b iha ihb => have := iha h.1; have := ihb h.2; simp [cC, sg]; omega
  | add a b iha ihb => have := iha h.1; have := ihb h.2; simp [cC, sg]; omega
  | _ => exact absurd h (by simp [okw])
def pre (y : Int) (L : List Tr) : List Int := L.flatMap (fun t => y :: cC t)
theorem pre_s (y : Int) (L : List Tr) (t : Tr) : pre y (L ++ [t]) = pre y L ++ (y :: cC t) := by simp [pre]
def rwM (L : List Tr) (t : Tr) : Tr := L.foldr (fun a x => .mul a x) t
def rwA (L : List Tr) (t : Tr) : Tr := L.foldr (fun a x => .add a x) t
theorem rwM_c (L : List Tr) (t : Tr) : cC (rwM L t) = pre 64 L ++ cC t := by
  induction L with
  | nil => rfl
  | cons a L ih => simp only [rwM, List.foldr_cons, cC, pre, List.flatMap_cons] at ih ⊢; rw [ih]; simp
theorem rwA_c (L : List Tr) (t : Tr) : cC (rwA L t) = pre 65 L ++ cC t := by
  induction L with
  | nil => rfl
  | cons a L ih => simp only [rwA, List.foldr_cons, cC, pre, List.flatMap_cons] at ih ⊢; rw [ih]; simp
theorem rwM_s (L : List Tr) (t x : Tr) : rwM (L ++ [t]) x = rwM L (.mul t x) := by simp [rwM]
theorem rwA_s (L : List Tr) (t x : Tr) : rwA (L ++ [t]) x = rwA L (.add t x) := by simp [rwA]
def sgl (L : List Tr) : Nat := (L.map sg).sum
theorem sgl_s (L : List Tr) (t : Tr) : sgl (L ++ [t]) = sgl L + sg t := by simp [sgl]
theorem rwM_sg (L : List Tr) (t : Tr) : sg (rwM L t) = sgl L + sg t := by
  induction L with
  | nil => simp [rwM, sgl]
  | cons a L ih => simp only [rwM, List.foldr_cons, sg, sgl, List.map_cons, List.sum_cons] at ih ⊢; rw [ih]; omega
theorem rwA_sg (L : List Tr) (t : Tr) : sg (rwA L t) = sgl L + sg t := by
  induction L with
  | nil => simp [rwA, sgl]
  | cons a L ih => simp only [rwA, List.foldr_cons, sg, sgl, List.map_cons, List.sum_cons] at ih ⊢; rw [ih]; omega
theorem rwM_ok {L : List Tr} {t : Tr} (h : ∀ u ∈ L, okw u) (ht : okw t) : okw (rwM L t) := by
  induction L with
  | nil => exact ht
  | cons a L ih => exact ⟨h a List.mem_cons_self, ih (fun u hu => h u (List.mem_cons_of_mem _ hu))⟩
theorem rwA_ok {L : List Tr} {t : Tr} (h : ∀ u ∈ L, okw u) (ht : okw t) : okw (rwA L t) := by
  induction L with
  | nil => exact ht
  | cons a L ih => exact ⟨h a List.mem_cons_self, ih (fun u hu => h u (List.mem_cons_of_mem _ hu))⟩
theorem RI.fr {σ τ : St} {tp : List Int} {T : Tb} {q q' s s' : Nat} {K K' : List Int} (h : RI σ tp T q s K) (hf : Fr rgX σ τ) (h6 : τ.1 12 6 = (q' : Int)) (hq : q' ≤ tp.length) (h11 : τ.1 12 11 = (s' : Int)) (hd : DrIs τ 14 15 K') : RI τ tp T q' s' K' := by
  obtain ⟨⟨h1, h2, h3⟩, -, -, -⟩ := h
  refine ⟨⟨hf.fix h1 (by decide), h2.keep hf rfl (fun _ => rfl), ?_⟩, ⟨h6, hq⟩, h11, hd⟩
  rw [hf.2 12 7 rfl]
  exact h3.cf (hf.cf 0 0) rfl
theorem DrIs.keep {X : List (Int × Int)} {σ τ : St} {a c : Int} {K : List Int} (h : DrIs σ a c K) (hf : Fr X σ τ) (h0 : frO X a 0 = true) (h1 : frO X a 1 = true) (h2 : ∀ j, frO X c j = true) : DrIs τ a c K := by
  obtain ⟨⟨a1, a2, a3, a4⟩, b1, b2, b3, b4⟩ := h
  have e : sh τ = sh σ := by funext b; unfold sh; rw [hf.1]
  exact ⟨⟨a1, by rw [e]; exact a2, (hf.2 _ _ h0).trans a3, by rw [e]; exact a4⟩, (hf.2 _ _ h1).trans b1, b2.congr (fun i hi => hf.2 _ _ (h2 _)), b3, b4⟩
/-- the reader only went on -/
theorem RI.go {σ τ : St} {tp : List Int} {T : Tb} {q q' s : Nat} {K : List Int} (h : RI σ tp T q s K) (hf : Fr atX σ τ) (h6 : τ.1 12 6 = (q' : Int)) (hq : q' ≤ tp.length) : RI τ tp T q' s K := h.fr (hf.mono (by decide)) h6 hq ((hf.2 _ _ rfl).trans h.2.2.1) (h.2.2.2.keep hf rfl rfl (fun _ => rfl))
theorem nrm_M {Ps : List Tr} {P : Option Tr} (h : ∀ x, nrm (rwM Ps x) = jo jn P (nrm x)) (t x : Tr) : nrm (rwM (Ps ++ [t]) x) = jo jn (some (jo jn P (nrm t))) (nrm x) := by
  rw [rwM_s, h]
  cases P with
  | none => rfl
  | some a => simp only [jo, nrm]; exact (jn_assoc _ _ _).symm
theorem nrm_A {Rs : List Tr} {R : Option Tr} (h : ∀ x, nrm (rwA Rs x) = jo ja R (nrm x)) (t x : Tr) : nrm (rwA (Rs ++ [t]) x) = jo ja (some (jo ja R (nrm t))) (nrm x) := by
  rw [rwA_s, h]
  cases R with
  | none => rfl
  | some a => simp only [jo, nrm]; exact (ja_assoc _ _ _).symm
def PartR (tp : List Int) (T : Tb) (σ : St) (n : Nat) (fs : List Fm2) (p s : Nat) (K : List Int) (r : Int) (τ : St) : Prop := Fr rgX σ τ ∧ ((r = 0 ∧ ∃ f : Nat, runS tp T n fs p s = .error f ∧ τ.1 12 6 = (f : Int)) ∨ (r = 1 ∧ ∃ (t : Tr) (p1 q m : Nat), (okw t ∧ tok T t ∧ s + sg t ≤ 10) ∧ RI τ tp T q (s + sg t) (K ++ cC t) ∧ (nbk tp q = nbk tp p1 ∧ p1 ≤ tp.length ∧ p < p1) ∧ tp.length + 1 ≤ m + p1 ∧ runS tp T n fs p s = cont tp T m fs (nrm t) p1 (s + sg t)))
def GroupR (tp : List Int) (T : Tb) (σ : St) (n : Nat) (w : Option Nat) (fs : List Fm2) (p s : Nat) (K : List Int) (r : Int) (τ : St) : Prop := Fr rgX σ τ ∧ ((r = 0 ∧ ∃ f : Nat, runS tp T n ((w, none, none) :: fs) p s = .error f ∧ τ.1 12 6 = (f : Int)) ∨ (r = 1 ∧ ∃ (g t : Tr) (R P : Option Tr) (p1 q m : Nat), (okw g ∧ tok T g ∧ s + sg g ≤ 10) ∧ RI τ tp T q (s + sg g) (K ++ cC g) ∧ (nbk tp q = nbk tp p1 ∧ p1 ≤ tp.length ∧ p < p1) ∧ tp.length + 1 ≤ m + p1 ∧ runS tp T n ((w, none, none) :: fs) p s = cont tp T m ((w, R, P) :: fs) t p1 (s + sg g) ∧ nrm g = jo ja R (jo jn P t) ∧ byt tp (nbk tp p1) ≠ 42 ∧ byt tp (nbk tp p1) ≠ 58))
def PartC (E : EV) (tp : List Int) (T : Tb) (N : Nat) : Prop := ∀ (D n : Nat) (fs : List Fm2) (p q s : Nat) (K : List Int) (σ : St) (x y : Int), tp.length ≤ p + N → (1 ≤ fs.length ∧ fs.length ≤ 7) → x = (fs.length : Int) - 1 → y = (crs fs : Int) → crs fs ≤ 3 → 6 + 2 * (7 - fs.length) ≤ D → RI σ tp T q s K → nbk tp q = nbk tp p → p ≤ tp.length → tp.length + 1 ≤ n + p → s ≤ 10 → K.length ≤ 2 * s → WMi E m_Reader_readPart D [aP 12, aI x, aI y] σ (PartR tp T σ n fs p s K)
def GroupC (E : EV) (tp : List Int) (T : Tb) (N : Nat) : Prop := ∀ (D n : Nat) (w : Option Nat) (fs : List Fm2) (p q s : Nat) (K : List Int) (σ : St) (x y : Int), tp.length ≤ p + N → fs.length ≤ 6 → x = (fs.length : Int) → y = (crs ((w, none, none) :: fs) : Int) → crs ((w, none, none) :: fs) ≤ 3 → 7 + 2 * (6 - fs.length) ≤ D → RI σ tp T q s K → nbk tp q = nbk tp p → p ≤ tp.length → tp.length + 1 ≤ n + p → s ≤ 10 → K.length ≤ 2 * s → WMi E m_Reader_readGroup D [aP 12, aI x, aI y] σ (GroupR tp T σ n w fs p s K)
section CRGroup
variable {E : EV} {d : Nat} {tp : List Int} {T : Tb}
theorem tok_rwM {L : List Tr} {t : Tr} (h : ∀ u ∈ L, tok T u) (ht : tok T t) : tok T (rwM L t) := by
  induction L with
  | nil => exact ht
  | cons a L ih => exact ⟨h a List.mem_cons_self, ih (fun u hu => h u (List.mem_cons_of_mem _ hu))⟩
theorem tok_rwA {L : List Tr} {t : Tr} (h : ∀ u ∈ L, tok T u) (ht : tok T t) : tok T (rwA L t) := by
  induction L with
  | nil => exact ht
  | cons a L ih => exact ⟨h a List.mem_cons_self, ih (fun u hu => h u (List.mem_cons_of_mem _ hu))⟩
theorem sg_posw {t : Tr} (h : okw t) : 1 ≤ sg t := by have := cC_lenw h; omega
theorem c_group {N : Nat} (hP : PartC E tp T N) : GroupC E tp T N := by
  intro D n w fs p q s K σ x y hN hfs hx hy hcr hD hI hnb hp hn hs hK
  obtain ⟨D2, rfl⟩ : ∃ D2, D = D2 + 6 := ⟨D - 6, by omega⟩
  have hF := hI.1.1
  have hd1 := hI.2.2.2.2.1
  subst hx; subst hy
  refine e_Reader_readGroup _ _ hF ?_
  rw [hd1]
  have key : ∀ z : Nat × Nat × Nat × Nat × (List Tr × List Tr) × (Option Tr × Option Tr) × St, (((p ≤ z.1 ∧ z.1 ≤ tp.length) ∧ nbk tp z.2.1 = nbk tp z.1 ∧ tp.length + 1 ≤ z.2.2.1 + z.1) ∧ (z.2.2.2.1 ≤ s + sgl z.2.2.2.2.1.1 + sgl z.2.2.2.2.1.2 ∧ s + sgl z.2.2.2.2.1.1 + sgl z.2.2.2.2.1.2 ≤ 10) ∧ ((∀ u ∈ z.2.2.2.2.1.1, okw u ∧ tok T u) ∧ ∀ u ∈ z.2.2.2.2.1.2, okw u ∧ tok T u) ∧ ((∀ x, nrm (rwA z.2.2.2.2.1.1 x) = jo ja z.2.2.2.2.2.1.1 (nrm x)) ∧ ∀ x, nrm (rwM z.2.2.2.2.1.2 x) = jo jn z.2.2.2.2.2.1.2 (nrm x)) ∧ Fr rgX σ z.2.2.2.2.2.2 ∧ RI z.2.2.2.2.2.2 tp T z.2.1 (s + sgl z.2.2.2.2.1.1 + sgl z.2.2.2.2.1.2) (K ++ (pre 65 z.2.2.2.2.1.1 ++ pre 64 z.2.2.2.2.1.2)) ∧ (K ++ (pre 65 z.2.2.2.2.1.1 ++ pre 64 z.2.2.2.2.1.2)).length ≤ 2 * (s + sgl z.2.2.2.2.1.1 + sgl z.2.2.2.2.1.2) ∧ runS tp T n ((w, none, none) :: fs) p s = runS tp T z.2.2.1 ((w, z.2.2.2.2.2.1.1, z.2.2.2.2.2.1.2) :: fs) z.1 (s + sgl z.2.2.2.2.1.1 + sgl z.2.2.2.2.1.2)) → WP E m_Reader_readGroup (D2 + 6) 14 [(0, aP 12), (1, aI fs.length), (2, aI (crs ((w, none, none) :: fs))), (3, aI ((K ++ pre 65 z.2.2.2.2.1.1).length : Nat)), (4, aI ((K ++ (pre 65 z.2.2.2.2.1.1 ++ pre 64 z.2.2.2.2.1.2)).length : Nat)), (5, aI z.2.2.2.1)] [] z.2.2.2.2.2.2 (fun r τ => ∃ v, r = some (aI v) ∧ σ.2 <+: τ.2 ∧ GroupR tp T σ n w fs p s K v τ) := by
    refine lpx (fun z => tp.length - z.1) _ _ (fun z hI ih => ?_)
    obtain ⟨p0, q0, m0, c0, ⟨Rs, Ps⟩, ⟨R, P⟩, τ⟩ := z
    obtain ⟨⟨i1, i2, i3⟩, i4, ⟨i5, i5'⟩, ⟨i6, i6'⟩, i7, i8, i9, i10⟩ := hI
    simp only at i1 i2 i3 i4 i5 i5' i6 i6' i7 i8 i9 i10 ih ⊢
    have hT := i8.1.1
    have hcr2 : crs ((w, R, P) :: fs) = crs ((w, none, none) :: fs) := rfl
    refine b_Reader_readGroup_14 _ _ _ _ _ hT ⟨by omega, fun c => by omega, fun _ => ?_⟩
    refine WMi.mono (hP (D2 + 5) m0 ((w, R, P) :: fs) p0 q0 _ _ τ _ _ (by omega) (by simp only [List.length_cons]; omega) (by simp only [List.length_cons]; omega) (by rw [hcr2]) (by rw [hcr2]; exact hcr) (by simp only [List.length_cons]; omega) i8 i2 i1.2 i3 i4.2 i9) (fun r τ2 hp2 hq2 => ?_)
    obtain ⟨f2, hr⟩ := hq2
    have F2 := f2.fix hT (by decide)
    have f02 := i7.tr f2
    rcases hr with ⟨rfl, f, e1, e2⟩ | ⟨rfl, t, p1, q1, m1, ⟨t1, t2, t3⟩, r1, ⟨k1, k2, k3⟩, k4, k5⟩
    · exact ⟨F2, by decide, fun q => absurd rfl q, fun _ => ⟨_, rfl, pre_eq f02.1, f02, Or.inl ⟨rfl, f, by rw [i10, e1], e2⟩⟩⟩
    · have hql := r1.2.1.2
      have hnq := nbk_b hql
      have hnp := nbk_b k2
      have tl := cC_lenw t1
      have tp1 := sg_posw t1
      refine ⟨F2, by decide, fun _ => ?_, fun q => absurd q (by decide)⟩
      refine WMi.mono (c_Reader_takeMark (d := D2 + 3) F2 r1.1.2.1 r1.2.1.1 hql (by decide)) (fun v3 τ3 hp3 hq3 => ?_)
      obtain ⟨rfl, f3, e3⟩ := hq3
      have F3 := f3.fix F2 (by decide)
      have f03 := f02.tr (f3.mono (by decide))
      refine ⟨F3, b2i_r _, fun c => ?_, fun c => ?_⟩
      · rw [b2i_0] at c
        rw [if_neg c] at e3
        have r3 := r1.go f3 (q' := nbk tp q1) e3 hnq.2
        refine WMi.mono (c_Reader_takeMark (d := D2 + 3) F3 r3.1.2.1 r3.2.1.1 hnq.2 (by decide)) (fun v4 τ4 hp4 hq4 => ?_)
        rw [nbk_i hql] at hq4
        obtain ⟨rfl, f4, e4⟩ := hq4
        have F4 := f4.fix F3 (by decide)
        have f04 := f03.tr (f4.mono (by decide))
        refine ⟨F4, b2i_r _, fun c2 => ?_, fun c2 => ?_⟩
        · -- the group ends
          rw [b2i_0] at c2
          rw [if_neg c2] at e4
          have r4 := r3.go f4 (q' := nbk tp q1) e4 hnq.2
          have esg : sg (rwA Rs (rwM Ps t)) = sgl Rs + sgl Ps + sg t := by rw [rwA_sg, rwM_sg]; omega
          refine ⟨_, rfl, pre_eq f04.1, f04, Or.inr ⟨rfl, rwA Rs (rwM Ps t), nrm t, R, P, p1, nbk tp q1, m1, ⟨rwA_ok (fun u hu => (i5 u hu).1) (rwM_ok (fun u hu => (i5' u hu).1) t1), tok_rwA (fun u hu => (i5 u hu).2) (tok_rwM (fun u hu => (i5' u hu).2) t2), by omega⟩, ?_, ⟨by rw [nbk_i hql]; exact k1, k2, by omega⟩, k4, ?_, ?_, by rw [← k1]; exact c, by rw [← k1]; exact c2⟩⟩
          · rw [esg, rwA_c, rwM_c, show s + (sgl Rs + sgl Ps + sg t) = s + sgl Rs + sgl Ps + sg t by omega]
            simp only [List.append_assoc] at r4 ⊢
            exact r4
          · rw [i10, k5, esg, show s + (sgl Rs + sgl Ps + sg t) = s + sgl Rs + sgl Ps + sg t by omega]
          · rw [i6, i6']
        · -- a row more
          rw [b2i_n0] at c2
          rw [if_pos c2] at e4
          have hlt : nbk tp q1 < tp.length := by
            apply Nat.lt_of_not_le
            intro hh
            have : byt tp (nbk tp q1) = -1 := by unfold byt; rw [if_neg (by omega)]
            omega
          have r4 := r3.go f4 (q' := nbk tp q1 + 1) e4 (by omega)
          have hdr : DrIs τ4 14 15 ((K ++ pre 65 Rs) ++ (pre 64 Ps ++ cC t)) := by
            have := r4.2.2.2
            simp only [List.append_assoc] at this ⊢
            exact this
          have hlen : ((K ++ pre 65 Rs) ++ (pre 64 Ps ++ cC t)).length < 24 := by
            simp only [List.length_append] at i9 ⊢
            omega
          refine WMv.mono (c_Draft_putAhead (x := 65) hdr rfl hlen (by decide)) (fun τ5 hp5 hq5 => ?_)
          have F5 := hq5.1.fix F4 (by decide)
          have f05 := f04.tr (hq5.1.mono (by decide))
          have hd5 : DrIs τ5 14 15 (K ++ (pre 65 (Rs ++ [rwM Ps t]) ++ pre 64 [])) := by
            have := hq5.2
            rw [pre_s, rwM_c, show pre 64 [] = ([] : List Int) by rfl]
            simp only [List.append_assoc, List.append_nil, List.cons_append] at this ⊢
            exact this
          have r5 := r4.fr (hq5.1.mono (by decide)) (q' := nbk tp q1 + 1) ((hq5.1.2 _ _ rfl).trans r4.2.1.1) (by omega) ((hq5.1.2 _ _ rfl).trans r4.2.2.1) hd5
          refine ⟨F5, b_Reader_readGroup_87 _ _ _ _ F5 ?_⟩
          rw [r5.2.2.2.2.1]
          have esg : s + sgl Rs + sgl Ps + sg t = s + sgl (Rs ++ [rwM Ps t]) + sgl [] := by rw [sgl_s, rwM_sg]; simp [sgl]; omega
          have h9 := ih (nbk tp p1 + 1, nbk tp q1 + 1, m1, c0 + 1, (Rs ++ [rwM Ps t], []), (some (jo ja R (jo jn P (nrm t))), none), τ5) (by show tp.length - (nbk tp p1 + 1) < tp.length - p0; omega) ⟨⟨by show p ≤ nbk tp p1 + 1 ∧ nbk tp p1 + 1 ≤ tp.length; rw [← k1]; omega, by show nbk tp (nbk tp q1 + 1) = nbk tp (nbk tp p1 + 1); rw [k1], by show tp.length + 1 ≤ m1 + (nbk tp p1 + 1); omega⟩, by show c0 + 1 ≤ s + sgl (Rs ++ [rwM Ps t]) + sgl [] ∧ s + sgl (Rs ++ [rwM Ps t]) + sgl [] ≤ 10; rw [← esg]; omega, ⟨fun u hu => by
              rcases List.mem_append.mp hu with hu | hu
              · exact i5 u hu
              · rw [List.mem_singleton] at hu; rw [hu]; exact ⟨rwM_ok (fun u hu => (i5' u hu).1) t1, tok_rwM (fun u hu => (i5' u hu).2) t2⟩, fun u hu => by simp at hu⟩, ⟨fun x => by
              show nrm (rwA (Rs ++ [rwM Ps t]) x) = jo ja (some (jo ja R (jo jn P (nrm t)))) (nrm x)
              rw [nrm_A i6, i6'], fun x => rfl⟩, f05, by
              show RI τ5 tp T (nbk tp q1 + 1) (s + sgl (Rs ++ [rwM Ps t]) + sgl []) (K ++ (pre 65 (Rs ++ [rwM Ps t]) ++ pre 64 []))
              rw [← esg]; exact r5, by
              show (K ++ (pre 65 (Rs ++ [rwM Ps t]) ++ pre 64 [])).length ≤ 2 * (s + sgl (Rs ++ [rwM Ps t]) + sgl [])
              rw [← esg, pre_s, rwM_c, show pre 64 [] = ([] : List Int) by rfl]
              simp only [List.length_append, List.length_cons, List.length_nil] at i9 ⊢
              omega, by
              show runS tp T n ((w, none, none) :: fs) p s = runS tp T m1 ((w, some (jo ja R (jo jn P (nrm t))), none) :: fs) (nbk tp p1 + 1) (s + sgl (Rs ++ [rwM Ps t]) + sgl [])
              rw [i10, k5, ← esg]
              unfold cont
              rw [endP, if_neg (by rw [← k1]; exact c), if_pos (by rw [← k1]; exact c2)]⟩
          simp only at h9
          rw [show pre 64 [] = ([] : List Int) by rfl, List.append_nil] at h9
          rw [show pre 64 [] = ([] : List Int) by rfl, List.append_nil, show (c0 : Int) + 1 = ((c0 + 1 : Nat) : Int) by omega]
          exact h9
      · -- a part more
        rw [b2i_n0] at c
        rw [if_pos c] at e3
        have hlt : nbk tp q1 < tp.length := by
          apply Nat.lt_of_not_le
          intro hh
          have : byt tp (nbk tp q1) = -1 := by unfold byt; rw [if_neg (by omega)]
          omega
        have r3 := r1.go f3 (q' := nbk tp q1 + 1) e3 (by omega)
        have hlen : ((K ++ (pre 65 Rs ++ pre 64 Ps)) ++ cC t).length < 24 := by
          simp only [List.length_append] at i9 ⊢
          omega
        refine WMv.mono (c_Draft_putAhead (x := 64) r3.2.2.2 rfl hlen (by decide)) (fun τ5 hp5 hq5 => ?_)
        have F5 := hq5.1.fix F3 (by decide)
        have f05 := f03.tr (hq5.1.mono (by decide))
        have hd5 : DrIs τ5 14 15 (K ++ (pre 65 Rs ++ pre 64 (Ps ++ [t]))) := by
          have := hq5.2
          rw [pre_s]
          simp only [List.append_assoc] at this ⊢
          exact this
        have r5 := r3.fr (hq5.1.mono (by decide)) (q' := nbk tp q1 + 1) ((hq5.1.2 _ _ rfl).trans r3.2.1.1) (by omega) ((hq5.1.2 _ _ rfl).trans r3.2.2.1) hd5
        refine b_Reader_readGroup_87 _ _ _ _ F5 ?_
        rw [r5.2.2.2.2.1]
        have esg : s + sgl Rs + sgl Ps + sg t = s + sgl Rs + sgl (Ps ++ [t]) := by rw [sgl_s]; omega
        have h9 := ih (nbk tp p1 + 1, nbk tp q1 + 1, m1, c0 + 1, (Rs, Ps ++ [t]), (R, some (jo jn P (nrm t))), τ5) (by show tp.length - (nbk tp p1 + 1) < tp.length - p0; omega) ⟨⟨by show p ≤ nbk tp p1 + 1 ∧ nbk tp p1 + 1 ≤ tp.length; rw [← k1]; omega, by show nbk tp (nbk tp q1 + 1) = nbk tp (nbk tp p1 + 1); rw [k1], by show tp.length + 1 ≤ m1 + (nbk tp p1 + 1); omega⟩, by show c0 + 1 ≤ s + sgl Rs + sgl (Ps ++ [t]) ∧ s + sgl Rs + sgl (Ps ++ [t]) ≤ 10; rw [← esg]; omega, ⟨i5, fun u hu => by
            rcases List.mem_append.mp hu with hu | hu
            · exact i5' u hu
            · rw [List.mem_singleton] at hu; rw [hu]; exact ⟨t1, t2⟩⟩, ⟨i6, fun x => nrm_M i6' t x⟩, f05, by
            show RI τ5 tp T (nbk tp q1 + 1) (s + sgl Rs + sgl (Ps ++ [t])) (K ++ (pre 65 Rs ++ pre 64 (Ps ++ [t])))
            rw [← esg]; exact r5, by
            show (K ++ (pre 65 Rs ++ pre 64 (Ps ++ [t]))).length ≤ 2 * (s + sgl Rs + sgl (Ps ++ [t]))
            rw [← esg, pre_s]
            simp only [List.length_append, List.length_cons] at i9 ⊢
            omega, by
            show runS tp T n ((w, none, none) :: fs) p s = runS tp T m1 ((w, R, some (jo jn P (nrm t))) :: fs) (nbk tp p1 + 1) (s + sgl Rs + sgl (Ps ++ [t]))
            rw [i10, k5, ← esg]
            unfold cont
            rw [endP, if_pos (by rw [← k1]; exact c)]⟩
        simp only at h9
        rw [show (c0 : Int) + 1 = ((c0 + 1 : Nat) : Int) by omega]
        exact h9
  have h9 := key (p, q, n, 0, ([], []), (none, none), σ) ⟨⟨⟨Nat.le_refl _, hp⟩, hnb, hn⟩, by show 0 ≤ s + sgl [] + sgl [] ∧ s + sgl [] + sgl [] ≤ 10; simp [sgl]; omega, ⟨fun u hu => by simp at hu, fun u hu => by simp at hu⟩, ⟨fun x => rfl, fun x => rfl⟩, Fr.refl _ _, by
    show RI σ tp T q (s + sgl [] + sgl []) (K ++ (pre 65 [] ++ pre 64 []))
    simpa [sgl, pre] using hI, by
    show (K ++ (pre 65 [] ++ pre 64 [])).length ≤ 2 * (s + sgl [] + sgl [])
    simpa [sgl, pre] using hK, by
    show runS tp T n ((w, none, none) :: fs) p s = runS tp T n ((w, none, none) :: fs) p (s + sgl [] + sgl [])
    simp [sgl]⟩
  simp only [pre, List.flatMap_nil, List.append_nil] at h9
  exact h9
end CRGroup
