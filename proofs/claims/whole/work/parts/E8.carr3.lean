/-! THE ARRANGER: the best form, its code, the search -/
def vs (n : Nat) : List Tr := (List.range n).map (fun i => (.var i : Tr))
theorem vs_s (n : Nat) : vs (n + 1) = vs n ++ [.var n] := by simp [vs, List.range_succ]
theorem vs_l (n : Nat) : (vs n).length = n := by simp [vs]
def cN : Nat → Nat
  | 1 => 1
  | 2 => 2
  | 3 => 6
  | 4 => 22
  | 5 => 90
  | 6 => 394
  | _ => 0
def cT (S : Nat) : Nat → Nat
  | 0 => 0
  | n + 1 => cT S n + (S + 1 - n) * cN n
theorem cT_d : ∀ S : Fin 7, ∀ n : Fin 7, ∀ f : Fin 7, f.val + n.val ≤ S.val → cT S.val n.val + f.val * cN n.val + cN n.val ≤ 680 := by decide +kernel
theorem cT_b {S n f : Nat} (h6 : S ≤ 6) (h : f + n ≤ S) : cT S n + f * cN n + cN n ≤ 680 := cT_d ⟨S, by omega⟩ ⟨n, by omega⟩ ⟨f, by omega⟩ h
theorem gS_ld : ∀ f : Fin 7, ∀ n : Fin 7, 1 ≤ n.val → f.val + n.val ≤ 6 → (gS f.val n.val).length = cN n.val := by decide +kernel
theorem gS_len {f n : Nat} (h1 : 1 ≤ n) (h : f + n ≤ 6) : (gS f n).length = cN n := gS_ld ⟨f, by omega⟩ ⟨n, by omega⟩ h1 h
def kX : List (Int × Int) := (32, 10) :: (32, 11) :: (32, 12) :: (32, 13) :: cX
theorem oF_chC {u : Tr} (h : isS u = false) : oF (chC u) = oS u := by
  cases u <;> simp_all [isS, chC, oF, oS]
theorem oF_pos {ts : List Tr} (h : ∀ u ∈ ts, okw u) : ts.length ≤ (oF ts).length := by
  induction ts with
  | nil => simp [oF]
  | cons u us ih =>
    have h1 := ih (fun w hw => h w (List.mem_cons_of_mem _ hw))
    have h2 : ∀ w : Tr, okw w → 1 ≤ (oS w).length := by
      intro w
      induction w with
      | var l => intro _; simp [oS]
      | pow t l _ => intro _; simp [oS]
      | mul a b iha _ => intro hw; have := iha hw.1; simp only [oS, List.length_append]; omega
      | add a b iha _ => intro hw; have := iha hw.1; simp only [oS, List.length_append]; omega
      | _ => intro hw; exact absurd hw (by simp [okw])
    have h3 := h2 u (h u List.mem_cons_self)
    rw [oF_cons, List.length_append, List.length_cons]
    omega
section CArr3
variable {E : EV} {d : Nat} {σ : St} {T : Tb} {M : Mo} {g b : Int} {t : Tr} {F : List Tr} {P : List Mo} {tp : List Int}
theorem c_Arranger_isBetter {p q : Nat} {s1 s2 : Tr} (hF : Fix σ) (h : FoC σ T M.2.1 t F) (hT : okTab T) (hg : 0 ≤ M.2.1 ∧ M.2.1 ≤ 3) (hM : 1 ≤ M.1 ∧ M.1 ≤ 24) (ht : ok t) (ha : F[p]? = some s1) (hb : F[q]? = some s2) : WMi E m_Arranger_isBetter (d + 1) [aP 32, aI p, aI q, aI M.1] σ (fun r τ => ((r = 1 ∧ bet T M (oS t) s1 s2) ∨ (r = 0 ∧ ¬ bet T M (oS t) s1 s2)) ∧ τ = σ) := by
  have hka := h.2.1 s1 (List.mem_of_getElem? ha)
  have hkb := h.2.1 s2 (List.mem_of_getElem? hb)
  have hIa := h.2.2 p s1 ha
  have hIb := h.2.2 q s2 hb
  have hp := (List.getElem?_eq_some_iff.mp ha).1
  have hq := (List.getElem?_eq_some_iff.mp hb).1
  have h8 := h.1.2
  have hoS := oS_ok (T := T) ht
  have hS : ∀ u ∈ oS t, isS u = true ∧ ok u := fun u hu => ⟨(hoS u hu).1, (hoS u hu).2.1⟩
  have wa := sw_b hT hg hS hka.1
  have wb := sw_b hT hg hS hkb.1
  have k1 := hka.2
  have k2 := hkb.2
  have da := dg_len hka.1 0
  have db := dg_len hkb.1 0
  have na := nm_b (dg_dgs s1 0)
  have nb := nm_b (dg_dgs s2 0)
  have pa := p8_mono (m := (dg 0 s1).length) (n := 21) (by omega)
  have pb := p8_mono (m := (dg 0 s2).length) (n := 21) (by omega)
  have h21 : p8 21 = 9223372036854775808 := by decide
  have l12 := fun q => nm_len (dg_dgs s1 0) (dg_dgs s2 0) q
  have l21 := fun q => nm_len (dg_dgs s2 0) (dg_dgs s1 0) q
  have e1 : gr T M (sbs (oS t) s1) = max M.1 (max (wid T M.2.1 (sbs (oS t) s1)) (hei T M.2.1 (sbs (oS t) s1))) := rfl
  have e2 : gr T M (sbs (oS t) s2) = max M.1 (max (wid T M.2.1 (sbs (oS t) s2)) (hei T M.2.1 (sbs (oS t) s2))) := rfl
  refine e_Arranger_isBetter _ _ _ hF ?_
  rw [hIa.2.1.1, hIa.2.1.2, hIb.2.1.1, hIb.2.1.2, hIa.2.2.1.1, hIa.2.2.1.2, hIb.2.2.1.1, hIb.2.2.1.2, ← e1, ← e2]
  have g1 : 1 ≤ gr T M (sbs (oS t) s1) ∧ gr T M (sbs (oS t) s1) ≤ 1000 := by rw [e1]; omega
  have g2 : 1 ≤ gr T M (sbs (oS t) s2) ∧ gr T M (sbs (oS t) s2) ≤ 1000 := by rw [e2]; omega
  unfold bet
  generalize gr T M (sbs (oS t) s1) = G1 at *
  generalize gr T M (sbs (oS t) s2) = G2 at *
  refine ⟨by omega, by omega, by omega, by omega, by omega, by omega, by omega, by omega, by omega, by omega, by omega, by omega, by omega, by omega, fun c => ⟨by omega, by omega, by omega, by omega, fun c2 => ⟨by omega, by omega, ⟨by omega, by omega⟩, ⟨by omega, by omega⟩, fun c3 => ?_, fun c3 => ?_⟩, fun c2 => ⟨by omega, by omega, by omega, by omega, fun c3 => ?_, fun c3 => ?_⟩⟩, fun c => ⟨by omega, by omega, fun c3 => ?_, fun c3 => ?_⟩⟩
  · exact ⟨_, rfl, List.prefix_refl _, Or.inr ⟨rfl, by omega⟩, rfl⟩
  · exact ⟨_, rfl, List.prefix_refl _, Or.inl ⟨rfl, by omega⟩, rfl⟩
  · have := l21 (by omega)
    exact ⟨_, rfl, List.prefix_refl _, Or.inr ⟨rfl, by omega⟩, rfl⟩
  · have := l12 (by omega)
    exact ⟨_, rfl, List.prefix_refl _, Or.inl ⟨rfl, by omega⟩, rfl⟩
  · exact ⟨_, rfl, List.prefix_refl _, Or.inr ⟨rfl, by omega⟩, rfl⟩
  · exact ⟨_, rfl, List.prefix_refl _, Or.inl ⟨rfl, by omega⟩, rfl⟩
theorem c_Arranger_bestForm {n : Nat} (hF : Fix σ) (h : FoC σ T M.2.1 t F) (hT : okTab T) (hg : 0 ≤ M.2.1 ∧ M.2.1 ≤ 3) (hM : 1 ≤ M.1 ∧ M.1 ≤ 24) (ht : ok t) (h1 : 1 ≤ n) (h6 : n ≤ 6) (hs : SpC σ F 0 n) : WMi E m_Arranger_bestForm (d + 2) [aP 32, aI n, aI M.1] σ (fun r τ => (∃ (i : Nat) (m : Tr), r = i ∧ F[i]? = some m ∧ m ∈ gS 0 n ∧ ∀ s ∈ gS 0 n, ¬ bet T M (oS t) s m) ∧ τ = σ) := by
  obtain ⟨A, B, e1, e2, e3⟩ := hs
  rw [show ((0 : Nat) : Int) * 7 + (n : Int) = (n : Int) by omega] at e2 e3
  have hl := gS_len (f := 0) h1 (by omega)
  have hpos : 1 ≤ (gS 0 n).length := by
    rw [hl]
    match n, h1, h6 with
    | 1, _, _ => decide
    | 2, _, _ => decide
    | 3, _, _ => decide
    | 4, _, _ => decide
    | 5, _, _ => decide
    | 6, _, _ => decide
  have hFl := congrArg List.length e1
  simp only [List.length_append] at hFl
  have h8 := h.1.2
  have hat : ∀ (i : Nat) (s : Tr), (gS 0 n)[i]? = some s → F[A.length + i]? = some s := by
    intro i s hi
    have := (List.getElem?_eq_some_iff.mp hi).1
    rw [e1, List.getElem?_append_right (by omega), show A.length + i - A.length = i by omega, List.getElem?_append_left this]
    exact hi
  refine e_Arranger_bestForm _ _ hF ⟨by omega, ?_⟩
  rw [e2]
  have key : ∀ z : Nat × Nat × Tr, (z.1 ≤ (gS 0 n).length ∧ (gS 0 n)[z.2.1]? = some z.2.2 ∧ ∀ (i : Nat) (s : Tr), i < z.1 → (gS 0 n)[i]? = some s → ¬ bet T M (oS t) s z.2.2) → WP E m_Arranger_bestForm (d + 2) 12 [(0, aP 32), (1, aI n), (2, aI M.1), (3, aI ((A.length : Int) + z.2.1)), (4, aI ((A.length : Int) + z.1))] [] σ (fun r τ => ∃ v, r = some (aI v) ∧ σ.2 <+: τ.2 ∧ (∃ (i : Nat) (m : Tr), v = i ∧ F[i]? = some m ∧ m ∈ gS 0 n ∧ ∀ s ∈ gS 0 n, ¬ bet T M (oS t) s m) ∧ τ = σ) := by
    refine lpx (fun z => (gS 0 n).length - z.1) _ _ (fun z hI ih => ?_)
    obtain ⟨k, j, m⟩ := z
    obtain ⟨i1, i2, i3⟩ := hI
    simp only at i1 i2 i3 ih ⊢
    have jl := (List.getElem?_eq_some_iff.mp i2).1
    refine b_Arranger_bestForm_12 _ _ _ _ hF ⟨by omega, by omega, by omega, fun c => ?_, fun c => ?_⟩
    · refine ⟨_, rfl, List.prefix_refl _, ⟨A.length + j, m, by omega, hat j m i2, List.mem_of_getElem? i2, fun s hs => ?_⟩, rfl⟩
      obtain ⟨i, hi⟩ := List.getElem?_of_mem hs
      have := (List.getElem?_eq_some_iff.mp hi).1
      exact i3 i s (by omega) hi
    · have hk : k < (gS 0 n).length := by omega
      obtain ⟨s, hs⟩ : ∃ s, (gS 0 n)[k]? = some s := ⟨_, List.getElem?_eq_getElem hk⟩
      have cf1 := c_Arranger_isForm (E := E) (d := d + 1) (i := (A.length : Int) + k) hF h (by omega)
      rw [b2i_t (by omega)] at cf1
      refine wmi_p cf1 ⟨hF, by decide, fun q => absurd q (by decide), fun _ => ?_⟩
      have ek : (A.length : Int) + k = ((A.length + k : Nat) : Int) := by omega
      have ej : (A.length : Int) + j = ((A.length + j : Nat) : Int) := by omega
      rw [ek, ej]
      refine WMi.mono (c_Arranger_isBetter hF h hT hg hM ht (hat k s hs) (hat j m i2)) (fun r τ hp hq => ?_)
      obtain ⟨hq, rfl⟩ := hq
      refine ⟨by omega, fun c2 => ?_, fun c2 => ?_⟩
      · have nb : ¬ bet T M (oS t) s m := by rcases hq with q | q; omega; exact q.2
        refine b_Arranger_bestForm_46 _ _ _ _ ?_
        have h9 := ih (k + 1, j, m) (by show (gS 0 n).length - (k + 1) < (gS 0 n).length - k; omega) ⟨by show k + 1 ≤ _; omega, i2, fun i s' hi hs' => by
          have hi' : i < k + 1 := hi
          by_cases q : i < k
          · exact i3 i s' q hs'
          · obtain rfl : i = k := by omega
            rw [hs] at hs'; cases hs'; exact nb⟩
        simp only at h9
        rw [ej] at h9
        rw [show ((A.length + k : Nat) : Int) + 1 = (A.length : Int) + ((k + 1 : Nat) : Int) by omega]
        exact h9
      · have yb : bet T M (oS t) s m := by rcases hq with q | q; exact q.2; omega
        refine b_Arranger_bestForm_46 _ _ _ _ ?_
        have h9 := ih (k + 1, k, s) (by show (gS 0 n).length - (k + 1) < (gS 0 n).length - k; omega) ⟨by show k + 1 ≤ _; omega, hs, fun i s' hi hs' => by
          have hi' : i < k + 1 := hi
          show ¬ bet T M (oS t) s' s
          by_cases q : i < k
          · have := i3 i s' q hs'
            unfold bet at *
            omega
          · obtain rfl : i = k := by omega
            rw [hs] at hs'; cases hs'
            unfold bet; omega⟩
        simp only at h9
        rw [ek] at h9
        rw [show ((A.length + k : Nat) : Int) + 1 = (A.length : Int) + ((k + 1 : Nat) : Int) by omega]
        exact h9
  obtain ⟨s0, hs0⟩ : ∃ s, (gS 0 n)[0]? = some s := ⟨_, List.getElem?_eq_getElem (by omega)⟩
  have h9 := key (1, 0, s0) ⟨hpos, hs0, fun i s hi hs => by
    have hi' : i < 1 := hi
    obtain rfl : i = 0 := by omega
    rw [hs0] at hs; cases hs
    show ¬ bet T M (oS t) s0 s0
    unfold bet; omega⟩
  simp only at h9
  rw [show (A.length : Int) + ((0 : Nat) : Int) = (A.length : Int) by omega, show (A.length : Int) + ((1 : Nat) : Int) = (A.length : Int) + 1 by omega] at h9
  exact h9
theorem dX_fo (a i : Int) (h1 : 33 ≤ a) (h2 : a ≤ 39) : frO (dX 10 11) a i = true := by simp [dX, frO]; omega
theorem c_Arranger_write {x : Int} (ht : ok t) (hl : (cC t).length ≤ 24) (s : Tr) : ∀ (D : Nat) (i : Nat) (dep : Int) (K : List Int) (σ : St), Fix σ → FoC σ T g t F → F[i]? = some s → CdB 92 σ x (cC t) → DrIs σ 10 11 K → (lv s).length + 3 ≤ D → 0 ≤ dep → dep + (lv s).length ≤ 7 → K.length + (cC (sbs (oS t) s)).length ≤ 24 → WMv E m_Arranger_write D [aP 32, aI i, aP x, aP 10, aI dep] σ (fun τ => Fr (dX 10 11) σ τ ∧ DrIs τ 10 11 (K ++ cC (sbs (oS t) s))) := by
  have joint : ∀ (a b : Tr) (y : Int), (y = 64 ∨ y = 65) →
      (∀ (D : Nat) (i : Nat) (dep : Int) (K : List Int) (σ : St), Fix σ → FoC σ T g t F → F[i]? = some a → CdB 92 σ x (cC t) → DrIs σ 10 11 K → (lv a).length + 3 ≤ D → 0 ≤ dep → dep + (lv a).length ≤ 7 → K.length + (cC (sbs (oS t) a)).length ≤ 24 → WMv E m_Arranger_write D [aP 32, aI i, aP x, aP 10, aI dep] σ (fun τ => Fr (dX 10 11) σ τ ∧ DrIs τ 10 11 (K ++ cC (sbs (oS t) a)))) →
      (∀ (D : Nat) (i : Nat) (dep : Int) (K : List Int) (σ : St), Fix σ → FoC σ T g t F → F[i]? = some b → CdB 92 σ x (cC t) → DrIs σ 10 11 K → (lv b).length + 3 ≤ D → 0 ≤ dep → dep + (lv b).length ≤ 7 → K.length + (cC (sbs (oS t) b)).length ≤ 24 → WMv E m_Arranger_write D [aP 32, aI i, aP x, aP 10, aI dep] σ (fun τ => Fr (dX 10 11) σ τ ∧ DrIs τ 10 11 (K ++ cC (sbs (oS t) b)))) →
      ∀ (D : Nat) (i p q : Nat) (dep : Int) (K : List Int) (σ : St), Fix σ → FoC σ T g t F → i < F.length → σ.1 33 i = y → F[p]? = some a → F[q]? = some b → σ.1 34 i = p → σ.1 35 i = q → CdB 92 σ x (cC t) → DrIs σ 10 11 K → (lv a).length + (lv b).length + 3 ≤ D → 0 ≤ dep → dep + (lv a).length + (lv b).length ≤ 7 → K.length + (1 + ((cC (sbs (oS t) a)).length + (cC (sbs (oS t) b)).length)) ≤ 24 → WMv E m_Arranger_write D [aP 32, aI i, aP x, aP 10, aI dep] σ (fun τ => Fr (dX 10 11) σ τ ∧ DrIs τ 10 11 (K ++ (y :: (cC (sbs (oS t) a) ++ cC (sbs (oS t) b))))) := by
    intro a b y hy iha ihb D i p q dep K σ hF h hi h33 ha hb h34 h35 hc hD hDl h0 h7 h24
    have la := lv_pos (h.2.1 a (List.mem_of_getElem? ha)).1
    have lb := lv_pos (h.2.1 b (List.mem_of_getElem? hb)).1
    have h8 := h.1.2
    obtain ⟨D2, rfl⟩ : ∃ D2, D = D2 + 3 := ⟨D - 3, by omega⟩
    have cf1 := c_Arranger_isForm (E := E) (d := D2 + 2) (i := (i : Int)) hF h (by omega)
    rw [b2i_t (by omega)] at cf1
    refine e_Arranger_write _ _ _ _ hF (wmi_p cf1 ⟨hF, by decide, fun q => absurd q (by decide), fun _ => ⟨by omega, fun _ => ⟨by omega, by rw [h33]; omega, fun c => ?_, fun c => by omega⟩, fun c => by omega⟩⟩)
    rw [h33]
    refine ⟨by omega, hD.1.2.1, WMv.mono (c_Draft_put hD (by omega) (by omega)) (fun τ7 p7 q7 => ?_)⟩
    have F7 := q7.1.fix hF (by decide)
    have C7 := Fr.foc h q7.1 rfl dX_fo
    have S7 := hc.cf (q7.1.cf 0 0) (dX_lt (by decide))
    rw [q7.1.2 34 i rfl, h34]
    refine ⟨F7, by omega, WMv.mono (iha (D2 + 2) p (dep + 1) _ τ7 F7 C7 ha S7 q7.2 (by omega) (by omega) (by omega) (by simp only [List.length_append, List.length_singleton]; omega)) (fun τ8 p8 q8 => ?_)⟩
    have F8 := q8.1.fix F7 (by decide)
    have C8 := Fr.foc C7 q8.1 rfl dX_fo
    have S8 := S7.cf (q8.1.cf 0 0) (dX_lt (by decide))
    rw [q8.1.2 35 i rfl, q7.1.2 35 i rfl, h35]
    refine ⟨F8, by omega, WMv.mono (ihb (D2 + 2) q (dep + 1) _ τ8 F8 C8 hb S8 q8.2 (by omega) (by omega) (by omega) (by simp only [List.length_append, List.length_singleton]; omega)) (fun τ9 p9 q9 => ⟨rfl, p7.trans (p8.trans p9), (q7.1.tr q8.1).tr q9.1, ?_⟩)⟩
    have := q9.2
    simp only [List.append_assoc, List.singleton_append] at this
    exact this
  induction s with
  | var l =>
    intro D i dep K σ hF h hs hc hD hDl h0 h7 h24
    have hI := h.2.2 i _ hs
    have hi := (List.getElem?_eq_some_iff.mp hs).1
    have h8 := h.1.2
    obtain ⟨A, B, u, u1, u2, u3⟩ := hI.2.2.2
    have eu : sbs (oS t) (.var l) = u := by
      simp only [sbs]
      rw [List.getD_eq_getElem?_getD, u1]; rfl
    rw [eu] at h24 ⊢
    have hu := (oS_ok (T := T) ht u (List.mem_of_getElem? u1)).2.1
    have hk : σ.1 33 i = 0 := hI.1
    have hll : (lv (.var l)).length = 1 := rfl
    rw [hll] at hDl h7
    obtain ⟨D2, rfl⟩ : ∃ D2, D = D2 + 3 := ⟨D - 3, by omega⟩
    have cf1 := c_Arranger_isForm (E := E) (d := D2 + 2) (i := (i : Int)) hF h (by omega)
    rw [b2i_t (by omega)] at cf1
    have hc2 : CdB 92 σ x (A ++ (cC u ++ B)) := by rw [← u2]; exact hc
    have hAl : (A ++ (cC u ++ B)).length ≤ 1000 := by rw [← u2]; omega
    refine e_Arranger_write _ _ _ _ hF (wmi_p cf1 ⟨hF, by decide, fun q => absurd q (by decide), fun _ => ⟨by omega, fun _ => ⟨by omega, by rw [hk]; decide, fun c => absurd hk c, fun c => ?_⟩, fun c => by omega⟩⟩)
    rw [u3]
    refine ⟨by omega, by omega, hc.2.1, wmi_p (c_Sq_endOf hc2.2 hu.w hAl rfl) ⟨hD.1.2.1, WMv.mono (c_Draft_putAll hD hc2 (cC_sym hu.w) hAl rfl rfl h24) (fun τ hp hq => ⟨rfl, hp, hq⟩)⟩⟩
  | mul a b iha ihb =>
    intro D i dep K σ hF h hs hc hD hDl h0 h7 h24
    have hI := h.2.2 i _ hs
    obtain ⟨p, q, ha, hb, h34, h35⟩ := hI.2.2.2
    simp only [lv, List.length_append] at hDl h7
    simp only [sbs, cC, List.length_cons, List.length_append] at h24
    exact joint a b 64 (Or.inl rfl) iha ihb D i p q dep K σ hF h (List.getElem?_eq_some_iff.mp hs).1 hI.1 ha hb h34 h35 hc hD hDl h0 (by omega) (by omega)
  | add a b iha ihb =>
    intro D i dep K σ hF h hs hc hD hDl h0 h7 h24
    have hI := h.2.2 i _ hs
    obtain ⟨p, q, ha, hb, h34, h35⟩ := hI.2.2.2
    simp only [lv, List.length_append] at hDl h7
    simp only [sbs, cC, List.length_cons, List.length_append] at h24
    exact joint a b 65 (Or.inr rfl) iha ihb D i p q dep K σ hF h (List.getElem?_eq_some_iff.mp hs).1 hI.1 ha hb h34 h35 hc hD hDl h0 (by omega) (by omega)
  | _ =>
    intro D i dep K σ hF h hs
    exact absurd (h.2.2 i _ hs).2.2.2 (by simp [FoB])
theorem c_Arranger_makeSigns {x c : Int} (hF : Fix σ) (hc : CdB 92 σ x (cC t)) (htb : TabC σ c T) (hT : okTab T) (ht : ok t) (hlen : (cC t).length ≤ 24) (h6 : so t ≤ 6) : WMi E m_Arranger_makeSigns (d + 3) [aP 32, aP x, aP c] σ (fun r τ => r = so t ∧ Fr fpX σ τ ∧ FoC τ T g t (vs (so t)) ∧ ∀ i, i < so t → SpC τ (vs (so t)) i 1) := by
  refine e_Arranger_makeSigns _ _ hF ?_
  have f0 : Fr fpX σ (wr σ 32 7 0) := Fr.wr (frO_k (by decide))
  have key : ∀ z : List Int × List Tr × List Tr × St, ((∀ u ∈ z.2.2.1, okw u) ∧ z.1 ++ cF z.2.2.1 = cC t ∧ z.2.1 ++ oF z.2.2.1 = oS t ∧ Fr fpX σ z.2.2.2 ∧ FoC z.2.2.2 T g t (vs z.2.1.length) ∧ ∀ i, i < z.2.1.length → SpC z.2.2.2 (vs z.2.1.length) i 1) → WP E m_Arranger_makeSigns (d + 3) 7 [(0, aP 32), (1, aP x), (2, aP c), (3, aI z.1.length)] [] z.2.2.2 (fun r τ => ∃ v, r = some (aI v) ∧ σ.2 <+: τ.2 ∧ v = so t ∧ Fr fpX σ τ ∧ FoC τ T g t (vs (so t)) ∧ ∀ i, i < so t → SpC τ (vs (so t)) i 1) := by
    refine lpx (fun z => (cF z.2.2.1).length) _ _ (fun z hI ih => ?_)
    obtain ⟨A, xs, ts, τ⟩ := z
    obtain ⟨i1, i2, i3, i4, i5, i6⟩ := hI
    simp only at i1 i2 i3 i4 i5 i6 ih ⊢
    have hT1 := i4.fix hF (by decide)
    have c1 := hc.cf (i4.cf 0 0) (imX_lt rfl (by omega))
    have t1 := htb.cf (i4.cf 0 0) rfl
    have hl2 := congrArg List.length i2
    simp only [List.length_append] at hl2
    have hl3 := congrArg List.length i3
    simp only [List.length_append, oS_len] at hl3
    have hop := oF_pos i1
    have h7 := i5.1.1
    rw [vs_l] at h7
    refine b_Arranger_makeSigns_7 _ _ _ hT1 ⟨c1.2.1, wmi_p (c_Sq_length c1.2) ⟨hT1, by omega, by omega, fun q => ?_, fun q => ⟨by omega, fun q2 => ?_, fun q2 => ⟨c1.2.1, wmi_p (c_Sq_symbol c1.2 (by omega) (by omega)) ⟨hT1, ?_⟩⟩⟩⟩⟩
    · have h0 : ts = [] := by
        have := cF_len i1
        exact List.eq_nil_of_length_eq_zero (by omega)
      subst h0
      have : xs.length = so t := by simp [oF] at hl3; omega
      rw [h7]
      rw [this] at i5 i6 ⊢
      exact ⟨_, rfl, pre_eq i4.1, rfl, i4, i5, i6⟩
    · cases ts with
      | nil => rw [cF_nil] at hl2; simp at hl2; omega
      | cons u us => simp only [List.length_cons] at hop; omega
    · cases ts with
      | nil => rw [cF_nil] at hl2; simp at hl2; omega
      | cons u us =>
        have hu := i1 u List.mem_cons_self
        have hus : ∀ w ∈ us, okw w := fun w hw => i1 w (List.mem_cons_of_mem _ hw)
        have e1 : cF (u :: us) = sy u :: cF (chC u ++ us) := by rw [cF_cons, cC_sy hu, cF_app]; rfl
        have hr := sy_r hu
        rw [if_pos (by omega)]
        have e2 : (cC t).getD ((A.length : Nat) : Int).toNat 0 = sy u := by
          rw [show ((A.length : Nat) : Int).toNat = A.length by omega, ← i2, e1]
          simp [List.getD_eq_getElem?_getD]
        rw [e2]
        refine wmi_p (c_S_isJoint (by omega)) ⟨hT1, b2i_r _, fun q3 => ?_, fun q3 => ?_⟩
        · rw [b2i_0, jt_isS hu] at q3
          have hS : isS u = true := by simpa using q3
          obtain ⟨s1, s2, s3, s4⟩ := sy_sign hu hS
          obtain ⟨ew, eh⟩ := wid_sign (T := T) (g := g) hS
          have hxl : xs.length < 6 := by omega
          rw [oF_cons, oS_S hS] at i3 hl3
          have hat : (oS t)[xs.length]? = some u := by rw [← i3]; simp
          have esb : sbs (oS t) (.var xs.length) = u := by
            show (oS t).getD xs.length (.var 0) = u
            rw [List.getD_eq_getElem?_getD, hat]; rfl
          rw [h7]
          have sp1 := c_Arranger_spanOfSigns (E := E) (d := d + 1) (σ := τ) (f := xs.length) (n := 1) (by omega) (by omega)
          refine wmi_p sp1 ⟨hT1, by omega, ?_⟩
          rw [show ((1 : Nat) : Int) = 1 by rfl]
          have hF2 : Fix (wr τ 40 ((xs.length : Int) * 7 + 1) xs.length) := hT1.wa (by decide)
          have h72 : (wr τ 40 ((xs.length : Int) * 7 + 1) xs.length).1 32 7 = (xs.length : Int) := (wr_na _ (by decide)).trans h7
          rw [h7]
          refine WMv.mono (c_Arranger_keep hF2 h72 (by omega)) (fun τ3 p3 q3' => ?_)
          have f3 : Fr fpX τ τ3 := by
            rw [q3']
            exact (((Fr.wr (frO_a (by decide) _)).tr (Fr.wr (frO_a (by decide) _))).tr (Fr.wr (frO_a (by decide) _))).tr (Fr.wr (frO_a (by decide) _))
          have F3 := f3.fix hT1 (by decide)
          have t3 := t1.cf (f3.cf 0 0) rfl
          have h73 : τ3.1 32 7 = (xs.length : Int) := by rw [q3', wr_na _ (by decide), wr_na _ (by decide), wr_na _ (by decide)]; exact h72
          refine ⟨F3, wmi_p (c_S_letterOf (by omega)) ⟨F3, t3.2.1, ?_⟩⟩
          rw [s2]
          refine wmi_p (c_Table_wideOf t3 (by omega)) ⟨F3, wmi_p (c_S_letterOf (by omega)) ⟨F3, t3.2.1, ?_⟩⟩
          rw [s2]
          refine wmi_p (c_Table_highOf t3 (by omega)) ⟨F3, ?_⟩
          rw [show tb tW T (lett u : Int) = (T (lett u)).1 from tb_nat s4, ← ew, show tb tH T (lett u : Int) = (T (lett u)).2.1 from tb_nat s4, ← eh]
          refine WMv.mono (c_Arranger_keepSize F3 h73 (by omega)) (fun τ4 p4 q4 => ?_)
          have F4 : Fix τ4 := by rw [q4]; exact (F3.wa (by decide)).wa (by decide)
          have h74 : τ4.1 32 7 = (xs.length : Int) := by rw [q4, wr_na _ (by decide), wr_na _ (by decide)]; exact h73
          refine ⟨F4, WMv.mono (c_Arranger_keepText F4 h74 (by omega)) (fun τ5 p5 q5 => ?_)⟩
          have q6 : τ5 = fo7 (wr τ 40 ((xs.length : Int) * 7 + 1) xs.length) xs.length 0 A.length A.length (wid T g u) (hei T g u) 5 1 := by rw [q5, q4, q3']; rfl
          have f5 : Fr fpX τ τ5 := by rw [q6]; exact (Fr.wr (frO_a (by decide) _)).tr (fo7_fr.mono (by decide))
          have F5 := f5.fix hT1 (by decide)
          obtain ⟨r1, r2, r3, r4, r5, r6, r7, r8⟩ := fo7_n (σ := (wr τ 40 ((xs.length : Int) * 7 + 1) xs.length)) (n := xs.length) (k := 0) (p := A.length) (q := A.length) (w := (wid T g u)) (h := (hei T g u)) (x := 5) (c := 1)
          rw [← q6] at r1 r2 r3 r4 r5 r6 r7 r8
          rw [r8, h72]
          have f6 : Fr fpX τ (wr (wr τ5 32 7 ((xs.length : Int) + 1)) 41 ((xs.length : Int) * 7 + 1) ((xs.length : Int) + 1)) := (f5.tr (Fr.wr (frO_k (by decide)))).tr (Fr.wr (frO_a (by decide) _))
          have c6 := c1.cf (f6.cf 0 0) (imX_lt rfl (by omega))
          have e40 : ∀ k, (wr (wr τ5 32 7 ((xs.length : Int) + 1)) 41 ((xs.length : Int) * 7 + 1) ((xs.length : Int) + 1)).1 40 k = (wr τ 40 ((xs.length : Int) * 7 + 1) xs.length).1 40 k := fun k => by
            rw [wr_na _ (by decide), wr_na _ (by decide), q6]
            exact fo7_fr.2 _ _ rfl
          have e41 : ∀ k, k ≠ (xs.length : Int) * 7 + 1 → (wr (wr τ5 32 7 ((xs.length : Int) + 1)) 41 ((xs.length : Int) * 7 + 1) ((xs.length : Int) + 1)).1 41 k = τ.1 41 k := fun k hk => by
            rw [wr_nk _ hk, wr_na _ (by decide), q6]
            exact (fo7_fr.2 _ _ rfl).trans (wr_na _ (by decide))
          have eo : ∀ a i, 33 ≤ a → a ≤ 39 → i ≠ (xs.length : Int) → (wr (wr τ5 32 7 ((xs.length : Int) + 1)) 41 ((xs.length : Int) * 7 + 1) ((xs.length : Int) + 1)).1 a i = τ.1 a i := fun a i g1 g2 hi => by
            rw [wr_na _ (by omega), wr_na _ (by omega), q6, fo7_o hi]
            exact wr_na _ (by omega)
          have en : ∀ a, 33 ≤ a → a ≤ 39 → (wr (wr τ5 32 7 ((xs.length : Int) + 1)) 41 ((xs.length : Int) * 7 + 1) ((xs.length : Int) + 1)).1 a xs.length = τ5.1 a xs.length := fun a g1 g2 => by
            rw [wr_na _ (by omega), wr_na _ (by omega)]
          have h77 : (wr (wr τ5 32 7 ((xs.length : Int) + 1)) 41 ((xs.length : Int) * 7 + 1) ((xs.length : Int) + 1)).1 32 7 = (xs.length : Int) + 1 := by rw [wr_na _ (by decide), wr_same]
          have e41n : (wr (wr τ5 32 7 ((xs.length : Int) + 1)) 41 ((xs.length : Int) * 7 + 1) ((xs.length : Int) + 1)).1 41 ((xs.length : Int) * 7 + 1) = (xs.length : Int) + 1 := wr_same _ _ _ _
          refine ⟨F5, by omega, c6.2.1, ?_⟩
          generalize wr (wr τ5 32 7 ((xs.length : Int) + 1)) 41 ((xs.length : Int) * 7 + 1) ((xs.length : Int) + 1) = ω at *
          have hcd : Cd ω x (A ++ (cC u ++ cF us)) := by rw [← cF_cons, i2]; exact c6.2
          refine wmi_p (c_Sq_endOf hcd hu (by rw [← cF_cons, i2]; omega) rfl) ⟨by omega, ?_, ?_⟩
          · rw [cF_cons, List.length_append] at hl2; omega
          · have hcp := cC_pos hu
            have C6 : FoC ω T g t (vs (xs.length + 1)) := by
              rw [vs_s]
              refine i5.push (by rw [h77, vs_l]) (by rw [vs_l]; omega) (by rw [vs_l]; exact eo) ⟨by show decide (xs.length < 26) = true; rw [decide_eq_true_iff]; omega, by show (1 : Nat) ≤ 6; decide⟩ ?_
              rw [vs_l]
              refine ⟨?_, ⟨?_, ?_⟩, ⟨?_, ?_⟩, A, cF us, u, hat, by rw [← cF_cons, i2], ?_⟩
              · rw [en 33 (by omega) (by omega), r1]; rfl
              · rw [en 36 (by omega) (by omega), r4, esb]
              · rw [en 37 (by omega) (by omega), r5, esb]
              · rw [en 38 (by omega) (by omega), r6]; rfl
              · rw [en 39 (by omega) (by omega), r7]; show (5 : Int) = nm [5]; decide
              · rw [en 34 (by omega) (by omega), r2]
            have S6 : ∀ i, i < xs.length + 1 → SpC ω (vs (xs.length + 1)) i 1 := by
              intro i hi
              rw [vs_s]
              by_cases q : i < xs.length
              · refine (i6 i q).mono _ ⟨?_, ?_⟩
                · rw [e40, wr_nk _ (by omega)]
                · rw [e41 _ (by omega)]
              · obtain rfl : i = xs.length := by omega
                refine ⟨vs xs.length, [], by rw [gS_1]; rfl, ?_, ?_⟩
                · rw [e40, vs_l, show ((1 : Nat) : Int) = 1 by rfl, wr_same]
                · rw [show ((1 : Nat) : Int) = 1 by rfl, e41n, vs_l, gS_1]; rfl
            have h9 := ih (A ++ cC u, xs ++ [u], us, ω) (by show (cF us).length < (cF (u :: us)).length; rw [cF_cons, List.length_append]; omega) ⟨hus, by show A ++ cC u ++ cF us = _; rw [List.append_assoc, ← cF_cons]; exact i2, by show xs ++ [u] ++ oF us = oS t; rw [← i3]; simp, i4.tr f6, by show FoC ω T g t (vs (xs ++ [u]).length); rw [List.length_append]; exact C6, by show ∀ i, i < (xs ++ [u]).length → SpC ω (vs (xs ++ [u]).length) i 1; rw [List.length_append]; exact S6⟩
            simp only [List.length_append] at h9
            rw [show max ((A.length : Int) + 1) ((A.length : Int) + (cC u).length) = ((A.length + (cC u).length : Nat) : Int) by omega]
            exact h9
        · rw [b2i_n0, jt_isS hu] at q3
          have hS : isS u = false := by simpa using q3
          have h9 := ih (A ++ [sy u], xs, chC u ++ us, τ) (by show (cF (chC u ++ us)).length < (cF (u :: us)).length; rw [e1]; simp) ⟨fun w hw => (List.mem_append.mp hw).elim (chC_ok hu w) (hus w), by show A ++ [sy u] ++ cF (chC u ++ us) = _; rw [← i2, e1]; simp, by show xs ++ oF (chC u ++ us) = oS t; rw [oF_app, oF_chC hS, ← oF_cons]; exact i3, i4, i5, i6⟩
          simp only [List.length_append, List.length_singleton] at h9
          rw [show ((A.length + 1 : Nat) : Int) = (A.length : Int) + 1 by omega] at h9
          exact h9
  have h9 := key ([], [], [t], wr σ 32 7 0) ⟨by simpa using ht.w, by simp [cF_one], by simp [oF], f0, ⟨⟨by show (wr σ 32 7 0).1 32 7 = _; rw [wr_same]; rfl, by simp [vs]⟩, fun s hs => by simp [vs] at hs, fun i s hs => by simp [vs] at hs⟩, fun i hi => by simp at hi⟩
  exact h9
end CArr3
