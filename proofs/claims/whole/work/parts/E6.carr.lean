/-! THE ARRANGER: forms in memory -/
def kd : Tr → Int
  | .mul _ _ => 64
  | .add _ _ => 65
  | _ => 0
theorem kd_r (s : Tr) : 0 ≤ kd s ∧ kd s ≤ 65 := by cases s <;> simp [kd]
theorem kd_M (s : Tr) : kd s = 64 ↔ isM s = true := by cases s <;> simp [kd, isM]
theorem kd_A (s : Tr) : kd s = 65 ↔ isA s = true := by cases s <;> simp [kd, isA]
/-- how form i is made -/
def FoB (σ : St) (t : Tr) (F : List Tr) (i : Int) : Tr → Prop
  | .var l => ∃ A B u, (oS t)[vN l]? = some u ∧ cC t = A ++ (cC u ++ B) ∧ σ.1 34 i = (A.length : Int)
  | .mul a b => ∃ p q : Nat, F[p]? = some a ∧ F[q]? = some b ∧ σ.1 34 i = p ∧ σ.1 35 i = q
  | .add a b => ∃ p q : Nat, F[p]? = some a ∧ F[q]? = some b ∧ σ.1 34 i = p ∧ σ.1 35 i = q
  | _ => False
def FoI (σ : St) (T : Tb) (g : Int) (t : Tr) (F : List Tr) (i : Int) (s : Tr) : Prop :=
  σ.1 33 i = kd s ∧ (σ.1 36 i = wid T g (sbs (oS t) s) ∧ σ.1 37 i = hei T g (sbs (oS t) s)) ∧ (σ.1 38 i = ((dg 0 s).length : Int) ∧ σ.1 39 i = nm (dg 0 s)) ∧ FoB σ t F i s
def foK (s : Tr) : Prop := okP s = true ∧ (lv s).length ≤ 6
def FoC (σ : St) (T : Tb) (g : Int) (t : Tr) (F : List Tr) : Prop := (σ.1 32 7 = (F.length : Int) ∧ F.length ≤ 680) ∧ (∀ s ∈ F, foK s) ∧ ∀ (i : Nat) (s : Tr), F[i]? = some s → FoI σ T g t F i s
def fqX : List (Int × Int) := [(32, 7), (33, -1), (34, -1), (35, -1), (36, -1), (37, -1), (38, -1), (39, -1)]
theorem getE_app {F : List Tr} {p : Nat} {a : Tr} (h : F[p]? = some a) (G : List Tr) : (F ++ G)[p]? = some a := by
  rw [List.getElem?_append_left (List.getElem?_eq_some_iff.mp h).1]; exact h
theorem FoB.app {σ : St} {t : Tr} {F : List Tr} {i : Int} {s : Tr} (h : FoB σ t F i s) (G : List Tr) : FoB σ t (F ++ G) i s := by
  cases s with
  | var l => exact h
  | mul a b => obtain ⟨p, q, h1, h2, h3⟩ := h; exact ⟨p, q, getE_app h1 G, getE_app h2 G, h3⟩
  | add a b => obtain ⟨p, q, h1, h2, h3⟩ := h; exact ⟨p, q, getE_app h1 G, getE_app h2 G, h3⟩
  | _ => exact h
theorem FoI.congr {σ τ : St} {T : Tb} {g : Int} {t : Tr} {F : List Tr} {i : Int} {s : Tr} (h : FoI σ T g t F i s) (e : ∀ a, 33 ≤ a → a ≤ 39 → τ.1 a i = σ.1 a i) : FoI τ T g t F i s := by
  unfold FoI at *
  rw [e 33 (by omega) (by omega), e 36 (by omega) (by omega), e 37 (by omega) (by omega), e 38 (by omega) (by omega), e 39 (by omega) (by omega)]
  refine ⟨h.1, h.2.1, h.2.2.1, ?_⟩
  have h4 := h.2.2.2
  cases s with
  | var l => unfold FoB at *; rw [e 34 (by omega) (by omega)]; exact h4
  | mul a b => unfold FoB at *; rw [e 34 (by omega) (by omega), e 35 (by omega) (by omega)]; exact h4
  | add a b => unfold FoB at *; rw [e 34 (by omega) (by omega), e 35 (by omega) (by omega)]; exact h4
  | _ => exact h4
theorem FoC.keep {σ τ : St} {T : Tb} {g : Int} {t : Tr} {F : List Tr} (h : FoC σ T g t F) (e0 : τ.1 32 7 = σ.1 32 7) (e : ∀ a i, 33 ≤ a → a ≤ 39 → i ≠ (F.length : Int) → τ.1 a i = σ.1 a i) : FoC τ T g t F := by
  refine ⟨⟨by rw [e0]; exact h.1.1, h.1.2⟩, h.2.1, fun i s hs => (h.2.2 i s hs).congr (fun a h1 h2 => e a i h1 h2 ?_)⟩
  have := (List.getElem?_eq_some_iff.mp hs).1
  omega
theorem FoC.push {σ τ : St} {T : Tb} {g : Int} {t : Tr} {F : List Tr} {s : Tr} (h : FoC σ T g t F) (e0 : τ.1 32 7 = (F.length : Int) + 1) (hl : F.length < 680) (e : ∀ a i, 33 ≤ a → a ≤ 39 → i ≠ (F.length : Int) → τ.1 a i = σ.1 a i) (hk : foK s) (hI : FoI τ T g t F F.length s) : FoC τ T g t (F ++ [s]) := by
  refine ⟨⟨by rw [e0]; simp, by simp; omega⟩, fun x hx => ?_, fun i x hx => ?_⟩
  · rcases List.mem_append.mp hx with q | q
    · exact h.2.1 x q
    · rw [List.mem_singleton] at q; rw [q]; exact hk
  · by_cases q : i < F.length
    · rw [List.getElem?_append_left q] at hx
      have h1 := (h.2.2 i x hx).congr (τ := τ) (fun a h1 h2 => e a i h1 h2 (by omega))
      exact ⟨h1.1, h1.2.1, h1.2.2.1, h1.2.2.2.app _⟩
    · have hlt := (List.getElem?_eq_some_iff.mp hx).1
      simp only [List.length_append, List.length_singleton] at hlt
      obtain rfl : i = F.length := by omega
      have : x = s := by simpa using hx.symm
      subst this
      exact ⟨hI.1, hI.2.1, hI.2.2.1, hI.2.2.2.app _⟩
theorem sw_b {T : Tb} {g : Int} {xs : List Tr} (hT : okTab T) (hg : 0 ≤ g ∧ g ≤ 3) (hS : ∀ u ∈ xs, isS u = true ∧ ok u) {s : Tr} (hs : okP s = true) : (0 ≤ wid T g (sbs xs s) ∧ wid T g (sbs xs s) + 3 ≤ 15 * (lv s).length) ∧ 0 ≤ hei T g (sbs xs s) ∧ hei T g (sbs xs s) + 3 ≤ 15 * (lv s).length := by
  induction s with
  | var l =>
    have hh := getX_S (fun u hu => (hS u hu).1) (vN l)
    have hok : ok (xs.getD (vN l) (.var 0)) := by
      rw [List.getD_eq_getElem?_getD]
      cases q : xs[vN l]? with
      | none => show vN 0 < 26; decide
      | some u => exact (hS u (List.mem_of_getElem? q)).2
    simp only [sbs, lv, List.length_singleton]
    generalize xs.getD (vN l) (.var 0) = u at hh hok
    obtain ⟨ew, eh⟩ := wid_sign (T := T) (g := g) hh
    rw [ew, eh]
    have : lett u < 26 := by
      cases u with
      | var k => exact hok
      | pow w k => exact hok.2
      | _ => simp [isS] at hh
    have := hT.r (lett u) this
    omega
  | mul a b iha ihb =>
    obtain ⟨h1, h2, -⟩ := okP_mul hs
    have a1 := iha h1
    have b1 := ihb h2
    simp only [sbs, wid, hei, lv, List.length_append]
    omega
  | add a b iha ihb =>
    obtain ⟨h1, h2, -⟩ := okP_add hs
    have a1 := iha h1
    have b1 := ihb h2
    simp only [sbs, wid, hei, lv, List.length_append]
    omega
  | _ => simp [okP] at hs
def fo7 (σ : St) (n k p q w h x c : Int) : St := wr (wr (wr (wr (wr (wr (wr σ 33 n k) 34 n p) 35 n q) 36 n w) 37 n h) 39 n x) 38 n c
theorem fo7_fr {σ : St} {n k p q w h x c : Int} : Fr fqX σ (fo7 σ n k p q w h x c) := ((((((Fr.wr (frO_a (by decide) _)).tr (Fr.wr (frO_a (by decide) _))).tr (Fr.wr (frO_a (by decide) _))).tr (Fr.wr (frO_a (by decide) _))).tr (Fr.wr (frO_a (by decide) _))).tr (Fr.wr (frO_a (by decide) _))).tr (Fr.wr (frO_a (by decide) _))
theorem fo7_o {σ : St} {n k p q w h x c : Int} {a i : Int} (hi : i ≠ n) : (fo7 σ n k p q w h x c).1 a i = σ.1 a i := by
  unfold fo7
  rw [wr_nk _ hi, wr_nk _ hi, wr_nk _ hi, wr_nk _ hi, wr_nk _ hi, wr_nk _ hi, wr_nk _ hi]
theorem fo7_n {σ : St} {n k p q w h x c : Int} : (fo7 σ n k p q w h x c).1 33 n = k ∧ (fo7 σ n k p q w h x c).1 34 n = p ∧ (fo7 σ n k p q w h x c).1 35 n = q ∧ (fo7 σ n k p q w h x c).1 36 n = w ∧ (fo7 σ n k p q w h x c).1 37 n = h ∧ (fo7 σ n k p q w h x c).1 38 n = c ∧ (fo7 σ n k p q w h x c).1 39 n = x ∧ (fo7 σ n k p q w h x c).1 32 7 = σ.1 32 7 := by
  unfold fo7
  refine ⟨?_, ?_, ?_, ?_, ?_, ?_, ?_, ?_⟩ <;> simp [wr_at]
theorem nm_beside {a b : Tr} (ha : okP a = true) (hb : okP b = true) (hl : (lv a).length + (lv b).length ≤ 6) : lshl (nm (dg 1 a) * 8 + 3) (3 * ((dg 1 b).length : Int)) + nm (dg 1 b) = nm (dg 0 (.mul a b)) ∧ ((dg 1 a).length : Int) + 1 + ((dg 1 b).length : Int) = ((dg 0 (.mul a b)).length : Int) := by
  have la := dg_len ha 1
  have lb := dg_len hb 1
  have na := nm_b (dg_dgs a 1)
  have nb := nm_b (dg_dgs b 1)
  have e : dg 0 (.mul a b) = dg 1 a ++ (3 :: dg 1 b) := rfl
  have el : (dg 0 (.mul a b)).length = (dg 1 a).length + (1 + (dg 1 b).length) := by rw [e]; simp; omega
  have ev : nm (dg 0 (.mul a b)) = (nm (dg 1 a) * 8 + 3) * p8 (dg 1 b).length + nm (dg 1 b) := by
    rw [e, nm_app]
    simp only [nm, List.length_cons, p8]
    rw [Int.add_mul, Int.mul_assoc]
    omega
  have hb2 := nm_b (dg_dgs (.mul a b) 0)
  have hp := p8_mono (m := (dg 0 (.mul a b)).length) (n := 21) (by omega)
  have h21 : p8 21 = 9223372036854775808 := by decide
  rw [ev] at hb2
  refine ⟨?_, by rw [el]; omega⟩
  rw [ev, lshl_p8 (by omega) (by omega) (by omega)]
theorem nm_above {a b : Tr} (ha : okP a = true) (hb : okP b = true) (hl : (lv a).length + (lv b).length ≤ 6) : lshl (nm (dg 0 a) * 8 + 4) (3 * ((dg 0 b).length : Int)) + nm (dg 0 b) = nm (dg 0 (.add a b)) ∧ ((dg 0 a).length : Int) + 1 + ((dg 0 b).length : Int) = ((dg 0 (.add a b)).length : Int) := by
  have la := dg_len ha 0
  have lb := dg_len hb 0
  have na := nm_b (dg_dgs a 0)
  have nb := nm_b (dg_dgs b 0)
  have e : dg 0 (.add a b) = dg 0 a ++ (4 :: dg 0 b) := by simp [dg, dg_2]
  have el : (dg 0 (.add a b)).length = (dg 0 a).length + (1 + (dg 0 b).length) := by rw [e]; simp; omega
  have ev : nm (dg 0 (.add a b)) = (nm (dg 0 a) * 8 + 4) * p8 (dg 0 b).length + nm (dg 0 b) := by
    rw [e, nm_app]
    simp only [nm, List.length_cons, p8]
    rw [Int.add_mul, Int.mul_assoc]
    omega
  have hb2 := nm_b (dg_dgs (.add a b) 0)
  have hp := p8_mono (m := (dg 0 (.add a b)).length) (n := 21) (by omega)
  have h21 : p8 21 = 9223372036854775808 := by decide
  rw [ev] at hb2
  refine ⟨?_, by rw [el]; omega⟩
  rw [ev, lshl_p8 (by omega) (by omega) (by omega)]
section CArr
variable {E : EV} {d : Nat} {σ : St} {T : Tb} {g : Int} {t : Tr} {F : List Tr}
theorem c_Arranger_isForm {i : Int} (hF : Fix σ) (h : FoC σ T g t F) (hi : rI i) : WMi E m_Arranger_isForm d [aP 32, aI i] σ (fun r τ => r = b2i (0 ≤ i ∧ i < (F.length : Int)) ∧ τ = σ) := by
  have h1 := h.1.1
  have h2 := h.1.2
  refine e_Arranger_isForm _ hF ⟨hi, fun c => ri_p (b2i_f (by omega)).symm, fun c => ⟨hi, by omega, fun c2 => ri_p (b2i_f (by omega)).symm, fun c2 => ⟨hi, fun c3 => ri_p (b2i_f (by omega)).symm, fun c3 => ri_p (b2i_t (by omega)).symm⟩⟩⟩
theorem c_Arranger_spanOfSigns {f n : Nat} (hf : f ≤ 6) (hn : n ≤ 6) : WMi E m_Arranger_spanOfSigns (d + 1) [aI f, aI n] σ (fun r τ => r = (f : Int) * 7 + n ∧ τ = σ) := by
  have e : max 0 (min 48 ((f : Int) * 7 + (n : Int))) = (f : Int) * 7 + n := by omega
  exact e_Arranger_spanOfSigns (f : Int) (n : Int) ⟨by omega, by omega, ⟨_, rfl, List.prefix_refl _, e, rfl⟩⟩
theorem c_Arranger_keep {n : Nat} {x y z : Int} (hF : Fix σ) (h : σ.1 32 7 = n) (hn : n < 680) : WMv E m_Arranger_keep d [aP 32, aI x, aI y, aI z] σ (fun τ => τ = wr (wr (wr σ 33 n x) 34 n y) 35 n z) := by
  refine e_Arranger_keep _ _ _ hF ⟨by omega, fun c => by omega, fun c => ⟨by omega, by omega, by omega, rfl, List.prefix_refl _, ?_⟩⟩
  rw [h]
theorem c_Arranger_keepSize {n : Nat} {x y : Int} (hF : Fix σ) (h : σ.1 32 7 = n) (hn : n < 680) : WMv E m_Arranger_keepSize d [aP 32, aI x, aI y] σ (fun τ => τ = wr (wr σ 36 n x) 37 n y) := by
  refine e_Arranger_keepSize _ _ hF ⟨by omega, fun c => by omega, fun c => ⟨by omega, by omega, rfl, List.prefix_refl _, ?_⟩⟩
  rw [h]
theorem c_Arranger_keepText {n : Nat} {x y : Int} (hF : Fix σ) (h : σ.1 32 7 = n) (hn : n < 680) : WMv E m_Arranger_keepText d [aP 32, aL x, aI y] σ (fun τ => τ = wr (wr σ 39 n x) 38 n y) := by
  refine e_Arranger_keepText _ _ hF ⟨by omega, fun c => by omega, fun c => ⟨by omega, by omega, rfl, List.prefix_refl _, ?_⟩⟩
  rw [h]
theorem c_Arranger_partText {i : Nat} {s : Tr} (hF : Fix σ) (h : FoC σ T g t F) (hs : F[i]? = some s) : WMl E m_Arranger_partText d [aP 32, aI i] σ (fun r τ => r = nm (dg 1 s) ∧ τ = σ) := by
  have hI := h.2.2 i s hs
  have hi := (List.getElem?_eq_some_iff.mp hs).1
  have hl := h.1.2
  have hk := h.2.1 s (List.mem_of_getElem? hs)
  have hr := kd_r s
  have hd := dg_len hk.1 0
  have hk2 := hk.2
  refine e_Arranger_partText _ hF ⟨by omega, by rw [hI.1]; omega, fun c => ⟨by omega, rl_p ?_⟩, fun c => ⟨by omega, by omega, rl_p ?_⟩⟩
  · rw [hI.1, kd_A] at c
    rw [hI.2.2.1.2, dg_1 (by simpa using c)]
  · rw [hI.1, kd_A] at c
    rw [hI.2.2.1.2, hI.2.2.1.1, dg_1A c]
    have hp := p8_mono (m := (dg 0 s).length) (n := 20) (by have := dg_len hk.1 1; rw [dg_1A c] at this; simp at this; omega)
    have h20 : p8 20 = 1152921504606846976 := by decide
    rw [lshl_p8 (by decide) (by have := dg_len hk.1 1; rw [dg_1A c] at this; simp at this; omega) (by omega)]
    simp only [nm, List.length_append, List.length_singleton, nm_app, p8, List.length_nil]
    omega
theorem c_Arranger_partDigits {i : Nat} {s : Tr} (hF : Fix σ) (h : FoC σ T g t F) (hs : F[i]? = some s) : WMi E m_Arranger_partDigits d [aP 32, aI i] σ (fun r τ => r = ((dg 1 s).length : Int) ∧ τ = σ) := by
  have hI := h.2.2 i s hs
  have hi := (List.getElem?_eq_some_iff.mp hs).1
  have hl := h.1.2
  have hr := kd_r s
  refine e_Arranger_partDigits _ hF ⟨by omega, by rw [hI.1]; omega, fun c => ⟨by omega, ri_p ?_⟩, fun c => ⟨by omega, ri_p ?_⟩⟩
  · rw [hI.1, kd_A] at c
    rw [hI.2.2.1.1, dg_1 (by simpa using c)]
  · rw [hI.1, kd_A] at c
    rw [hI.2.2.1.1, dg_1A c]
    simp
    omega
theorem c_Arranger_makeBeside {p q : Nat} {a b : Tr} (hF : Fix σ) (h : FoC σ T g t F) (hT : okTab T) (hg : 0 ≤ g ∧ g ≤ 3) (ht : ok t) (ha : F[p]? = some a) (hb : F[q]? = some b) (hm : isM a = false) (hl : (lv a).length + (lv b).length ≤ 6) (hn : F.length < 680) : WMv E m_Arranger_makeBeside (d + 1) [aP 32, aI p, aI q, aI g] σ (fun τ => Fr fqX σ τ ∧ FoC τ T g t (F ++ [.mul a b])) := by
  have hka := h.2.1 a (List.mem_of_getElem? ha)
  have hkb := h.2.1 b (List.mem_of_getElem? hb)
  have hIa := h.2.2 p a ha
  have hIb := h.2.2 q b hb
  have hp := (List.getElem?_eq_some_iff.mp ha).1
  have hq := (List.getElem?_eq_some_iff.mp hb).1
  have h7 := h.1.1
  have hoS := oS_ok (T := T) ht
  have hS : ∀ u ∈ oS t, isS u = true ∧ ok u := fun u hu => ⟨(hoS u hu).1, (hoS u hu).2.1⟩
  have wa := sw_b hT hg hS hka.1
  have wb := sw_b hT hg hS hkb.1
  have hk6 := hka.2
  have hkb6 := hkb.2
  obtain ⟨n1, n2⟩ := nm_beside hka.1 hkb.1 hl
  refine e_Arranger_makeBeside _ _ _ hF ⟨by omega, fun _ => WMv.mono (c_Arranger_keep hF h7 hn) (fun τ2 p2 q2 => ?_), fun c => by omega⟩
  subst q2
  have F2 : Fix (wr (wr (wr σ 33 F.length 64) 34 F.length p) 35 F.length q) := ((hF.wa (by decide)).wa (by decide)).wa (by decide)
  have e2 : ∀ x i, 33 ≤ x → x ≤ 39 → i ≠ (F.length : Int) → (wr (wr (wr σ 33 F.length 64) 34 F.length p) 35 F.length q).1 x i = σ.1 x i := fun x i _ _ hi => by rw [wr_nk _ hi, wr_nk _ hi, wr_nk _ hi]
  have h72 : (wr (wr (wr σ 33 F.length 64) 34 F.length p) 35 F.length q).1 32 7 = (F.length : Int) := by rw [wr_na _ (by decide), wr_na _ (by decide), wr_na _ (by decide)]; exact h7
  rw [e2 36 p (by omega) (by omega) (by omega), e2 37 p (by omega) (by omega) (by omega), e2 36 q (by omega) (by omega) (by omega), e2 37 q (by omega) (by omega) (by omega), hIa.2.1.1, hIa.2.1.2, hIb.2.1.1, hIb.2.1.2]
  refine ⟨F2, by omega, by omega, by omega, by omega, by omega, by omega, WMv.mono (c_Arranger_keepSize F2 h72 hn) (fun τ9 p9 q9 => ?_)⟩
  have C9 : FoC τ9 T g t F := by
    rw [q9]
    exact h.keep (by rw [wr_na _ (by decide), wr_na _ (by decide), h72, h7]) (fun x i _ _ hi => by rw [wr_nk _ hi, wr_nk _ hi]; exact e2 x i (by omega) (by omega) hi)
  have F9 : Fix τ9 := by rw [q9]; exact (F2.wa (by decide)).wa (by decide)
  refine ⟨F9, wml_p (c_Arranger_partText F9 C9 ha) ⟨F9, wmi_p (c_Arranger_partDigits F9 C9 hb) ⟨F9, wml_p (c_Arranger_partText F9 C9 hb) ⟨F9, wmi_p (c_Arranger_partDigits F9 C9 ha) ⟨F9, wmi_p (c_Arranger_partDigits F9 C9 hb) ⟨F9, WMv.mono (c_Arranger_keepText F9 C9.1.1 hn) (fun τ p15 q15 => ?_)⟩⟩⟩⟩⟩⟩
  rw [n1, n2] at q15
  have q16 : τ = fo7 σ F.length 64 p q (wid T g (sbs (oS t) a) + g + wid T g (sbs (oS t) b)) (max (hei T g (sbs (oS t) a)) (hei T g (sbs (oS t) b))) (nm (dg 0 (.mul a b))) (dg 0 (.mul a b)).length := by rw [q15, q9]; rfl
  subst q16
  obtain ⟨r1, r2, r3, r4, r5, r6, r7, r8⟩ := fo7_n (σ := σ) (n := F.length) (k := 64) (p := p) (q := q) (w := (wid T g (sbs (oS t) a) + g + wid T g (sbs (oS t) b))) (h := (max (hei T g (sbs (oS t) a)) (hei T g (sbs (oS t) b)))) (x := (nm (dg 0 (.mul a b)))) (c := (dg 0 (.mul a b)).length)
  have fw := (fo7_fr (σ := σ) (n := F.length) (k := 64) (p := p) (q := q) (w := (wid T g (sbs (oS t) a) + g + wid T g (sbs (oS t) b))) (h := (max (hei T g (sbs (oS t) a)) (hei T g (sbs (oS t) b)))) (x := (nm (dg 0 (.mul a b)))) (c := (dg 0 (.mul a b)).length)).tr (Fr.wr (a := 32) (k := 7) (v := (F.length : Int) + 1) (frO_k (by decide)))
  have eo : ∀ x i, 33 ≤ x → x ≤ 39 → i ≠ (F.length : Int) → (wr (fo7 σ F.length 64 p q (wid T g (sbs (oS t) a) + g + wid T g (sbs (oS t) b)) (max (hei T g (sbs (oS t) a)) (hei T g (sbs (oS t) b))) (nm (dg 0 (.mul a b))) (dg 0 (.mul a b)).length) 32 7 ((F.length : Int) + 1)).1 x i = σ.1 x i := fun x i h1 _ hi => by rw [wr_na _ (by omega), fo7_o hi]
  refine ⟨fo7_fr.fix hF (by decide), ?_⟩
  rw [r8, h7]
  refine ⟨rfl, pre_eq fw.1, fw, h.push (wr_same _ _ _ _) hn eo ⟨by simp [okP, hka.1, hkb.1, hm], by simp only [lv, List.length_append]; exact hl⟩ ⟨?_, ⟨?_, ?_⟩, ⟨?_, ?_⟩, p, q, ha, hb, ?_, ?_⟩⟩
  · rw [wr_na _ (by decide)]; exact r1
  · rw [wr_na _ (by decide)]; exact r4
  · rw [wr_na _ (by decide)]; exact r5
  · rw [wr_na _ (by decide)]; exact r6
  · rw [wr_na _ (by decide)]; exact r7
  · rw [wr_na _ (by decide)]; exact r2
  · rw [wr_na _ (by decide)]; exact r3
theorem c_Arranger_makeAbove {p q : Nat} {a b : Tr} (hF : Fix σ) (h : FoC σ T g t F) (hT : okTab T) (hg : 0 ≤ g ∧ g ≤ 3) (ht : ok t) (ha : F[p]? = some a) (hb : F[q]? = some b) (hm : isA a = false) (hl : (lv a).length + (lv b).length ≤ 6) (hn : F.length < 680) : WMv E m_Arranger_makeAbove (d + 1) [aP 32, aI p, aI q, aI g] σ (fun τ => Fr fqX σ τ ∧ FoC τ T g t (F ++ [.add a b])) := by
  have hka := h.2.1 a (List.mem_of_getElem? ha)
  have hkb := h.2.1 b (List.mem_of_getElem? hb)
  have hIa := h.2.2 p a ha
  have hIb := h.2.2 q b hb
  have hp := (List.getElem?_eq_some_iff.mp ha).1
  have hq := (List.getElem?_eq_some_iff.mp hb).1
  have h7 := h.1.1
  have hoS := oS_ok (T := T) ht
  have hS : ∀ u ∈ oS t, isS u = true ∧ ok u := fun u hu => ⟨(hoS u hu).1, (hoS u hu).2.1⟩
  have wa := sw_b hT hg hS hka.1
  have wb := sw_b hT hg hS hkb.1
  have hk6 := hka.2
  have hkb6 := hkb.2
  obtain ⟨n1, n2⟩ := nm_above hka.1 hkb.1 hl
  refine e_Arranger_makeAbove _ _ _ hF ⟨by omega, fun _ => WMv.mono (c_Arranger_keep hF h7 hn) (fun τ2 p2 q2 => ?_), fun c => by omega⟩
  subst q2
  have F2 : Fix (wr (wr (wr σ 33 F.length 65) 34 F.length p) 35 F.length q) := ((hF.wa (by decide)).wa (by decide)).wa (by decide)
  have e2 : ∀ x i, 33 ≤ x → x ≤ 39 → i ≠ (F.length : Int) → (wr (wr (wr σ 33 F.length 65) 34 F.length p) 35 F.length q).1 x i = σ.1 x i := fun x i _ _ hi => by rw [wr_nk _ hi, wr_nk _ hi, wr_nk _ hi]
  have h72 : (wr (wr (wr σ 33 F.length 65) 34 F.length p) 35 F.length q).1 32 7 = (F.length : Int) := by rw [wr_na _ (by decide), wr_na _ (by decide), wr_na _ (by decide)]; exact h7
  rw [e2 36 p (by omega) (by omega) (by omega), e2 37 p (by omega) (by omega) (by omega), e2 36 q (by omega) (by omega) (by omega), e2 37 q (by omega) (by omega) (by omega), hIa.2.1.1, hIa.2.1.2, hIb.2.1.1, hIb.2.1.2]
  refine ⟨F2, by omega, by omega, by omega, by omega, by omega, by omega, WMv.mono (c_Arranger_keepSize F2 h72 hn) (fun τ9 p9 q9 => ?_)⟩
  have C9 : FoC τ9 T g t F := by
    rw [q9]
    exact h.keep (by rw [wr_na _ (by decide), wr_na _ (by decide), h72, h7]) (fun x i _ _ hi => by rw [wr_nk _ hi, wr_nk _ hi]; exact e2 x i (by omega) (by omega) hi)
  have F9 : Fix τ9 := by rw [q9]; exact (F2.wa (by decide)).wa (by decide)
  have cIa := C9.2.2 p a ha
  have cIb := C9.2.2 q b hb
  rw [cIa.2.2.1.1, cIa.2.2.1.2, cIb.2.2.1.1, cIb.2.2.1.2, n1, n2]
  refine ⟨F9, by omega, by omega, by omega, by omega, by omega, WMv.mono (c_Arranger_keepText F9 C9.1.1 hn) (fun τ p15 q15 => ?_)⟩
  have q16 : τ = fo7 σ F.length 65 p q (max (wid T g (sbs (oS t) a)) (wid T g (sbs (oS t) b))) (hei T g (sbs (oS t) a) + g + hei T g (sbs (oS t) b)) (nm (dg 0 (.add a b))) (dg 0 (.add a b)).length := by rw [q15, q9]; rfl
  subst q16
  obtain ⟨r1, r2, r3, r4, r5, r6, r7, r8⟩ := fo7_n (σ := σ) (n := F.length) (k := 65) (p := p) (q := q) (w := (max (wid T g (sbs (oS t) a)) (wid T g (sbs (oS t) b)))) (h := (hei T g (sbs (oS t) a) + g + hei T g (sbs (oS t) b))) (x := (nm (dg 0 (.add a b)))) (c := (dg 0 (.add a b)).length)
  have fw := (fo7_fr (σ := σ) (n := F.length) (k := 65) (p := p) (q := q) (w := (max (wid T g (sbs (oS t) a)) (wid T g (sbs (oS t) b)))) (h := (hei T g (sbs (oS t) a) + g + hei T g (sbs (oS t) b))) (x := (nm (dg 0 (.add a b)))) (c := (dg 0 (.add a b)).length)).tr (Fr.wr (a := 32) (k := 7) (v := (F.length : Int) + 1) (frO_k (by decide)))
  have eo : ∀ x i, 33 ≤ x → x ≤ 39 → i ≠ (F.length : Int) → (wr (fo7 σ F.length 65 p q (max (wid T g (sbs (oS t) a)) (wid T g (sbs (oS t) b))) (hei T g (sbs (oS t) a) + g + hei T g (sbs (oS t) b)) (nm (dg 0 (.add a b))) (dg 0 (.add a b)).length) 32 7 ((F.length : Int) + 1)).1 x i = σ.1 x i := fun x i h1 _ hi => by rw [wr_na _ (by omega), fo7_o hi]
  refine ⟨fo7_fr.fix hF (by decide), ?_⟩
  rw [r8, h7]
  refine ⟨rfl, pre_eq fw.1, fw, h.push (wr_same _ _ _ _) hn eo ⟨by simp [okP, hka.1, hkb.1, hm], by simp only [lv, List.length_append]; exact hl⟩ ⟨?_, ⟨?_, ?_⟩, ⟨?_, ?_⟩, p, q, ha, hb, ?_, ?_⟩⟩
  · rw [wr_na _ (by decide)]; exact r1
  · rw [wr_na _ (by decide)]; exact r4
  · rw [wr_na _ (by decide)]; exact r5
  · rw [wr_na _ (by decide)]; exact r6
  · rw [wr_na _ (by decide)]; exact r7
  · rw [wr_na _ (by decide)]; exact r2
  · rw [wr_na _ (by decide)]; exact r3
end CArr
