/-! natural sizes -/
def wid (T : Tb) (g : Int) : Tr → Int
  | .var l => (T (vN l)).1
  | .pow _ l => (T l).1
  | .mul a b => wid T g a + g + wid T g b
  | .add a b => max (wid T g a) (wid T g b)
  | _ => 0
def hei (T : Tb) (g : Int) : Tr → Int
  | .var l => (T (vN l)).2.1
  | .pow _ l => (T l).2.1
  | .mul a b => max (hei T g a) (hei T g b)
  | .add a b => hei T g a + g + hei T g b
  | _ => 0
theorem size_b {T : Tb} {g : Int} (hT : okTab T) (hg : 0 ≤ g ∧ g ≤ 3) {t : Tr} (h : ok t) (hk : tok T t) : (1 ≤ wid T g t ∧ wid T g t ≤ 15 * sg t - 3) ∧ 1 ≤ hei T g t ∧ hei T g t ≤ 15 * sg t - 3 := by
  induction t with
  | var l =>
    have h1 := hT (vN l) h
    have h2 : 0 < (T (vN l)).1 := hk
    simp only [wid, hei, sg]
    omega
  | pow t l ih =>
    have h1 := hT l h.2
    have h2 : 0 < (T l).1 := hk.1.1
    simp only [wid, hei, sg]
    omega
  | mul a b iha ihb =>
    have := iha h.1 hk.1
    have := ihb h.2.1 hk.2
    simp only [wid, hei, sg]
    omega
  | add a b iha ihb =>
    have := iha h.1 hk.1
    have := ihb h.2.1 hk.2
    simp only [wid, hei, sg]
    omega
  | _ => exact absurd h (by simp [ok])
def alL (f : Tr → Int) (g : Int) (ds : List Tr) : Int := (ds.map f).sum + g * ((ds.length - 1 : Nat) : Int)
def mxL (f : Tr → Int) : List Tr → Int
  | [] => 0
  | q :: ds => max (f q) (mxL f ds)
theorem mxL_snoc (f : Tr → Int) (ds : List Tr) (q : Tr) (h : ∀ u ∈ ds ++ [q], 0 ≤ f u) : mxL f (ds ++ [q]) = max (mxL f ds) (f q) := by
  induction ds with
  | nil => have := h q (by simp); simp [mxL]; omega
  | cons d ds ih =>
    have := ih (fun u hu => h u (by simp at hu ⊢; right; exact hu))
    simp only [List.cons_append, mxL, this]; omega
theorem alL_snoc (f : Tr → Int) (g : Int) (ds : List Tr) (q : Tr) : alL f g (ds ++ [q]) = alL f g ds + (f q + (if 0 < ds.length then g else 0)) := by
  unfold alL
  cases ds with
  | nil => simp
  | cons d ds =>
    simp only [List.map_append, List.map_cons, List.map_nil, List.sum_append, List.sum_cons, List.sum_nil, List.length_append, List.length_cons, List.length_nil]
    rw [if_pos (by omega), show ds.length + 1 + (0 + 1) - 1 = ds.length + 1 by omega, show ds.length + 1 - 1 = ds.length by omega, Int.natCast_add, Int.mul_add]
    simp; omega
theorem wid_pM {T : Tb} {g : Int} (t : Tr) : alL (wid T g) g (pM t) = wid T g t := by
  induction t with
  | mul a b iha ihb =>
    have hl := pM_len b
    have hp := nM_pos b
    simp only [pM, wid, ← ihb, alL, List.map_cons, List.sum_cons, List.length_cons]
    rw [show (pM b).length + 1 - 1 = ((pM b).length - 1) + 1 by omega, Int.natCast_add, Int.mul_add]
    simp; omega
  | _ => simp [pM, alL]
theorem hei_pA {T : Tb} {g : Int} (t : Tr) : alL (hei T g) g (pA t) = hei T g t := by
  induction t with
  | add a b iha ihb =>
    have hl := pA_len b
    have hp := nA_pos b
    simp only [pA, hei, ← ihb, alL, List.map_cons, List.sum_cons, List.length_cons]
    rw [show (pA b).length + 1 - 1 = ((pA b).length - 1) + 1 by omega, Int.natCast_add, Int.mul_add]
    simp; omega
  | _ => simp [pA, alL]
theorem hei_pM {T : Tb} {g : Int} (t : Tr) (h : ∀ u ∈ pM t, 0 ≤ hei T g u) : mxL (hei T g) (pM t) = hei T g t := by
  induction t with
  | mul a b iha ihb =>
    simp only [pM, mxL, hei]
    rw [ihb (fun u hu => h u (by simp [pM, hu]))]
  | _ => have := h _ (by simp [pM]; rfl); simp [pM, mxL]; omega
theorem wid_pA {T : Tb} {g : Int} (t : Tr) (h : ∀ u ∈ pA t, 0 ≤ wid T g u) : mxL (wid T g) (pA t) = wid T g t := by
  induction t with
  | add a b iha ihb =>
    simp only [pA, mxL, wid]
    rw [ihb (fun u hu => h u (by simp [pA, hu]))]
  | _ => have := h _ (by simp [pA]; rfl); simp [pA, mxL]; omega
/-- the trees at the places of a forest -/
def sbF (ts : List Tr) : List Tr := (ts.map (sb 0)).flatten
theorem sbF_cons (t : Tr) (ts : List Tr) : sbF (t :: ts) = sb 0 t ++ sbF ts := by simp [sbF]
theorem sb1_F (t : Tr) : sb 1 t = sbF (pM t) := by
  induction t with
  | mul a b iha ihb => simp [sb, pM, sbF_cons, ihb]
  | _ => simp [sb, pM, sbF]
theorem sb2_F (t : Tr) : sb 2 t = sbF (pA t) := by
  induction t with
  | add a b iha ihb => simp [sb, pA, sbF_cons, ihb]
  | _ => simp [sb, pA, sbF]
theorem sb0_ch {t : Tr} (h : ok t) : sb 0 t = t :: sbF (ch t) := by
  cases t with
  | var l => simp [sb, ch, sbF]
  | pow t l => simp [sb, ch, sbF]
  | mul a b => have := sb1_F (.mul a b); simp only [ch, ← this]; simp [sb]
  | add a b => have := sb2_F (.add a b); simp only [ch, ← this]; simp [sb]
  | _ => exact absurd h (by simp [ok])
theorem sb_block {t : Tr} (h : ok t) : ∀ (k j : Nat) (u : Tr), (sb k t)[j]? = some u → ∃ A B, sb k t = A ++ (sb 0 u ++ B) ∧ A.length = j ∧ (∀ T, tok T t → tok T u) := by
  induction t with
  | var l =>
    intro k j u hu
    simp only [sb] at hu
    have hj := (List.getElem?_eq_some_iff.mp hu).1
    simp at hj
    subst hj
    simp at hu
    subst hu
    exact ⟨[], [], by simp [sb], rfl, fun _ q => q⟩
  | pow t l ih =>
    intro k j u hu
    simp only [sb] at hu
    cases j with
    | zero =>
      simp at hu
      subst hu
      exact ⟨[], [], by simp [sb], rfl, fun _ q => q⟩
    | succ j =>
      simp only [List.getElem?_cons_succ] at hu
      obtain ⟨A, B, h1, h2, h3⟩ := ih h.1 0 j u hu
      exact ⟨.pow t l :: A, B, by simp [sb, h1], by simp [h2], fun T q => h3 T q.2⟩
  | mul a b iha ihb =>
    intro k j u hu
    have hin : ∀ j2, (sb 0 a ++ sb 1 b)[j2]? = some u → ∃ A B, sb 0 a ++ sb 1 b = A ++ (sb 0 u ++ B) ∧ A.length = j2 ∧ (∀ T, tok T a ∧ tok T b → tok T u) := by
      intro j2 hu2
      by_cases hj : j2 < (sb 0 a).length
      · rw [List.getElem?_append_left hj] at hu2
        obtain ⟨A, B, h1, h2, h3⟩ := iha h.1 0 j2 u hu2
        exact ⟨A, B ++ sb 1 b, by rw [h1]; simp, h2, fun T q => h3 T q.1⟩
      · rw [List.getElem?_append_right (by omega)] at hu2
        obtain ⟨A, B, h1, h2, h3⟩ := ihb h.2.1 1 _ u hu2
        exact ⟨sb 0 a ++ A, B, by rw [h1]; simp, by simp [h2]; omega, fun T q => h3 T q.2⟩
    simp only [sb] at hu
    by_cases hk : k = 1
    · rw [if_pos hk] at hu
      obtain ⟨A, B, h1, h2, h3⟩ := hin j hu
      exact ⟨A, B, by simp [sb, hk, h1], h2, h3⟩
    · rw [if_neg hk] at hu
      cases j with
      | zero =>
        simp at hu
        subst hu
        exact ⟨[], [], by simp [sb, hk], rfl, fun _ q => q⟩
      | succ j =>
        simp only [List.cons_append, List.nil_append, List.getElem?_cons_succ] at hu
        obtain ⟨A, B, h1, h2, h3⟩ := hin j hu
        exact ⟨.mul a b :: A, B, by simp [sb, hk, h1], by simp [h2], h3⟩
  | add a b iha ihb =>
    intro k j u hu
    have hin : ∀ j2, (sb 0 a ++ sb 2 b)[j2]? = some u → ∃ A B, sb 0 a ++ sb 2 b = A ++ (sb 0 u ++ B) ∧ A.length = j2 ∧ (∀ T, tok T a ∧ tok T b → tok T u) := by
      intro j2 hu2
      by_cases hj : j2 < (sb 0 a).length
      · rw [List.getElem?_append_left hj] at hu2
        obtain ⟨A, B, h1, h2, h3⟩ := iha h.1 0 j2 u hu2
        exact ⟨A, B ++ sb 2 b, by rw [h1]; simp, h2, fun T q => h3 T q.1⟩
      · rw [List.getElem?_append_right (by omega)] at hu2
        obtain ⟨A, B, h1, h2, h3⟩ := ihb h.2.1 2 _ u hu2
        exact ⟨sb 0 a ++ A, B, by rw [h1]; simp, by simp [h2]; omega, fun T q => h3 T q.2⟩
    simp only [sb] at hu
    by_cases hk : k = 2
    · rw [if_pos hk] at hu
      obtain ⟨A, B, h1, h2, h3⟩ := hin j hu
      exact ⟨A, B, by simp [sb, hk, h1], h2, h3⟩
    · rw [if_neg hk] at hu
      cases j with
      | zero =>
        simp at hu
        subst hu
        exact ⟨[], [], by simp [sb, hk], rfl, fun _ q => q⟩
      | succ j =>
        simp only [List.cons_append, List.nil_append, List.getElem?_cons_succ] at hu
        obtain ⟨A, B, h1, h2, h3⟩ := hin j hu
        exact ⟨.add a b :: A, B, by simp [sb, hk, h1], by simp [h2], h3⟩
  | _ => exact absurd h (by simp [ok])
