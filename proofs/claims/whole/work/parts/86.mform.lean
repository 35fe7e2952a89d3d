/-! FORMS: normal trees of numbered signs -/
def shT (f : Nat) : Tr → Tr
  | .var l => .var (vN l + f)
  | .mul a b => .mul (shT f a) (shT f b)
  | .add a b => .add (shT f a) (shT f b)
  | t => t
def okP : Tr → Bool
  | .var l => decide (vN l < 26)
  | .mul a b => okP a && okP b && !isM a
  | .add a b => okP a && okP b && !isA a
  | _ => false
def lv : Tr → List Nat
  | .var l => [vN l]
  | .mul a b => lv a ++ lv b
  | .add a b => lv a ++ lv b
  | _ => []
theorem okP_ok {s : Tr} (h : okP s = true) : ok s := by
  induction s with
  | var l => have h2 : vN l < 26 := of_decide_eq_true h; exact h2
  | mul a b iha ihb => simp only [okP, Bool.and_eq_true, Bool.not_eq_true'] at h; exact ⟨iha h.1.1, ihb h.1.2, h.2⟩
  | add a b iha ihb => simp only [okP, Bool.and_eq_true, Bool.not_eq_true'] at h; exact ⟨iha h.1.1, ihb h.1.2, h.2⟩
  | _ => simp [okP] at h
theorem okP_mul {a b : Tr} (h : okP (.mul a b) = true) : okP a = true ∧ okP b = true ∧ isM a = false := by
  simp only [okP, Bool.and_eq_true, Bool.not_eq_true'] at h; exact ⟨h.1.1, h.1.2, h.2⟩
theorem okP_add {a b : Tr} (h : okP (.add a b) = true) : okP a = true ∧ okP b = true ∧ isA a = false := by
  simp only [okP, Bool.and_eq_true, Bool.not_eq_true'] at h; exact ⟨h.1.1, h.1.2, h.2⟩
theorem okP_tn {s : Tr} (h : okP s = true) : okP (tn s) = true ∧ lv (tn s) = lv s := by
  induction s with
  | var l => exact ⟨h, rfl⟩
  | mul a b iha ihb =>
    obtain ⟨h1, h2, h3⟩ := okP_mul h
    have ia := iha h1
    have ib := ihb h2
    simp [tn, okP, lv, ia.1, ib.1, ia.2, ib.2, (tn_isM a).2, h3]
  | add a b iha ihb =>
    obtain ⟨h1, h2, h3⟩ := okP_add h
    have ia := iha h1
    have ib := ihb h2
    simp [tn, okP, lv, ia.1, ib.1, ia.2, ib.2, (tn_isM a).1, h3]
  | _ => simp [okP] at h
theorem sg_lv {s : Tr} (h : okP s = true) : sg s = (lv s).length := by
  induction s with
  | var l => rfl
  | mul a b iha ihb => obtain ⟨h1, h2, -⟩ := okP_mul h; simp [sg, lv, iha h1, ihb h2]
  | add a b iha ihb => obtain ⟨h1, h2, -⟩ := okP_add h; simp [sg, lv, iha h1, ihb h2]
  | _ => simp [okP] at h
/-- what becomes of a node of a form -/
def gN (f : Int) (tr : Bool) (x : Int) : Int := if x < 200 then x + f else if tr then (if x < 300 then x + 100 else x - 100) else x
theorem shT_n (f : Nat) (s : Tr) : nM (shT f s) = nM s ∧ nA (shT f s) = nA s ∧ isM (shT f s) = isM s ∧ isA (shT f s) = isA s := by
  induction s with
  | mul a b iha ihb => exact ⟨by simp [shT, nM, ihb.1], rfl, rfl, rfl⟩
  | add a b iha ihb => exact ⟨rfl, by simp [shT, nA, ihb.2.1], rfl, rfl⟩
  | _ => exact ⟨rfl, rfl, rfl, rfl⟩
theorem rc_gF {f : Nat} {s : Tr} (h : okP s = true) (h50 : sg s ≤ 50) : ∀ k, (rc k s).map (gN f false) = rc k (shT f s) := by
  induction s with
  | var l =>
    intro k
    have h2 : vN l < 26 := of_decide_eq_true h
    have e : gN f false ((vN l : Int) + 1) = (vN l : Int) + 1 + f := by unfold gN; rw [if_pos (by omega)]
    simp only [rc, List.map_cons, List.map_nil, e, shT]
    show [(vN l : Int) + 1 + f] = [((vN l + f : Nat) : Int) + 1]
    rw [show ((vN l + f : Nat) : Int) + 1 = (vN l : Int) + 1 + f by omega]
  | mul a b iha ihb =>
    intro k
    obtain ⟨h1, h2, h3⟩ := okP_mul h
    simp only [sg] at h50
    have e : gN f false ((nM b : Int) + 201) = (nM b : Int) + 201 := by unfold gN; rw [if_neg (by omega)]; rfl
    simp only [shT, rc, (shT_n f b).1]
    split <;> simp [iha h1 (by omega), ihb h2 (by omega), e]
  | add a b iha ihb =>
    intro k
    obtain ⟨h1, h2, h3⟩ := okP_add h
    simp only [sg] at h50
    have e : gN f false ((nA b : Int) + 301) = (nA b : Int) + 301 := by unfold gN; rw [if_neg (by omega)]; rfl
    simp only [shT, rc, (shT_n f b).2.1]
    split <;> simp [iha h1 (by omega), ihb h2 (by omega), e]
  | _ => simp [okP] at h
def sw : Nat → Nat
  | 1 => 2
  | 2 => 1
  | k => k
theorem rc_gT {f : Nat} {s : Tr} (h : okP s = true) (h50 : sg s ≤ 50) : ∀ k, k ≤ 2 → (rc k s).map (gN f true) = rc (sw k) (shT f (tn s)) := by
  induction s with
  | var l =>
    intro k hk
    have h2 : vN l < 26 := of_decide_eq_true h
    have e : gN f true ((vN l : Int) + 1) = (vN l : Int) + 1 + f := by unfold gN; rw [if_pos (by omega)]
    simp only [tn, rc, List.map_cons, List.map_nil, e, shT]
    show [(vN l : Int) + 1 + f] = [((vN l + f : Nat) : Int) + 1]
    rw [show ((vN l + f : Nat) : Int) + 1 = (vN l : Int) + 1 + f by omega]
  | mul a b iha ihb =>
    intro k hk
    obtain ⟨h1, h2, h3⟩ := okP_mul h
    have hl := nM_le (okP_ok h2)
    simp only [sg] at h50
    have e : gN f true ((nM b : Int) + 201) = (nM b : Int) + 301 := by unfold gN; rw [if_neg (by omega), if_pos rfl, if_pos (by omega)]; omega
    have ia := iha h1 (by omega) 0 (by omega)
    have ib := ihb h2 (by omega) 1 (by omega)
    have e0 : sw 0 = 0 := rfl
    have e1 : sw 1 = 2 := rfl
    rw [e0] at ia
    rw [e1] at ib
    simp only [tn, shT, rc, (shT_n f (tn b)).2.1, (tn_p b).2.2.1]
    have hs : k = 1 ↔ sw k = 2 := by
      match k, hk with
      | 0, _ => simp [sw]
      | 1, _ => simp [sw]
      | 2, _ => simp [sw]
    by_cases hk1 : k = 1
    · rw [if_pos hk1, if_pos (hs.mp hk1)]; simp [ia, ib]
    · rw [if_neg hk1, if_neg (fun q => hk1 (hs.mpr q))]; simp [ia, ib, e]
  | add a b iha ihb =>
    intro k hk
    obtain ⟨h1, h2, h3⟩ := okP_add h
    have hl := nA_le (okP_ok h2)
    simp only [sg] at h50
    have e : gN f true ((nA b : Int) + 301) = (nA b : Int) + 201 := by unfold gN; rw [if_neg (by omega), if_pos rfl, if_neg (by omega)]; omega
    have ia := iha h1 (by omega) 0 (by omega)
    have ib := ihb h2 (by omega) 2 (by omega)
    have e0 : sw 0 = 0 := rfl
    have e1 : sw 2 = 1 := rfl
    rw [e0] at ia
    rw [e1] at ib
    simp only [tn, shT, rc, (shT_n f (tn b)).1, (tn_p b).2.2.2]
    have hs : k = 2 ↔ sw k = 1 := by
      match k, hk with
      | 0, _ => simp [sw]
      | 1, _ => simp [sw]
      | 2, _ => simp [sw]
    by_cases hk1 : k = 2
    · rw [if_pos hk1, if_pos (hs.mp hk1)]; simp [ia, ib]
    · rw [if_neg hk1, if_neg (fun q => hk1 (hs.mpr q))]; simp [ia, ib, e]
  | _ => simp [okP] at h
/-- signs come in the numbers' place -/
def sbs (xs : List Tr) : Tr → Tr
  | .var l => xs.getD (vN l) (.var 0)
  | .mul a b => .mul (sbs xs a) (sbs xs b)
  | .add a b => .add (sbs xs a) (sbs xs b)
  | t => t
def ex (xs : List Tr) (x : Int) : List Int := if x < 200 then rc 0 (xs.getD (x - 1).toNat (.var 0)) else [x]
theorem getX_S {xs : List Tr} (h : ∀ u ∈ xs, isS u = true) (i : Nat) : isS (xs.getD i (.var 0)) = true := by
  rw [List.getD_eq_getElem?_getD]
  cases hh : xs[i]? with
  | none => rfl
  | some u => exact h u (List.mem_of_getElem? hh)
theorem isS_n {u : Tr} (h : isS u = true) : nM u = 1 ∧ nA u = 1 ∧ isM u = false ∧ isA u = false := by cases u <;> simp_all [isS, nM, nA, isM, isA]
theorem sbs_n {xs : List Tr} (h : ∀ u ∈ xs, isS u = true) {s : Tr} (hs : okP s = true) : nM (sbs xs s) = nM s ∧ nA (sbs xs s) = nA s ∧ isM (sbs xs s) = isM s ∧ isA (sbs xs s) = isA s := by
  induction s with
  | var l => exact isS_n (getX_S h (vN l))
  | mul a b iha ihb => obtain ⟨h1, h2, -⟩ := okP_mul hs; exact ⟨by simp [sbs, nM, (ihb h2).1], rfl, rfl, rfl⟩
  | add a b iha ihb => obtain ⟨h1, h2, -⟩ := okP_add hs; exact ⟨rfl, by simp [sbs, nA, (ihb h2).2.1], rfl, rfl⟩
  | _ => simp [okP] at hs
theorem rc_sbs {xs : List Tr} (h : ∀ u ∈ xs, isS u = true) {s : Tr} (hs : okP s = true) : ∀ k, rc k (sbs xs s) = (rc k s).flatMap (ex xs) := by
  induction s with
  | var l =>
    intro k
    have h2 : vN l < 26 := of_decide_eq_true hs
    have hS := getX_S h (vN l)
    have e1 : rc k (xs.getD (vN l) (.var 0)) = rc 0 (xs.getD (vN l) (.var 0)) := by
      generalize xs.getD (vN l) (.var 0) = u at hS
      cases u <;> simp_all [isS, rc]
    show rc k (xs.getD (vN l) (.var 0)) = _
    rw [e1]
    simp only [rc, List.flatMap_cons, List.flatMap_nil, List.append_nil]
    unfold ex
    rw [if_pos (by omega), show ((vN l : Int) + 1 - 1).toNat = vN l by omega]
  | mul a b iha ihb =>
    intro k
    obtain ⟨h1, h2, -⟩ := okP_mul hs
    have e : ex xs ((nM b : Int) + 201) = [(nM b : Int) + 201] := by unfold ex; rw [if_neg (by omega)]
    simp only [sbs, rc, (sbs_n h h2).1]
    split <;> simp [iha h1, ihb h2, e]
  | add a b iha ihb =>
    intro k
    obtain ⟨h1, h2, -⟩ := okP_add hs
    have e : ex xs ((nA b : Int) + 301) = [(nA b : Int) + 301] := by unfold ex; rw [if_neg (by omega)]
    simp only [sbs, rc, (sbs_n h h2).2.1]
    split <;> simp [iha h1, ihb h2, e]
  | _ => simp [okP] at hs
theorem sbs_ok {xs : List Tr} (h : ∀ u ∈ xs, isS u = true ∧ ok u) {s : Tr} (hs : okP s = true) : ok (sbs xs s) := by
  have h' : ∀ u ∈ xs, isS u = true := fun u hu => (h u hu).1
  induction s with
  | var l =>
    show ok (xs.getD (vN l) (.var 0))
    rw [List.getD_eq_getElem?_getD]
    cases hh : xs[vN l]? with
    | none => show vN 0 < 26; decide
    | some u => exact (h u (List.mem_of_getElem? hh)).2
  | mul a b iha ihb =>
    obtain ⟨h1, h2, h3⟩ := okP_mul hs
    exact ⟨iha h1, ihb h2, by rw [(sbs_n h' h1).2.2.1]; exact h3⟩
  | add a b iha ihb =>
    obtain ⟨h1, h2, h3⟩ := okP_add hs
    exact ⟨iha h1, ihb h2, by rw [(sbs_n h' h1).2.2.2]; exact h3⟩
  | _ => simp [okP] at hs
theorem sbs_sg (xs : List Tr) {s : Tr} (hs : okP s = true) : sg (sbs xs s) = ((lv s).map (fun i => sg (xs.getD i (.var 0)))).sum := by
  induction s with
  | var l => simp [sbs, lv]
  | mul a b iha ihb => obtain ⟨h1, h2, -⟩ := okP_mul hs; simp only [sbs, sg, lv, iha h1, ihb h2, List.map_append, List.sum_append_nat]
  | add a b iha ihb => obtain ⟨h1, h2, -⟩ := okP_add hs; simp only [sbs, sg, lv, iha h1, ihb h2, List.map_append, List.sum_append_nat]
  | _ => simp [okP] at hs
theorem range_map_getD {α β : Type} (d : α) (f : α → β) : ∀ (xs : List α), (List.range xs.length).map (fun i => f (xs.getD i d)) = xs.map f := by
  intro xs
  refine List.ext_getElem (by simp) (fun i h1 h2 => ?_)
  simp at h1
  simp [h1]
theorem sbs_prop {P : Tr → Prop} (hM : ∀ a b, P a → P b → P (.mul a b)) (hA : ∀ a b, P a → P b → P (.add a b)) {xs : List Tr} (h : ∀ u ∈ xs, P u) {s : Tr} (hs : okP s = true) (hl : ∀ i ∈ lv s, i < xs.length) : P (sbs xs s) := by
  induction s with
  | var l =>
    have h1 := hl (vN l) (by simp [lv])
    show P (xs.getD (vN l) (.var 0))
    rw [List.getD_eq_getElem?_getD, List.getElem?_eq_getElem h1]
    exact h _ (List.getElem_mem h1)
  | mul a b iha ihb =>
    obtain ⟨h1, h2, -⟩ := okP_mul hs
    exact hM _ _ (iha h1 (fun i hi => hl i (by simp [lv, hi]))) (ihb h2 (fun i hi => hl i (by simp [lv, hi])))
  | add a b iha ihb =>
    obtain ⟨h1, h2, -⟩ := okP_add hs
    exact hA _ _ (iha h1 (fun i hi => hl i (by simp [lv, hi]))) (ihb h2 (fun i hi => hl i (by simp [lv, hi])))
  | _ => simp [okP] at hs
/-- the signs inside none -/
def oS : Tr → List Tr
  | .mul a b => oS a ++ oS b
  | .add a b => oS a ++ oS b
  | .var l => [.var l]
  | .pow t l => [.pow t l]
  | _ => []
theorem oS_len (t : Tr) : (oS t).length = so t := by
  induction t with
  | mul a b iha ihb => simp [oS, so, iha, ihb]
  | add a b iha ihb => simp [oS, so, iha, ihb]
  | _ => simp [oS, so]
theorem oS_sg {t : Tr} (h : ok t) : ((oS t).map sg).sum = sg t := by
  induction t with
  | mul a b iha ihb => simp [oS, sg, iha h.1, ihb h.2.1]
  | add a b iha ihb => simp [oS, sg, iha h.1, ihb h.2.1]
  | var l => simp [oS]
  | pow t l ih => simp [oS]
  | _ => exact absurd h (by simp [ok])
theorem oS_ok {T : Tb} {t : Tr} (h : ok t) : ∀ u ∈ oS t, isS u = true ∧ ok u ∧ sg u ≤ sg t ∧ dcp u ≤ dcp t ∧ (tok T t → tok T u) := by
  induction t with
  | mul a b iha ihb =>
    intro u hu
    simp only [sg, dcp]
    rcases List.mem_append.mp hu with q | q
    · have := iha h.1 u q; exact ⟨this.1, this.2.1, by omega, by omega, fun z => this.2.2.2.2 z.1⟩
    · have := ihb h.2.1 u q; exact ⟨this.1, this.2.1, by omega, by omega, fun z => this.2.2.2.2 z.2⟩
  | add a b iha ihb =>
    intro u hu
    simp only [sg, dcp]
    rcases List.mem_append.mp hu with q | q
    · have := iha h.1 u q; exact ⟨this.1, this.2.1, by omega, by omega, fun z => this.2.2.2.2 z.1⟩
    · have := ihb h.2.1 u q; exact ⟨this.1, this.2.1, by omega, by omega, fun z => this.2.2.2.2 z.2⟩
  | var l => intro u hu; simp [oS] at hu; subst hu; exact ⟨rfl, h, Nat.le_refl _, Nat.le_refl _, id⟩
  | pow t l ih => intro u hu; simp [oS] at hu; subst hu; exact ⟨rfl, h, Nat.le_refl _, Nat.le_refl _, id⟩
  | _ => exact absurd h (by simp [ok])
theorem sbs_okS {T : Tb} {t s : Tr} (ht : okS T t) (hs : okP s = true) (hl : lv s = List.range (so t)) : okS T (sbs (oS t) s) ∧ sg (sbs (oS t) s) = sg t := by
  have ho := oS_ok (T := T) ht.1
  have hi : ∀ i ∈ lv s, i < (oS t).length := by rw [hl, oS_len]; intro i hi; exact List.mem_range.mp hi
  have hg : sg (sbs (oS t) s) = sg t := by
    rw [sbs_sg _ hs, hl, ← oS_len, range_map_getD (.var 0) sg, oS_sg ht.1]
  refine ⟨⟨sbs_ok (fun u hu => ⟨(ho u hu).1, (ho u hu).2.1⟩) hs, by rw [hg]; exact ht.2.1, ?_, ?_⟩, hg⟩
  · refine sbs_prop (P := fun u => dcp u ≤ 3) (fun a b q1 q2 => by simp only [dcp]; omega) (fun a b q1 q2 => by simp only [dcp]; omega) (fun u hu => ?_) hs hi
    have h1 := (ho u hu).2.2.2.1
    have h2 := ht.2.2.1
    omega
  · exact sbs_prop (P := tok T) (fun a b q1 q2 => ⟨q1, q2⟩) (fun a b q1 q2 => ⟨q1, q2⟩) (fun u hu => (ho u hu).2.2.2.2 ht.2.2.2) hs hi
/-- the forms whose parts are beside one another -/
def pcs (n f : Nat) (a b : Tr) : List Tr := if n - f = 1 then [.mul (tn a) (shT f b)] else [.mul (tn a) (shT f (tn b)), .mul (tn a) (shT f b)]
def pcA (Fs : Nat → List Tr) (n f : Nat) (a : Tr) : List Tr := (Fs (n - f)).flatMap (pcs n f a)
def pcF (Fs : Nat → List Tr) (n f : Nat) : List Tr := (Fs f).flatMap (pcA Fs n f)
def fnL (Fs : Nat → List Tr) (n : Nat) : List Tr := (List.range (n - 1)).flatMap (fun j => pcF Fs n (j + 1))
def fTb : Nat → Nat → List Tr
  | 0, _ => []
  | k + 1, m => if m ≤ k then fTb k m else if k = 0 then [.var 0] else fnL (fTb k) (k + 1)
def fF (n : Nat) : List Tr := fTb 6 n
def offF (n : Nat) : Nat := [0, 0, 0, 1, 4, 15, 60, 257].getD n 0
theorem fF_1 : fF 1 = [.var 0] := by rfl
theorem fF_n : ∀ n, 2 ≤ n → n ≤ 6 → fF n = fnL fF n := by
  intro n h1 h2
  match n, h1, h2 with
  | 2, _, _ => rfl
  | 3, _, _ => rfl
  | 4, _, _ => rfl
  | 5, _, _ => rfl
  | 6, _, _ => rfl
theorem fF_len : ∀ n, 2 ≤ n → n ≤ 6 → offF n + (fF n).length = offF (n + 1) := by
  intro n h1 h2
  match n, h1, h2 with
  | 2, _, _ => decide +kernel
  | 3, _, _ => decide +kernel
  | 4, _, _ => decide +kernel
  | 5, _, _ => decide +kernel
  | 6, _, _ => decide +kernel
theorem fF_all : ∀ n, 1 ≤ n → n ≤ 6 → (fF n).all (fun s => okP s && (isM s || n == 1) && lv s == List.range n) = true := by
  intro n h1 h2
  match n, h1, h2 with
  | 1, _, _ => decide +kernel
  | 2, _, _ => decide +kernel
  | 3, _, _ => decide +kernel
  | 4, _, _ => decide +kernel
  | 5, _, _ => decide +kernel
  | 6, _, _ => decide +kernel
theorem fF_ok {n : Nat} (h1 : 1 ≤ n) (h2 : n ≤ 6) {s : Tr} (hs : s ∈ fF n) : okP s = true ∧ (isM s = true ∨ n = 1) ∧ lv s = List.range n ∧ sg s = n := by
  have h := List.all_eq_true.mp (fF_all n h1 h2) s hs
  simp only [Bool.and_eq_true, Bool.or_eq_true, beq_iff_eq] at h
  exact ⟨h.1.1, h.1.2, h.2, by rw [sg_lv h.1.1, h.2, List.length_range]⟩
