/-! ARRANGEMENTS: a form's text as a number -/
def p8 : Nat → Int
  | 0 => 1
  | n + 1 => 8 * p8 n
theorem p8_pos (n : Nat) : 1 ≤ p8 n := by
  induction n with
  | zero => decide
  | succ n ih => simp only [p8]; omega
theorem p8_add (m n : Nat) : p8 (m + n) = p8 m * p8 n := by
  induction m with
  | zero => rw [Nat.zero_add]; show _ = 1 * p8 n; omega
  | succ m ih => rw [Nat.succ_add]; simp only [p8]; rw [ih, Int.mul_assoc]
theorem p8_mono {m n : Nat} (h : m ≤ n) : p8 m ≤ p8 n := by
  obtain ⟨k, rfl⟩ : ∃ k, n = m + k := ⟨n - m, by omega⟩
  rw [p8_add]
  have h1 := p8_pos m
  have h2 := Int.mul_le_mul_of_nonneg_left (p8_pos k) (show 0 ≤ p8 m by omega)
  omega
def nm : List Int → Int
  | [] => 0
  | x :: L => x * p8 L.length + nm L
theorem nm_app (A B : List Int) : nm (A ++ B) = nm A * p8 B.length + nm B := by
  induction A with
  | nil => simp [nm]
  | cons x A ih => rw [List.cons_append]; simp only [nm]; rw [ih, List.length_append, p8_add, Int.add_mul, Int.mul_assoc]; omega
def dgs (L : List Int) : Prop := ∀ x ∈ L, 1 ≤ x ∧ x ≤ 5
theorem dgs.app {A B : List Int} (h : dgs A) (h2 : dgs B) : dgs (A ++ B) := fun x hx => (List.mem_append.mp hx).elim (h x) (h2 x)
theorem dgs.cons {x : Int} {B : List Int} (h : 1 ≤ x ∧ x ≤ 5) (h2 : dgs B) : dgs (x :: B) := fun y hy => (List.mem_cons.mp hy).elim (fun q => q ▸ h) (h2 y)
theorem dgs.hd {x : Int} {B : List Int} (h : dgs (x :: B)) : (1 ≤ x ∧ x ≤ 5) ∧ dgs B := ⟨h x List.mem_cons_self, fun y hy => h y (List.mem_cons_of_mem _ hy)⟩
theorem nm_b {L : List Int} (h : dgs L) : 0 ≤ nm L ∧ nm L < p8 L.length := by
  induction L with
  | nil => simp [nm, p8]
  | cons x L ih =>
    obtain ⟨h1, h2⟩ := h.hd
    have h3 := ih h2
    have h4 := p8_pos L.length
    have h5 : x * p8 L.length ≤ 5 * p8 L.length := Int.mul_le_mul_of_nonneg_right h1.2 (by omega)
    have h6 : 1 * p8 L.length ≤ x * p8 L.length := Int.mul_le_mul_of_nonneg_right h1.1 (by omega)
    simp only [nm, List.length_cons, p8]
    omega
theorem nm_lo {x : Int} {L : List Int} (h : dgs (x :: L)) : p8 L.length ≤ nm (x :: L) := by
  obtain ⟨h1, h2⟩ := h.hd
  have h3 := nm_b h2
  have h4 := p8_pos L.length
  have h6 : 1 * p8 L.length ≤ x * p8 L.length := Int.mul_le_mul_of_nonneg_right h1.1 (by omega)
  simp only [nm]
  omega
theorem ltL_nm : ∀ (A B : List Int), dgs A → dgs B → A.length = B.length → (ltL A B = true ↔ nm A < nm B)
  | [], [], _, _, _ => by simp [ltL, nm]
  | [], y :: B, _, _, h => by simp at h
  | x :: A, [], _, _, h => by simp at h
  | x :: A, y :: B, hA, hB, h => by
    have hl : A.length = B.length := by simpa using h
    have a1 := hA.hd
    have b1 := hB.hd
    have ih := ltL_nm A B a1.2 b1.2 hl
    have na := nm_b a1.2
    have nb := nm_b b1.2
    simp only [ltL, nm]
    rw [← hl]
    rw [← hl] at nb
    have hp := p8_pos A.length
    by_cases c : x = y
    · subst c
      rw [if_pos rfl, ih]
      omega
    · rw [if_neg c, decide_eq_true_iff]
      constructor
      · intro q
        have := Int.mul_le_mul_of_nonneg_right (show x + 1 ≤ y by omega) (show 0 ≤ p8 A.length by omega)
        rw [Int.add_mul] at this
        omega
      · intro q
        refine Int.not_le.mp (fun z => ?_)
        have := Int.mul_le_mul_of_nonneg_right (show y + 1 ≤ x by omega) (show 0 ≤ p8 A.length by omega)
        rw [Int.add_mul] at this
        omega
/-- two numbers of digits: the shorter is less -/
theorem nm_len {A B : List Int} (hA : dgs A) (hB : dgs B) (h : A.length < B.length) : nm A < nm B := by
  cases B with
  | nil => simp at h
  | cons y B =>
    have h1 := nm_b hA
    have h2 := nm_lo hB
    have h3 := p8_mono (show A.length ≤ B.length by simp at h; omega)
    omega
/-- a form's text; each sign is a 5 -/
def dg : Nat → Tr → List Int
  | _, .var _ => [5]
  | _, .mul a b => dg 1 a ++ (3 :: dg 1 b)
  | k, .add a b => if k = 1 then 1 :: (dg 2 a ++ (4 :: (dg 2 b ++ [2]))) else dg 2 a ++ (4 :: dg 2 b)
  | _, _ => []
theorem dg_dgs (s : Tr) : ∀ k, dgs (dg k s) := by
  induction s with
  | var l => intro k; exact dgs.cons (by omega) (fun x hx => by cases hx)
  | mul a b iha ihb => intro k; exact (iha 1).app (dgs.cons (by omega) (ihb 1))
  | add a b iha ihb =>
    intro k
    simp only [dg]
    split
    · exact dgs.cons (by omega) ((iha 2).app (dgs.cons (by omega) ((ihb 2).app (dgs.cons (by omega) (fun x hx => by cases hx)))))
    · exact (iha 2).app (dgs.cons (by omega) (ihb 2))
  | _ => intro k x hx; simp [dg] at hx
theorem dg_len {s : Tr} (h : okP s = true) : ∀ k, 1 ≤ (dg k s).length ∧ (dg k s).length + 3 ≤ 4 * (lv s).length := by
  induction s with
  | var l => intro k; simp [dg, lv]
  | mul a b iha ihb => intro k; obtain ⟨h1, h2, -⟩ := okP_mul h; have := iha h1 1; have := ihb h2 1; simp only [dg, lv, List.length_append, List.length_cons]; omega
  | add a b iha ihb => intro k; obtain ⟨h1, h2, -⟩ := okP_add h; have := iha h1 2; have := ihb h2 2; simp only [dg, lv]; split <;> simp only [List.length_append, List.length_cons, List.length_nil] <;> omega
  | _ => simp [okP] at h
theorem dg_2 (s : Tr) : dg 2 s = dg 0 s := by cases s <;> simp [dg]
theorem dg_1 {s : Tr} (h : isA s = false) : dg 1 s = dg 0 s := by cases s <;> simp_all [dg, isA]
theorem dg_1A {s : Tr} (h : isA s = true) : dg 1 s = 1 :: (dg 0 s ++ [2]) := by cases s <;> simp_all [dg, isA]
def cdD (x : Int) : Int := if x = 1 then 40 else if x = 2 then 41 else if x = 3 then 42 else 58
def c5 : List Int → Nat
  | [] => 0
  | x :: D => (if x = 5 then 1 else 0) + c5 D
def xp : List Int → List (List Int) → List Int
  | [], _ => []
  | x :: D, ls => if x = 5 then ls.headD [] ++ xp D ls.tail else cdD x :: xp D ls
theorem c5_app (A B : List Int) : c5 (A ++ B) = c5 A + c5 B := by
  induction A with
  | nil => simp [c5]
  | cons x A ih => simp only [List.cons_append, c5, ih]; omega
theorem xp_app : ∀ (A B : List Int) (la lb : List (List Int)), c5 A = la.length → xp (A ++ B) (la ++ lb) = xp A la ++ xp B lb
  | [], B, la, lb, h => by
    have : la = [] := List.eq_nil_of_length_eq_zero (by simpa [c5] using h.symm)
    subst this
    simp [xp]
  | x :: A, B, la, lb, h => by
    simp only [List.cons_append, xp]
    simp only [c5] at h
    by_cases c : x = 5
    · rw [if_pos c] at h
      cases la with
      | nil => simp at h
      | cons p la =>
        rw [if_pos c, if_pos c]
        have := xp_app A B la lb (by simp at h; omega)
        simp only [List.cons_append, List.headD_cons, List.tail_cons, this, List.append_assoc]
    · rw [if_neg c] at h
      rw [if_neg c, if_neg c, xp_app A B la lb (by omega), List.cons_append]
theorem xp_len : ∀ (D : List Int) (ls : List (List Int)), c5 D = ls.length → (xp D ls).length + c5 D = D.length + (ls.map List.length).sum
  | [], ls, h => by
    have : ls = [] := List.eq_nil_of_length_eq_zero (by simpa [c5] using h.symm)
    subst this
    simp [xp, c5]
  | x :: D, ls, h => by
    simp only [xp, c5] at h ⊢
    by_cases c : x = 5
    · rw [if_pos c] at h
      cases ls with
      | nil => simp at h
      | cons p ls =>
        rw [if_pos c, if_pos c]
        have := xp_len D ls (by simp at h; omega)
        simp only [List.headD_cons, List.tail_cons, List.length_append, List.length_cons, List.map_cons, List.sum_cons]
        omega
    · rw [if_neg c] at h
      rw [if_neg c, if_neg c]
      have := xp_len D ls (by omega)
      simp only [List.length_cons]
      omega
theorem ltL_pre (h A B : List Int) : ltL (h ++ A) (h ++ B) = ltL A B := by
  induction h with
  | nil => rfl
  | cons x h ih => simp only [List.cons_append, ltL, if_true, ih]
theorem xp_lt : ∀ (A B : List Int) (ls : List (List Int)), dgs A → dgs B → A.length = B.length → c5 A = ls.length → c5 B = ls.length → (∀ h ∈ ls, ∃ x R, h = x :: R ∧ 97 ≤ x) → ltL (xp A ls) (xp B ls) = ltL A B
  | [], [], _, _, _, _, _, _, _ => rfl
  | [], y :: B, _, _, _, h, _, _, _ => by simp at h
  | x :: A, [], _, _, _, h, _, _, _ => by simp at h
  | x :: A, y :: B, ls, hA, hB, h, ha, hb, hl => by
    have hl2 : A.length = B.length := by simpa using h
    have a1 := hA.hd
    have b1 := hB.hd
    simp only [c5] at ha hb
    simp only [xp, ltL]
    by_cases cx : x = 5
    · rw [if_pos cx] at ha
      cases ls with
      | nil => simp at ha
      | cons p ls =>
        obtain ⟨z, R, hp, hz⟩ := hl p List.mem_cons_self
        by_cases cy : y = 5
        · rw [if_pos cy] at hb
          rw [if_pos cx, if_pos cy, if_pos (cx.trans cy.symm)]
          simp only [List.headD_cons, List.tail_cons]
          rw [ltL_pre]
          exact xp_lt A B ls a1.2 b1.2 hl2 (by simp at ha; omega) (by simp at hb; omega) (fun h hh => hl h (List.mem_cons_of_mem _ hh))
        · rw [if_pos cx, if_neg cy, if_neg (show ¬ x = y by omega), hp]
          have hcd : cdD y ≤ 58 := by unfold cdD; split; omega; split; omega; split <;> omega
          simp only [List.headD_cons, List.cons_append, ltL]
          rw [if_neg (by omega)]
          rw [Bool.eq_iff_iff, decide_eq_true_iff, decide_eq_true_iff]
          omega
    · rw [if_neg cx] at ha
      by_cases cy : y = 5
      · rw [if_pos cy] at hb
        cases ls with
        | nil => simp at hb
        | cons p ls =>
          obtain ⟨z, R, hp, hz⟩ := hl p List.mem_cons_self
          rw [if_neg cx, if_pos cy, if_neg (show ¬ x = y by omega), hp]
          have hcd : cdD x ≤ 58 := by unfold cdD; split; omega; split; omega; split <;> omega
          simp only [List.headD_cons, List.cons_append, ltL]
          rw [if_neg (by omega)]
          rw [Bool.eq_iff_iff, decide_eq_true_iff, decide_eq_true_iff]
          omega
      · rw [if_neg cy] at hb
        rw [if_neg cx, if_neg cy]
        simp only [ltL]
        by_cases c : x = y
        · subst c
          rw [if_pos rfl, if_pos rfl]
          exact xp_lt A B ls a1.2 b1.2 hl2 (by omega) (by omega) hl
        · have hx : x = 1 ∨ x = 2 ∨ x = 3 ∨ x = 4 := by omega
          have hy : y = 1 ∨ y = 2 ∨ y = 3 ∨ y = 4 := by omega
          rcases hx with rfl | rfl | rfl | rfl <;> rcases hy with rfl | rfl | rfl | rfl <;> first | exact absurd rfl c | simp [cdD]
/-- a candidate's text out of its form's -/
theorem tx_xp {xs : List Tr} (hS : ∀ u ∈ xs, isS u = true) {s : Tr} (hs : okP s = true) : ∀ k, tx k (sbs xs s) = xp (dg k s) ((lv s).map (fun i => tx 0 (xs.getD i (.var 0)))) ∧ c5 (dg k s) = (lv s).length := by
  have c5c : ∀ (y : Int) (A B : List Int), y ≠ 5 → c5 (A ++ y :: B) = c5 A + c5 B := fun y A B hy => by rw [c5_app]; simp only [c5]; rw [if_neg hy]; omega
  have xc : ∀ (y : Int) (A B : List Int) (la lb : List (List Int)), y ≠ 5 → c5 A = la.length → xp (A ++ y :: B) (la ++ lb) = xp A la ++ (cdD y :: xp B lb) := fun y A B la lb hy ha => by rw [xp_app _ _ _ _ ha]; simp only [xp]; rw [if_neg hy]
  induction s with
  | var l =>
    intro k
    have hh := getX_S hS (vN l)
    refine ⟨?_, rfl⟩
    simp only [sbs, dg, lv, List.map_cons, List.map_nil, xp, if_true, List.headD_cons, List.tail_cons, List.append_nil]
    generalize xs.getD (vN l) (.var 0) = u at hh
    cases u <;> first | rfl | simp [isS] at hh
  | mul a b iha ihb =>
    intro k
    obtain ⟨h1, h2, -⟩ := okP_mul hs
    obtain ⟨ea, ca⟩ := iha h1 1
    obtain ⟨eb, cb⟩ := ihb h2 1
    refine ⟨?_, ?_⟩
    · simp only [sbs, tx, dg, lv, List.map_append]
      rw [xc 3 _ _ _ _ (by decide) (by rw [List.length_map]; exact ca), ← ea, ← eb]
      rfl
    · simp only [dg, lv, List.length_append]
      rw [c5c 3 _ _ (by decide), ca, cb]
  | add a b iha ihb =>
    intro k
    obtain ⟨h1, h2, -⟩ := okP_add hs
    obtain ⟨ea, ca⟩ := iha h1 2
    obtain ⟨eb, cb⟩ := ihb h2 2
    by_cases hk : k = 1
    · subst hk
      refine ⟨?_, ?_⟩
      · simp only [sbs, tx, dg, lv, List.map_append, if_true]
        rw [xp, if_neg (by decide), xc 4 _ _ _ _ (by decide) (by rw [List.length_map]; exact ca)]
        have e2 := xp_app (dg 2 b) [2] ((lv b).map (fun i => tx 0 (xs.getD i (.var 0)))) [] (by rw [List.length_map]; exact cb)
        rw [List.append_nil] at e2
        rw [e2, ← ea, ← eb]
        rfl
      · simp only [dg, lv, List.length_append, if_true, c5]
        rw [c5c 4 _ _ (by decide), c5_app, ca, cb]
        simp [c5]
    · refine ⟨?_, ?_⟩
      · simp only [sbs, tx, dg, lv, List.map_append]
        rw [if_neg hk, if_neg hk, xc 4 _ _ _ _ (by decide) (by rw [List.length_map]; exact ca), ← ea, ← eb]
        rfl
      · simp only [dg, lv, List.length_append]
        rw [if_neg hk, c5c 4 _ _ (by decide), ca, cb]
  | _ => simp [okP] at hs
def bet (T : Tb) (M : Mo) (xs : List Tr) (s1 s2 : Tr) : Prop := gr T M (sbs xs s1) < gr T M (sbs xs s2) ∨ (gr T M (sbs xs s1) = gr T M (sbs xs s2) ∧ nm (dg 0 s1) < nm (dg 0 s2))
theorem btr_bet {T : Tb} {M : Mo} {xs : List Tr} {s1 s2 : Tr} (hS : ∀ u ∈ xs, isS u = true ∧ ok u) (h1 : okP s1 = true) (h2 : okP s2 = true) (hl : lv s1 = lv s2) (hi : ∀ i ∈ lv s1, i < xs.length) : btr T M (sbs xs s1) (sbs xs s2) = true ↔ bet T M xs s1 s2 := by
  have hS' : ∀ u ∈ xs, isS u = true := fun u hu => (hS u hu).1
  obtain ⟨e1, c1⟩ := tx_xp hS' h1 0
  obtain ⟨e2, c2⟩ := tx_xp hS' h2 0
  have b1 := tx_bl (sbs_ok hS h1) 0
  have b2 := tx_bl (sbs_ok hS h2) 0
  have l1 := sbs_bl xs h1
  have l2 := sbs_bl xs h2
  have x1 := xp_len (dg 0 s1) ((lv s1).map (fun i => tx 0 (xs.getD i (.var 0)))) (by rw [List.length_map]; exact c1)
  have x2 := xp_len (dg 0 s2) ((lv s2).map (fun i => tx 0 (xs.getD i (.var 0)))) (by rw [List.length_map]; exact c2)
  rw [← e1] at x1
  rw [← e2] at x2
  rw [← hl] at e2 c2 l2 x2
  have hlet : ∀ h ∈ (lv s1).map (fun i => tx 0 (xs.getD i (.var 0))), ∃ x R, h = x :: R ∧ 97 ≤ x := by
    intro h hh
    obtain ⟨i, hi1, rfl⟩ := List.mem_map.mp hh
    have hs := hS (xs.getD i (.var 0)) (by rw [List.getD_eq_getElem?_getD, List.getElem?_eq_getElem (hi i hi1)]; exact List.getElem_mem _)
    generalize xs.getD i (.var 0) = u at hs
    cases u with
    | var l => exact ⟨_, [], rfl, by omega⟩
    | pow t l => exact ⟨_, _, rfl, by omega⟩
    | _ => exact absurd hs.1 (by simp [isS])
  unfold btr bet
  simp only [Bool.or_eq_true, Bool.and_eq_true, decide_eq_true_iff]
  have key : (bra (tx 0 (sbs xs s1)) < bra (tx 0 (sbs xs s2)) ∨ (bra (tx 0 (sbs xs s1)) = bra (tx 0 (sbs xs s2)) ∧ ltL (tx 0 (sbs xs s1)) (tx 0 (sbs xs s2)) = true)) ↔ nm (dg 0 s1) < nm (dg 0 s2) := by
    rcases Nat.lt_trichotomy (dg 0 s1).length (dg 0 s2).length with q | q | q
    · have := nm_len (dg_dgs s1 0) (dg_dgs s2 0) q
      exact ⟨fun _ => this, fun _ => Or.inl (by omega)⟩
    · have e3 := xp_lt (dg 0 s1) (dg 0 s2) _ (dg_dgs s1 0) (dg_dgs s2 0) q (by rw [List.length_map]; exact c1) (by rw [List.length_map]; exact c2) hlet
      rw [← e1, ← e2] at e3
      have e4 := ltL_nm (dg 0 s1) (dg 0 s2) (dg_dgs s1 0) (dg_dgs s2 0) q
      rw [e3, e4]
      exact ⟨fun z => z.elim (fun z => by omega) (fun z => z.2), fun z => Or.inr ⟨by omega, z⟩⟩
    · have := nm_len (dg_dgs s2 0) (dg_dgs s1 0) q
      exact ⟨fun z => by omega, fun z => by omega⟩
  rw [key]
