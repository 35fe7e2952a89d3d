/-! THE MATHEMATICS: a group is a tree (a type of the library's is borrowed): var l a sign, pow t l a sign with t inside, mul a b beside (the rest b), add a b above -/
abbrev Tr : Type := Lean.Grind.CommRing.Expr
def vN (l : Lean.Grind.CommRing.Var) : Nat := l
def isM : Tr → Bool
  | .mul _ _ => true
  | _ => false
def isA : Tr → Bool
  | .add _ _ => true
  | _ => false
def isJ (t : Tr) : Bool := isM t || isA t
/-- normal, letters' numbers below 26 -/
def ok : Tr → Prop
  | .var l => vN l < 26
  | .pow t l => ok t ∧ l < 26
  | .mul a b => ok a ∧ ok b ∧ isM a = false
  | .add a b => ok a ∧ ok b ∧ isA a = false
  | _ => False
/-- how many parts beside one another, how many rows above one another -/
def nM : Tr → Nat
  | .mul _ b => nM b + 1
  | _ => 1
def nA : Tr → Nat
  | .add _ b => nA b + 1
  | _ => 1
/-- signs in all, signs inside none, how deep cores are -/
def sg : Tr → Nat
  | .var _ => 1
  | .pow t _ => sg t + 1
  | .mul a b => sg a + sg b
  | .add a b => sg a + sg b
  | _ => 0
def so : Tr → Nat
  | .var _ => 1
  | .pow _ _ => 1
  | .mul a b => so a + so b
  | .add a b => so a + so b
  | _ => 0
def dcp : Tr → Nat
  | .pow t _ => dcp t + 1
  | .mul a b => max (dcp a) (dcp b)
  | .add a b => max (dcp a) (dcp b)
  | _ => 0
/-- the class's code -/
def cC : Tr → List Int
  | .var l => [(vN l : Int)]
  | .pow t l => ((l : Int) + 32) :: cC t
  | .mul a b => 64 :: (cC a ++ cC b)
  | .add a b => 65 :: (cC a ++ cC b)
  | _ => []
/-- the reference's nodes; k 1: as what follows in a row beside, 2: above, 0: on its own -/
def rc : Nat → Tr → List Int
  | _, .var l => [(vN l : Int) + 1]
  | _, .pow t l => ((l : Int) + 101) :: rc 0 t
  | k, .mul a b => if k = 1 then rc 0 a ++ rc 1 b else ((nM b : Int) + 201) :: (rc 0 a ++ rc 1 b)
  | k, .add a b => if k = 2 then rc 0 a ++ rc 2 b else ((nA b : Int) + 301) :: (rc 0 a ++ rc 2 b)
  | _, _ => []
def pM : Tr → List Tr
  | .mul a b => a :: pM b
  | t => [t]
def pA : Tr → List Tr
  | .add a b => a :: pA b
  | t => [t]
theorem nM_pos (t : Tr) : 1 ≤ nM t := by cases t <;> simp [nM]
theorem nA_pos (t : Tr) : 1 ≤ nA t := by cases t <;> simp [nA]
theorem pM_len (t : Tr) : (pM t).length = nM t := by
  induction t <;> simp_all [pM, nM]
theorem pA_len (t : Tr) : (pA t).length = nA t := by
  induction t <;> simp_all [pA, nA]
theorem rc_nM {t : Tr} (h : isM t = false) : rc 1 t = rc 0 t := by
  cases t <;> simp_all [isM, rc]
theorem rc_nA {t : Tr} (h : isA t = false) : rc 2 t = rc 0 t := by
  cases t <;> simp_all [isA, rc]
theorem rc1_parts (t : Tr) : rc 1 t = ((pM t).map (rc 0)).flatten := by
  induction t with
  | mul a b iha ihb => simp [rc, pM, ihb]
  | _ => simp [rc, pM]
theorem rc2_parts (t : Tr) : rc 2 t = ((pA t).map (rc 0)).flatten := by
  induction t with
  | add a b iha ihb => simp [rc, pA, ihb]
  | _ => simp [rc, pA]
theorem rc_mul (a b : Tr) : rc 0 (.mul a b) = ((nM (.mul a b) : Int) + 200) :: ((pM (.mul a b)).map (rc 0)).flatten := by
  have h := rc1_parts (.mul a b)
  rw [← h]
  simp [rc, nM]
  omega
theorem rc_add (a b : Tr) : rc 0 (.add a b) = ((nA (.add a b) : Int) + 300) :: ((pA (.add a b)).map (rc 0)).flatten := by
  have h := rc2_parts (.add a b)
  rw [← h]
  simp [rc, nA]
  omega
theorem sg_pos {t : Tr} (h : ok t) : 1 ≤ sg t := by
  induction t with
  | var l => simp [sg]
  | pow t l ih => simp [sg]
  | mul a b iha ihb => have := iha h.1; simp [sg]; omega
  | add a b iha ihb => have := iha h.1; simp [sg]; omega
  | _ => exact absurd h (by simp [ok])
theorem so_pos {t : Tr} (h : ok t) : 1 ≤ so t := by
  induction t with
  | var l => simp [so]
  | pow t l ih => simp [so]
  | mul a b iha ihb => have := iha h.1; simp [so]; omega
  | add a b iha ihb => have := iha h.1; simp [so]; omega
  | _ => exact absurd h (by simp [ok])
/-- the class's code has a sign's symbol for each sign and a joint between each two neighbours -/
theorem cC_len2 {t : Tr} (h : ok t) : (cC t).length + 1 ≤ 2 * sg t ∧ sg t ≤ (cC t).length := by
  induction t with
  | var l => simp [cC, sg]
  | pow t l ih => have := ih h.1; simp [cC, sg]; omega
  | mul a b iha ihb => have := iha h.1; have := ihb h.2.1; simp [cC, sg]; omega
  | add a b iha ihb => have := iha h.1; have := ihb h.2.1; simp [cC, sg]; omega
  | _ => exact absurd h (by simp [ok])
theorem rc_len2 {t : Tr} (h : ok t) : ∀ k, (rc k t).length + 1 ≤ 2 * sg t ∧ sg t ≤ (rc k t).length := by
  induction t with
  | var l => intro k; simp [rc, sg]
  | pow t l ih => intro k; have := ih h.1 0; simp [rc, sg]; omega
  | mul a b iha ihb =>
    intro k
    have h1 := iha h.1 0
    have h2 := ihb h.2.1 1
    simp only [rc, sg]
    split <;> simp <;> omega
  | add a b iha ihb =>
    intro k
    have h1 := iha h.1 0
    have h2 := ihb h.2.1 2
    simp only [rc, sg]
    split <;> simp <;> omega
  | _ => exact absurd h (by simp [ok])
theorem nM_le {t : Tr} (h : ok t) : nM t ≤ sg t := by
  induction t with
  | mul a b iha ihb => have := ihb h.2.1; have := sg_pos h.1; simp [nM, sg]; omega
  | var l => simp [nM, sg]
  | pow t l ih => simp [nM, sg]
  | add a b iha ihb => have := sg_pos h.1; simp [nM, sg]; omega
  | _ => exact absurd h (by simp [ok])
theorem nA_le {t : Tr} (h : ok t) : nA t ≤ sg t := by
  induction t with
  | add a b iha ihb => have := ihb h.2.1; have := sg_pos h.1; simp [nA, sg]; omega
  | var l => simp [nA, sg]
  | pow t l ih => simp [nA, sg]
  | mul a b iha ihb => have := sg_pos h.1; simp [nA, sg]; omega
  | _ => exact absurd h (by simp [ok])
/-- numbers in a row of memory -/
def At (f : Int → Int) (o : Int) (L : List Int) : Prop := ∀ i : Nat, i < L.length → f (o + i) = L.getD i 0
theorem At.nil (f : Int → Int) (o : Int) : At f o [] := fun i h => absurd h (by simp)
theorem At.cons {f : Int → Int} {o x : Int} {L : List Int} : At f o (x :: L) ↔ f o = x ∧ At f (o + 1) L := by
  constructor
  · intro h
    refine ⟨by have := h 0 (by simp); simpa using this, fun i hi => ?_⟩
    have := h (i + 1) (by simp; omega)
    rw [show o + 1 + (i : Int) = o + ((i + 1 : Nat) : Int) by omega, this]
    simp
  · rintro ⟨h1, h2⟩ i hi
    cases i with
    | zero => simpa using h1
    | succ i =>
      rw [show o + ((i + 1 : Nat) : Int) = o + 1 + (i : Int) by omega, h2 i (by simpa using hi)]
      simp
theorem At.app {f : Int → Int} {o : Int} {L K : List Int} : At f o (L ++ K) ↔ At f o L ∧ At f (o + L.length) K := by
  induction L generalizing o with
  | nil => simp [At.nil]
  | cons x L ih =>
    rw [List.cons_append, At.cons, At.cons, ih, and_assoc]
    rw [show o + 1 + (L.length : Int) = o + ((x :: L).length : Int) by simp; omega]
theorem At.congr {f g : Int → Int} {o : Int} {L : List Int} (h : At f o L) (e : ∀ i : Nat, i < L.length → g (o + i) = f (o + i)) : At g o L := fun i hi => (e i hi).trans (h i hi)
theorem At.move {f g : Int → Int} {o p : Int} {L : List Int} (h : At f o L) (e : ∀ i : Nat, i < L.length → g (p + i) = f (o + i)) : At g p L := fun i hi => (e i hi).trans (h i hi)
/-- what stands at the head of a row -/
theorem At.hd {f : Int → Int} {o x : Int} {L : List Int} (h : At f o (x :: L)) : f o = x := (At.cons.mp h).1
