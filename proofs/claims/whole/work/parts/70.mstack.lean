/-! THE STACK of the writer: a frame is what stands between, what closes, what is to come, whether one is written; the last frame of a list is the base, which has no place -/
abbrev Fm : Type := Int × Int × List Tr × Bool
def kx (b : Int) : Nat := if b = 42 then 1 else 0
def sp1 (b : Int) : List Tr → List Int
  | [] => []
  | u :: us => b :: (tx (kx b) u ++ sp1 b us)
def hdT (b : Int) (one : Bool) : List Tr → List Int
  | [] => []
  | u :: us => (if one then [b] else []) ++ (tx (kx b) u ++ sp1 b us)
theorem hdT_one (b : Int) (rs : List Tr) : hdT b true rs = sp1 b rs := by cases rs <;> simp [hdT, sp1]
def cl (c : Int) : List Int := if c = 0 then [] else [c]
def lowT : List Fm → List Int
  | [] => []
  | f :: R => sp1 f.1 f.2.2.1 ++ (cl f.2.1 ++ lowT R)
def rowF (F : List Fm) : List Tr := (F.map (fun f => f.2.2.1)).flatten
theorem rowF_cons (f : Fm) (R : List Fm) : rowF (f :: R) = f.2.2.1 ++ rowF R := by simp [rowF]
theorem tx_02 (t : Tr) : tx 2 t = tx 0 t := by cases t <;> simp [tx]
theorem tx_n1 {k : Nat} (hk : k ≠ 1) (t : Tr) : tx k t = tx 0 t := by cases t <;> simp [tx, hk]
theorem sp1_pM (t : Tr) : sp1 42 (pM t) = 42 :: tx 1 t := by
  induction t with
  | mul a b iha ihb =>
    simp only [pM, sp1, ihb, tx, kx, if_true]
  | _ => simp [pM, sp1, kx]
theorem sp1_pA (t : Tr) : sp1 58 (pA t) = 58 :: tx 2 t := by
  have h1 : kx 58 = 0 := rfl
  induction t with
  | add a b iha ihb =>
    simp only [pA, sp1, ihb, tx, h1]
    rw [if_neg (by decide), tx_02 a]
  | _ => simp [pA, sp1, h1, tx_02]
theorem txM (k : Nat) (a b : Tr) : tx k (.mul a b) = hdT 42 false (pM (.mul a b)) := by
  simp only [pM, hdT, tx, sp1_pM, kx]
  simp
theorem txA (a b : Tr) : tx 2 a ++ (58 :: tx 2 b) = hdT 58 false (pA (.add a b)) := by
  simp only [pA, hdT, sp1_pA]
  rw [show kx 58 = 0 by rfl, tx_02 a]
  simp
def okB (f : Fm) : Prop := (f.1 = 0 ∨ f.1 = 42 ∨ f.1 = 58) ∧ (f.2.1 = 0 ∨ f.2.1 = 41 ∨ f.2.1 = 62)
def SlT (σ : St) (i : Nat) (f : Fm) (n : Int) : Prop := σ.1 65 i = f.1 ∧ σ.1 67 i = f.2.1 ∧ σ.1 66 i = n
def LowS (σ : St) : List Fm → Prop
  | [] => False
  | [f] => f.1 = 0 ∧ f.2.1 = 0 ∧ f.2.2.1 = []
  | f :: g :: R => SlT σ R.length f (f.2.2.1.length + 1) ∧ okB f ∧ LowS σ (g :: R)
theorem LowS.congr {σ τ : St} : ∀ {F : List Fm}, LowS σ F → (∀ i : Nat, i + 1 < F.length → τ.1 65 i = σ.1 65 i ∧ τ.1 67 i = σ.1 67 i ∧ τ.1 66 i = σ.1 66 i) → LowS τ F
  | [], h, _ => h
  | [f], h, _ => h
  | f :: g :: R, h, e => by
    obtain ⟨⟨h1, h2, h3⟩, h4, h5⟩ := h
    have e0 := e R.length (by simp)
    exact ⟨⟨e0.1.trans h1, e0.2.1.trans h2, e0.2.2.trans h3⟩, h4, h5.congr (fun i hi => e i (by simp at hi ⊢; omega))⟩
def wrX : List (Int × Int) := [(64, -1), (42, 29), (65, -1), (66, -1), (67, -1), (68, -1)]
/-- the text of a tree is made of bytes -/
theorem tx_byte {t : Tr} (h : ok t) : ∀ k, ∀ x ∈ tx k t, 40 ≤ x ∧ x ≤ 122 := by
  induction t with
  | var l => intro k x hx; have h2 : vN l < 26 := h; simp [tx] at hx; omega
  | pow t l ih => intro k x hx; have h2 : l < 26 := h.2; simp only [tx, List.mem_cons, List.mem_append, List.not_mem_nil, or_false] at hx; rcases hx with q | q | q | q
                  · omega
                  · omega
                  · exact ih h.1 0 x q
                  · omega
  | mul a b iha ihb =>
    intro k x hx
    simp only [tx, List.mem_cons, List.mem_append] at hx
    rcases hx with q | q | q
    · exact iha h.1 1 x q
    · omega
    · exact ihb h.2.1 1 x q
  | add a b iha ihb =>
    intro k x hx
    simp only [tx] at hx
    split at hx
    · simp only [List.mem_cons, List.mem_append, List.not_mem_nil, or_false] at hx
      rcases hx with q | q | q | q | q
      · omega
      · exact iha h.1 2 x q
      · omega
      · exact ihb h.2.1 2 x q
      · omega
    · simp only [List.mem_cons, List.mem_append] at hx
      rcases hx with q | q | q
      · exact iha h.1 2 x q
      · omega
      · exact ihb h.2.1 2 x q
  | _ => exact absurd h (by simp [ok])
