/-! A SQUARE READ: frames (in which sign, the rows so far, the row so far), the innermost first -/
def ja : Tr → Tr → Tr
  | .add a b, u => .add a (ja b u)
  | t, u => .add t u
def jo (f : Tr → Tr → Tr) : Option Tr → Tr → Tr
  | none, t => t
  | some a, t => f a t
abbrev Fm2 : Type := Option Nat × Option Tr × Option Tr
def crs : List Fm2 → Nat
  | [] => 0
  | f :: fs => (if f.1.isSome then 1 else 0) + crs fs
def endP (tp : List Int) : List Fm2 → Tr → Nat → Except Nat ((List Fm2 × Nat) ⊕ (Tr × Nat))
  | [], t, p => .ok (.inr (t, p))
  | f :: fs, t, p =>
    if byt tp (nbk tp p) = 42 then .ok (.inl ((f.1, f.2.1, some (jo jn f.2.2 t)) :: fs, nbk tp p + 1))
    else if byt tp (nbk tp p) = 58 then .ok (.inl ((f.1, some (jo ja f.2.1 (jo jn f.2.2 t)), none) :: fs, nbk tp p + 1))
    else if fs.length = 0 then .ok (.inr (jo ja f.2.1 (jo jn f.2.2 t), p))
    else match f.1 with
      | none => if byt tp (nbk tp p) = 41 then endP tp fs (jo ja f.2.1 (jo jn f.2.2 t)) (nbk tp p + 1) else .error (nbk tp p)
      | some l => if byt tp (nbk tp p) = 62 then endP tp fs (.pow (jo ja f.2.1 (jo jn f.2.2 t)) l) (nbk tp p + 1) else .error (nbk tp p)
def bgP (tp : List Int) (T : Tb) (fs : List Fm2) (p s : Nat) : Except Nat ((Fm2 × Nat × Nat) ⊕ (Tr × Nat)) :=
  if byt tp (nbk tp p) = 40 ∧ fs.length < 7 then .ok (.inl ((none, none, none), nbk tp p + 1, s))
  else if letN tp p = -1 ∨ (T (letN tp p).toNat).1 = 0 ∨ 10 ≤ s then .error (nbk tp p)
  else if byt tp (nbk tp (nbk tp p + 1)) = 60 then
    (if (T (letN tp p).toNat).2.2.1 = 0 ∨ 7 ≤ fs.length ∨ 3 ≤ crs fs then .error (nbk tp (nbk tp p + 1)) else .ok (.inl ((some (letN tp p).toNat, none, none), nbk tp (nbk tp p + 1) + 1, s + 1)))
  else .ok (.inr (.var (letN tp p).toNat, nbk tp p + 1))
def runS (tp : List Int) (T : Tb) : Nat → List Fm2 → Nat → Nat → Except Nat (Tr × Nat)
  | 0, _, p, _ => .error p
  | n + 1, fs, p, s => match bgP tp T fs p s with
    | .error f => .error f
    | .ok (.inl (f, p1, s1)) => runS tp T n (f :: fs) p1 s1
    | .ok (.inr (t, p1)) => match endP tp fs t p1 with
      | .error f => .error f
      | .ok (.inl (gs, p2)) => runS tp T n gs p2 (s + 1)
      | .ok (.inr (u, p2)) => .ok (u, p2)
/-! the reference's nodes: k 0 a node that is a tree, 1, 2 a chain of nodes (up to e) that are its parts; all in lo .. hi -/
def ND (σ : St) : Nat → Nat → Nat → Nat → Nat → Tr → Prop
  | k, lo, hi, n, e, .var l => (lo ≤ n ∧ n < hi) ∧ (σ.1 82 n = 0 ∧ σ.1 83 n = vN l ∧ σ.1 84 n = -1) ∧ (k ≠ 0 → n = e)
  | k, lo, hi, n, e, .pow t l => (lo ≤ n ∧ n < hi) ∧ (σ.1 82 n = 0 ∧ σ.1 83 n = l ∧ ∃ m : Nat, σ.1 84 n = m ∧ ND σ 0 (n + 1) hi m 0 t) ∧ (k ≠ 0 → n = e)
  | k, lo, hi, n, e, .mul a b => if k = 1 then ∃ mid c : Nat, ND σ 0 lo mid n 0 a ∧ σ.1 87 n = c ∧ ND σ 1 mid hi c e b
      else (lo ≤ n ∧ n < hi) ∧ (σ.1 82 n = 1 ∧ σ.1 88 n = nM b + 1 ∧ ∃ c e2 mid c2 : Nat, σ.1 85 n = c ∧ σ.1 86 n = e2 ∧ ND σ 0 (n + 1) mid c 0 a ∧ σ.1 87 c = c2 ∧ ND σ 1 mid hi c2 e2 b) ∧ (k ≠ 0 → n = e)
  | k, lo, hi, n, e, .add a b => if k = 2 then ∃ mid c : Nat, ND σ 0 lo mid n 0 a ∧ σ.1 87 n = c ∧ ND σ 2 mid hi c e b
      else (lo ≤ n ∧ n < hi) ∧ (σ.1 82 n = 2 ∧ σ.1 88 n = nA b + 1 ∧ ∃ c e2 mid c2 : Nat, σ.1 85 n = c ∧ σ.1 86 n = e2 ∧ ND σ 0 (n + 1) mid c 0 a ∧ σ.1 87 c = c2 ∧ ND σ 2 mid hi c2 e2 b) ∧ (k ≠ 0 → n = e)
  | _, _, _, _, _, _ => False
theorem ND_M1 {σ : St} {lo hi n e : Nat} {a b : Tr} : ND σ 1 lo hi n e (.mul a b) = ∃ mid c : Nat, ND σ 0 lo mid n 0 a ∧ σ.1 87 n = c ∧ ND σ 1 mid hi c e b := by simp [ND]
theorem ND_A2 {σ : St} {lo hi n e : Nat} {a b : Tr} : ND σ 2 lo hi n e (.add a b) = ∃ mid c : Nat, ND σ 0 lo mid n 0 a ∧ σ.1 87 n = c ∧ ND σ 2 mid hi c e b := by simp [ND]
theorem ND_Mk {σ : St} {k lo hi n e : Nat} {a b : Tr} (hk : k ≠ 1) : ND σ k lo hi n e (.mul a b) = ((lo ≤ n ∧ n < hi) ∧ (σ.1 82 n = 1 ∧ σ.1 88 n = nM b + 1 ∧ ∃ c e2 mid c2 : Nat, σ.1 85 n = c ∧ σ.1 86 n = e2 ∧ ND σ 0 (n + 1) mid c 0 a ∧ σ.1 87 c = c2 ∧ ND σ 1 mid hi c2 e2 b) ∧ (k ≠ 0 → n = e)) := by simp only [ND]; rw [if_neg hk]
theorem ND_Ak {σ : St} {k lo hi n e : Nat} {a b : Tr} (hk : k ≠ 2) : ND σ k lo hi n e (.add a b) = ((lo ≤ n ∧ n < hi) ∧ (σ.1 82 n = 2 ∧ σ.1 88 n = nA b + 1 ∧ ∃ c e2 mid c2 : Nat, σ.1 85 n = c ∧ σ.1 86 n = e2 ∧ ND σ 0 (n + 1) mid c 0 a ∧ σ.1 87 c = c2 ∧ ND σ 2 mid hi c2 e2 b) ∧ (k ≠ 0 → n = e)) := by simp only [ND]; rw [if_neg hk]
theorem ND_rng {σ : St} {t : Tr} : ∀ {k lo hi n e : Nat}, ND σ k lo hi n e t → (lo ≤ n ∧ n < hi) ∧ (k ≠ 0 → lo ≤ e ∧ e < hi) := by
  induction t with
  | var l => intro k lo hi n e h; exact ⟨h.1, fun q => by have := h.2.2 q; have := h.1; omega⟩
  | pow t l ih => intro k lo hi n e h; exact ⟨h.1, fun q => by have := h.2.2 q; have := h.1; omega⟩
  | mul a b iha ihb =>
    intro k lo hi n e h
    simp only [ND] at h
    split at h
    · obtain ⟨mid, c, h1, h2, h3⟩ := h
      have r1 := iha h1
      have r2 := ihb h3
      have := r2.2 (by decide)
      exact ⟨by omega, fun _ => by omega⟩
    · exact ⟨h.1, fun q => by have := h.2.2 q; have := h.1; omega⟩
  | add a b iha ihb =>
    intro k lo hi n e h
    simp only [ND] at h
    split at h
    · obtain ⟨mid, c, h1, h2, h3⟩ := h
      have r1 := iha h1
      have r2 := ihb h3
      have := r2.2 (by decide)
      exact ⟨by omega, fun _ => by omega⟩
    · exact ⟨h.1, fun q => by have := h.2.2 q; have := h.1; omega⟩
  | _ => intro k lo hi n e h; exact h.elim
theorem ND_mono {σ : St} {t : Tr} : ∀ {k lo hi n e lo' hi' : Nat}, ND σ k lo hi n e t → lo' ≤ lo → hi ≤ hi' → ND σ k lo' hi' n e t := by
  induction t with
  | var l => intro k lo hi n e lo' hi' h h1 h2; exact ⟨by have := h.1; omega, h.2⟩
  | pow t l ih =>
    intro k lo hi n e lo' hi' h h1 h2
    obtain ⟨a1, ⟨a2, a3, m, a4, a5⟩, a6⟩ := h
    exact ⟨by omega, ⟨a2, a3, m, a4, ih a5 (Nat.le_refl _) h2⟩, a6⟩
  | mul a b iha ihb =>
    intro k lo hi n e lo' hi' h h1 h2
    simp only [ND] at h ⊢
    split
    · rename_i hk
      rw [if_pos hk] at h
      obtain ⟨mid, c, a1, a2, a3⟩ := h
      exact ⟨mid, c, iha a1 h1 (Nat.le_refl _), a2, ihb a3 (Nat.le_refl _) h2⟩
    · rename_i hk
      rw [if_neg hk] at h
      obtain ⟨a1, ⟨a2, a3, c, e2, mid, c2, a4, a5, a6, a7, a8⟩, a9⟩ := h
      exact ⟨by omega, ⟨a2, a3, c, e2, mid, c2, a4, a5, a6, a7, ihb a8 (Nat.le_refl _) h2⟩, a9⟩
  | add a b iha ihb =>
    intro k lo hi n e lo' hi' h h1 h2
    simp only [ND] at h ⊢
    split
    · rename_i hk
      rw [if_pos hk] at h
      obtain ⟨mid, c, a1, a2, a3⟩ := h
      exact ⟨mid, c, iha a1 h1 (Nat.le_refl _), a2, ihb a3 (Nat.le_refl _) h2⟩
    · rename_i hk
      rw [if_neg hk] at h
      obtain ⟨a1, ⟨a2, a3, c, e2, mid, c2, a4, a5, a6, a7, a8⟩, a9⟩ := h
      exact ⟨by omega, ⟨a2, a3, c, e2, mid, c2, a4, a5, a6, a7, ihb a8 (Nat.le_refl _) h2⟩, a9⟩
  | _ => intro k lo hi n e lo' hi' h; exact h.elim
/-- all but the next one of a node stays -/
def A6 (σ τ : St) (j : Nat) : Prop := τ.1 82 j = σ.1 82 j ∧ τ.1 83 j = σ.1 83 j ∧ τ.1 84 j = σ.1 84 j ∧ τ.1 85 j = σ.1 85 j ∧ τ.1 86 j = σ.1 86 j ∧ τ.1 88 j = σ.1 88 j
theorem ND_keep {σ τ : St} {t : Tr} : ∀ {k lo hi n e : Nat}, ND σ k lo hi n e t → (∀ j, lo ≤ j → j < hi → A6 σ τ j) → (∀ j : Nat, lo ≤ j → j < hi → j ≠ (if k = 0 then n else e) → τ.1 87 j = σ.1 87 j) → ND τ k lo hi n e t := by
  induction t with
  | var l =>
    intro k lo hi n e h h6 h1
    obtain ⟨b1, b2, b3, -⟩ := h6 n h.1.1 h.1.2
    exact ⟨h.1, ⟨b1.trans h.2.1.1, b2.trans h.2.1.2.1, b3.trans h.2.1.2.2⟩, h.2.2⟩
  | pow t l ih =>
    intro k lo hi n e h h6 h1
    obtain ⟨b1, b2, b3, -⟩ := h6 n h.1.1 h.1.2
    obtain ⟨a1, ⟨a2, a3, m, a4, a5⟩, a6⟩ := h
    refine ⟨a1, ⟨b1.trans a2, b2.trans a3, m, b3.trans a4, ih a5 (fun j q1 q2 => h6 j (by omega) q2) (fun j q1 q2 q3 => h1 j (by omega) q2 ?_)⟩, a6⟩
    split
    · omega
    · rename_i hk
      have := a6 hk
      omega
  | mul a b iha ihb =>
    intro k lo hi n e h h6 h1
    simp only [ND] at h ⊢
    by_cases hk : k = 1
    · rw [if_pos hk] at h ⊢
      obtain ⟨mid, c, a1, a2, a3⟩ := h
      have r1 := (ND_rng a1).1
      have r2 := (ND_rng a3).2 (by decide)
      have hk0 : ¬ k = 0 := by omega
      rw [if_neg hk0] at h1
      refine ⟨mid, c, iha a1 (fun j q1 q2 => h6 j q1 (by omega)) (fun j q1 q2 q3 => h1 j q1 (by omega) (by omega)), (h1 n (by omega) (by omega) (by omega)).trans a2, ihb a3 (fun j q1 q2 => h6 j (by omega) q2) (fun j q1 q2 q3 => h1 j (by omega) q2 (by simpa using q3))⟩
    · rw [if_neg hk] at h ⊢
      obtain ⟨a1, ⟨a2, a3, c, e2, mid, c2, a4, a5, a6, a7, a8⟩, a9⟩ := h
      obtain ⟨b1, b2, b3, b4, b5, b6⟩ := h6 n a1.1 a1.2
      have r1 := (ND_rng a6).1
      have r2 := (ND_rng a8).2 (by decide)
      have hx : ∀ j : Nat, n < j → j < hi → τ.1 87 j = σ.1 87 j := fun j q1 q2 => h1 j (by omega) q2 (by
        split
        · omega
        · rename_i hk0
          have := a9 hk0
          omega)
      exact ⟨a1, ⟨b1.trans a2, b6.trans a3, c, e2, mid, c2, b4.trans a4, b5.trans a5, iha a6 (fun j q1 q2 => h6 j (by omega) (by omega)) (fun j q1 q2 q3 => hx j (by omega) (by omega)), (hx c (by omega) (by omega)).trans a7, ihb a8 (fun j q1 q2 => h6 j (by omega) q2) (fun j q1 q2 q3 => hx j (by omega) q2)⟩, a9⟩
  | add a b iha ihb =>
    intro k lo hi n e h h6 h1
    simp only [ND] at h ⊢
    by_cases hk : k = 2
    · rw [if_pos hk] at h ⊢
      obtain ⟨mid, c, a1, a2, a3⟩ := h
      have r1 := (ND_rng a1).1
      have r2 := (ND_rng a3).2 (by decide)
      have hk0 : ¬ k = 0 := by omega
      rw [if_neg hk0] at h1
      refine ⟨mid, c, iha a1 (fun j q1 q2 => h6 j q1 (by omega)) (fun j q1 q2 q3 => h1 j q1 (by omega) (by omega)), (h1 n (by omega) (by omega) (by omega)).trans a2, ihb a3 (fun j q1 q2 => h6 j (by omega) q2) (fun j q1 q2 q3 => h1 j (by omega) q2 (by simpa using q3))⟩
    · rw [if_neg hk] at h ⊢
      obtain ⟨a1, ⟨a2, a3, c, e2, mid, c2, a4, a5, a6, a7, a8⟩, a9⟩ := h
      obtain ⟨b1, b2, b3, b4, b5, b6⟩ := h6 n a1.1 a1.2
      have r1 := (ND_rng a6).1
      have r2 := (ND_rng a8).2 (by decide)
      have hx : ∀ j : Nat, n < j → j < hi → τ.1 87 j = σ.1 87 j := fun j q1 q2 => h1 j (by omega) q2 (by
        split
        · omega
        · rename_i hk0
          have := a9 hk0
          omega)
      exact ⟨a1, ⟨b1.trans a2, b6.trans a3, c, e2, mid, c2, b4.trans a4, b5.trans a5, iha a6 (fun j q1 q2 => h6 j (by omega) (by omega)) (fun j q1 q2 q3 => hx j (by omega) (by omega)), (hx c (by omega) (by omega)).trans a7, ihb a8 (fun j q1 q2 => h6 j (by omega) q2) (fun j q1 q2 q3 => hx j (by omega) q2)⟩, a9⟩
  | _ => intro k lo hi n e h; exact h.elim
/-- a chain of one -/
theorem ND_1 {σ : St} {t : Tr} {k lo hi n e : Nat} (h : ND σ k lo hi n e t) (hk : k = 1 ∧ isM t = false ∨ k = 2 ∧ isA t = false) : ND σ 0 lo hi n 0 t ∧ n = e := by
  cases t with
  | var l => exact ⟨⟨h.1, h.2.1, fun q => absurd rfl q⟩, h.2.2 (by omega)⟩
  | pow t l => exact ⟨⟨h.1, h.2.1, fun q => absurd rfl q⟩, h.2.2 (by omega)⟩
  | mul a b =>
    rcases hk with ⟨rfl, q⟩ | ⟨rfl, q⟩
    · simp [isM] at q
    · rw [ND_Mk (by decide)] at h
      rw [ND_Mk (by decide)]
      exact ⟨⟨h.1, h.2.1, fun q => absurd rfl q⟩, h.2.2 (by decide)⟩
  | add a b =>
    rcases hk with ⟨rfl, q⟩ | ⟨rfl, q⟩
    · rw [ND_Ak (by decide)] at h
      rw [ND_Ak (by decide)]
      exact ⟨⟨h.1, h.2.1, fun q => absurd rfl q⟩, h.2.2 (by decide)⟩
    · simp [isA] at q
  | _ => exact h.elim
theorem ND_of {σ : St} {t : Tr} {k lo hi n : Nat} (h : ND σ 0 lo hi n 0 t) (hk : k = 1 ∧ isM t = false ∨ k = 2 ∧ isA t = false) : ND σ k lo hi n n t := by
  cases t with
  | var l => exact ⟨h.1, h.2.1, fun _ => rfl⟩
  | pow t l => exact ⟨h.1, h.2.1, fun _ => rfl⟩
  | mul a b =>
    rcases hk with ⟨rfl, q⟩ | ⟨rfl, q⟩
    · simp [isM] at q
    · rw [ND_Mk (by decide)] at h
      rw [ND_Mk (by decide)]
      exact ⟨h.1, h.2.1, fun _ => rfl⟩
  | add a b =>
    rcases hk with ⟨rfl, q⟩ | ⟨rfl, q⟩
    · rw [ND_Ak (by decide)] at h
      rw [ND_Ak (by decide)]
      exact ⟨h.1, h.2.1, fun _ => rfl⟩
    · simp [isA] at q
  | _ => exact h.elim
theorem ND_0 {σ : St} {t : Tr} {lo hi n e e' : Nat} (h : ND σ 0 lo hi n e t) : ND σ 0 lo hi n e' t := by
  cases t with
  | var l => exact ⟨h.1, h.2.1, fun q => absurd rfl q⟩
  | pow t l => exact ⟨h.1, h.2.1, fun q => absurd rfl q⟩
  | mul a b => rw [ND_Mk (by decide)] at h; rw [ND_Mk (by decide)]; exact ⟨h.1, h.2.1, fun q => absurd rfl q⟩
  | add a b => rw [ND_Ak (by decide)] at h; rw [ND_Ak (by decide)]; exact ⟨h.1, h.2.1, fun q => absurd rfl q⟩
  | _ => exact h.elim
theorem ND_app1 {σ : St} {u : Tr} {mid hi c2 e2 : Nat} (hu : ND σ 1 mid hi c2 e2 u) {t : Tr} : ∀ {lo c e : Nat}, ND σ 1 lo mid c e t → σ.1 87 e = c2 → ND σ 1 lo hi c e2 (jn t u) := by
  have one : ∀ {t : Tr} {lo c e : Nat}, isM t = false → jn t u = .mul t u → ND σ 1 lo mid c e t → σ.1 87 e = c2 → ND σ 1 lo hi c e2 (jn t u) := by
    intro t lo c e hm hj h hn
    obtain ⟨h1, rfl⟩ := ND_1 h (Or.inl ⟨rfl, hm⟩)
    rw [hj]
    rw [ND_M1]
    exact ⟨mid, c2, h1, hn, hu⟩
  induction t with
  | mul a b iha ihb =>
    intro lo c e h hn
    rw [ND_M1] at h
    obtain ⟨m, c', a1, a2, a3⟩ := h
    show ND σ 1 lo hi c e2 (.mul a (jn b u))
    rw [ND_M1]
    exact ⟨m, c', a1, a2, ihb a3 hn⟩
  | _ => intro lo c e h hn; exact one rfl rfl h hn
theorem ND_app2 {σ : St} {u : Tr} {mid hi c2 e2 : Nat} (hu : ND σ 2 mid hi c2 e2 u) {t : Tr} : ∀ {lo c e : Nat}, ND σ 2 lo mid c e t → σ.1 87 e = c2 → ND σ 2 lo hi c e2 (ja t u) := by
  have one : ∀ {t : Tr} {lo c e : Nat}, isA t = false → ja t u = .add t u → ND σ 2 lo mid c e t → σ.1 87 e = c2 → ND σ 2 lo hi c e2 (ja t u) := by
    intro t lo c e hm hj h hn
    obtain ⟨h1, rfl⟩ := ND_1 h (Or.inr ⟨rfl, hm⟩)
    rw [hj]
    rw [ND_A2]
    exact ⟨mid, c2, h1, hn, hu⟩
  induction t with
  | add a b iha ihb =>
    intro lo c e h hn
    rw [ND_A2] at h
    obtain ⟨m, c', a1, a2, a3⟩ := h
    show ND σ 2 lo hi c e2 (.add a (ja b u))
    rw [ND_A2]
    exact ⟨m, c', a1, a2, ihb a3 hn⟩
  | _ => intro lo c e h hn; exact one rfl rfl h hn
theorem ja_nA (t u : Tr) : nA (ja t u) = nA t + nA u := by
  induction t with
  | add a b iha ihb => simp only [ja, nA, ihb]; omega
  | _ => simp [ja, nA]; omega
