/-! THE STATE: a line (read to the left?, squares), a moment (side, gap, lines), a table (wide, high, core wide, core high) -/
abbrev Ln : Type := Bool × List Tr
abbrev Mo : Type := Int × Int × List Ln
abbrev Tb : Type := Nat → Int × Int × Int × Int
def SqAt (f : Int → Int) (p : Int) (t : Tr) : Prop := f p = (rc 0 t).length ∧ At f (p + 1) (rc 0 t)
def LnAt (f : Int → Int) (p : Int) (L : Ln) : Prop := f p = L.2.length ∧ f (p + 1) = (if L.1 then 1 else 0) ∧ ∀ (s : Nat) (t : Tr), L.2[s]? = some t → SqAt f (p + 2 + 21 * s) t
def MoAt (f : Int → Int) (o : Int) (M : Mo) : Prop := f o = M.1 ∧ f (o + 1) = M.2.1 ∧ f (o + 2) = M.2.2.length ∧ ∀ (l : Nat) (L : Ln), M.2.2[l]? = some L → LnAt f (o + 3 + 170 * l) L
def okTab (T : Tb) : Prop := ∀ l, l < 26 → ((T l).1 = 0 ∧ (T l).2.1 = 0 ∧ (T l).2.2.1 = 0 ∧ (T l).2.2.2 = 0) ∨ ((1 ≤ (T l).1 ∧ (T l).1 ≤ 12) ∧ (1 ≤ (T l).2.1 ∧ (T l).2.1 ≤ 12) ∧ (((T l).2.2.1 = 0 ∧ (T l).2.2.2 = 0) ∨ ((1 ≤ (T l).2.2.1 ∧ (T l).2.2.1 ≤ (T l).1) ∧ 1 ≤ (T l).2.2.2 ∧ (T l).2.2.2 ≤ (T l).2.1)))
/-- the letters of a tree are told, those that hold something have a core -/
def tok (T : Tb) : Tr → Prop
  | .var l => 0 < (T (vN l)).1
  | .pow t l => (0 < (T l).1 ∧ 0 < (T l).2.2.1) ∧ tok T t
  | .mul a b => tok T a ∧ tok T b
  | .add a b => tok T a ∧ tok T b
  | _ => True
def okS (T : Tb) (t : Tr) : Prop := ok t ∧ sg t ≤ 10 ∧ dcp t ≤ 3 ∧ tok T t
def okLn (T : Tb) (L : Ln) : Prop := (1 ≤ L.2.length ∧ L.2.length ≤ 8) ∧ ∀ t ∈ L.2, okS T t
def okMo (T : Tb) (M : Mo) : Prop := (1 ≤ M.1 ∧ M.1 ≤ 24) ∧ (0 ≤ M.2.1 ∧ M.2.1 ≤ 3) ∧ M.2.2.length ≤ 4 ∧ ∀ L ∈ M.2.2, okLn T L
def lnAt (M : Mo) (l : Int) : Option Ln := if 0 ≤ l then M.2.2[l.toNat]? else none
def sqIn (L : Ln) (s : Int) : Option Tr := if 0 ≤ s then L.2[s.toNat]? else none
def sqAt (M : Mo) (l s : Int) : Option Tr := (lnAt M l).bind (fun L => sqIn L s)
theorem lnAt_some {M : Mo} {l : Int} {L : Ln} (h : lnAt M l = some L) : 0 ≤ l ∧ M.2.2[l.toNat]? = some L ∧ l < M.2.2.length := by
  unfold lnAt at h
  split at h
  · have := (List.getElem?_eq_some_iff.mp h).1
    exact ⟨by assumption, h, by omega⟩
  · cases h
theorem sqIn_some {L : Ln} {s : Int} {t : Tr} (h : sqIn L s = some t) : 0 ≤ s ∧ L.2[s.toNat]? = some t ∧ s < L.2.length := by
  unfold sqIn at h
  split at h
  · have := (List.getElem?_eq_some_iff.mp h).1
    exact ⟨by assumption, h, by omega⟩
  · cases h
theorem lnAt_none {M : Mo} {l : Int} (h : lnAt M l = none) : ¬ (0 ≤ l ∧ l < M.2.2.length) := by
  unfold lnAt at h
  split at h
  · have := List.getElem?_eq_none_iff.mp h
    omega
  · omega
theorem sqIn_none {L : Ln} {s : Int} (h : sqIn L s = none) : ¬ (0 ≤ s ∧ s < L.2.length) := by
  unfold sqIn at h
  split at h
  · have := List.getElem?_eq_none_iff.mp h
    omega
  · omega
theorem sqAt_some {M : Mo} {l s : Int} {t : Tr} (h : sqAt M l s = some t) : ∃ L, lnAt M l = some L ∧ sqIn L s = some t := Option.bind_eq_some_iff.mp h
def TabR (σ : St) (T : Tb) : Prop := ∀ l : Nat, l < 26 → σ.1 43 l = (T l).1 ∧ σ.1 44 l = (T l).2.1 ∧ σ.1 45 l = (T l).2.2.1 ∧ σ.1 46 l = (T l).2.2.2
def wordsL : List Int := [115, 105, 100, 101, 0, 103, 97, 112, 0, 115, 105, 103, 110, 0, 99, 111, 114, 101, 0, 108, 105, 110, 101, 0, 108, 101, 102, 116, 0]
/-- the reference's memory holds this state: the table, the moment, the moments before it (the oldest first), the tape -/
def RS (σ : St) (T : Tb) (M : Mo) (P : List Mo) (tp : List Int) : Prop :=
  (Fix σ ∧ TabR σ T ∧ MoAt (σ.1 47) 0 M) ∧ (σ.1 42 8 = P.length ∧ ∀ (i : Nat) (m : Mo), P[i]? = some m → MoAt (σ.1 49) (683 * i) m) ∧ (σ.1 42 47 = tp.length ∧ At (σ.1 76) 0 tp) ∧ At (σ.1 77) 0 wordsL
/-- what a state is -/
def okD (T : Tb) (M : Mo) (P : List Mo) (tp : List Int) : Prop := okTab T ∧ okMo T M ∧ (P.length ≤ 12 ∧ ∀ m ∈ P, okMo T m) ∧ tp.length ≤ 400 ∧ ∀ x ∈ tp, 0 ≤ x ∧ x ≤ 255
theorem MoAt.ln {f : Int → Int} {o l : Int} {M : Mo} {L : Ln} (h : MoAt f o M) (hl : lnAt M l = some L) : LnAt f (o + 3 + 170 * l) L := by
  obtain ⟨h1, h2, h3⟩ := lnAt_some hl
  have h4 := h.2.2.2 _ _ h2
  rw [show ((l.toNat : Nat) : Int) = l by omega] at h4
  exact h4
theorem LnAt.sq {f : Int → Int} {p s : Int} {L : Ln} {t : Tr} (h : LnAt f p L) (hs : sqIn L s = some t) : SqAt f (p + 2 + 21 * s) t := by
  obtain ⟨h1, h2, h3⟩ := sqIn_some hs
  have h4 := h.2.2 _ _ h2
  rw [show ((s.toNat : Nat) : Int) = s by omega] at h4
  exact h4
theorem okMo.ln {T : Tb} {M : Mo} {l : Int} {L : Ln} (h : okMo T M) (hl : lnAt M l = some L) : okLn T L ∧ 0 ≤ l ∧ l < 4 := by
  obtain ⟨h1, h2, h3⟩ := lnAt_some hl
  have := h.2.2.1
  exact ⟨h.2.2.2 L (List.mem_of_getElem? h2), h1, by omega⟩
theorem okLn.sq {T : Tb} {L : Ln} {s : Int} {t : Tr} (h : okLn T L) (hs : sqIn L s = some t) : okS T t ∧ 0 ≤ s ∧ s < 8 := by
  obtain ⟨h1, h2, h3⟩ := sqIn_some hs
  have := h.1.2
  exact ⟨h.2 t (List.mem_of_getElem? h2), h1, by omega⟩
theorem MoAt.sq {T : Tb} {f : Int → Int} {l s : Int} {M : Mo} {t : Tr} (h : MoAt f 0 M) (hk : okMo T M) (hs : sqAt M l s = some t) : (0 ≤ l ∧ l < 4) ∧ (0 ≤ s ∧ s < 8) ∧ f (plc l s) = (rc 0 t).length ∧ At f (plc l s + 1) (rc 0 t) ∧ okS T t ∧ (rc 0 t).length ≤ 19 ∧ Nod (rc 0 t) := by
  obtain ⟨L, hl, hs⟩ := sqAt_some hs
  have a1 := hk.ln hl
  have a2 := a1.1.sq hs
  have a3 := (h.ln hl).sq hs
  have e : 0 + 3 + 170 * l + 2 + 21 * s = plc l s := by show _ = 5 + 170 * l + 21 * s; omega
  rw [e] at a3
  have a4 := rc_len2 a2.1.1 0
  have a5 := a2.1.2.1
  exact ⟨a1.2, a2.2, a3.1, a3.2, a2.1, by omega, rc_nod a2.1.1 (by omega) 0⟩
section MState
variable {E : EV} {d : Nat} {σ : St} {T : Tb} {M : Mo} {P : List Mo} {tp : List Int}
theorem RS.lines (h : RS σ T M P tp) (hk : okMo T M) : (0 ≤ σ.1 47 2 ∧ σ.1 47 2 ≤ 4) ∧ (∀ l, 0 ≤ l → l < σ.1 47 2 → 0 ≤ σ.1 47 (3 + 170 * l) ∧ σ.1 47 (3 + 170 * l) ≤ 8) ∧ ∀ l, 0 ≤ l → l < σ.1 47 2 → rI (σ.1 47 (3 + 170 * l + 1)) := by
  have h1 := h.1.2.2
  have h2 := hk.2.2.1
  have h3 : σ.1 47 2 = M.2.2.length := h1.2.2.1
  refine ⟨by omega, fun l h4 h5 => ?_, fun l h4 h5 => ?_⟩
  · cases hl : lnAt M l with
    | none => exact absurd (lnAt_none hl) (by omega)
    | some L =>
      have h6 := (h1.ln hl).1
      have h7 := (hk.ln hl).1.1.2
      rw [show 0 + 3 + 170 * l = 3 + 170 * l by omega] at h6
      omega
  · cases hl : lnAt M l with
    | none => exact absurd (lnAt_none hl) (by omega)
    | some L =>
      have h6 := (h1.ln hl).2.1
      rw [show 0 + 3 + 170 * l + 1 = 3 + 170 * l + 1 by omega] at h6
      rw [h6]
      split <;> decide
theorem c_M_isLine' {l : Int} (h : RS σ T M P tp) (hk : okMo T M) (h1 : rI l) : WMi E m_M_isLine (d + 1) [aP 42, aI l] σ (fun r τ => r = b2i ((lnAt M l).isSome = true) ∧ τ = σ) := by
  refine WMi.mono (c_M_isLine h.1.1 h1 (h.lines hk).1) (fun r τ _ hq => ⟨hq.1.trans ?_, hq.2⟩)
  have h3 : σ.1 47 2 = M.2.2.length := h.1.2.2.2.2.1
  cases hl : lnAt M l with
  | none =>
    have := lnAt_none hl
    rw [b2i_f (by omega), b2i_f (by simp)]
  | some L =>
    have := lnAt_some hl
    rw [b2i_t (by omega), b2i_t (by simp)]
theorem c_M_isSquare' {l s : Int} (h : RS σ T M P tp) (hk : okMo T M) (h1 : rI l) (h2 : rI s) : WMi E m_M_isSquare (d + 2) [aP 42, aI l, aI s] σ (fun r τ => r = b2i ((sqAt M l s).isSome = true) ∧ τ = σ) := by
  have h4 := h.lines hk
  refine WMi.mono (c_M_isSquare h.1.1 h1 h2 h4.1 h4.2.1) (fun r τ _ hq => ⟨hq.1.trans ?_, hq.2⟩)
  have h3 : σ.1 47 2 = M.2.2.length := h.1.2.2.2.2.1
  unfold sqAt
  cases hl : lnAt M l with
  | none =>
    have := lnAt_none hl
    rw [b2i_f (by omega), b2i_f (by simp)]
  | some L =>
    have h5 := lnAt_some hl
    have h6 := (h.1.2.2.ln hl).1
    rw [show 0 + 3 + 170 * l = 3 + 170 * l by omega] at h6
    cases hs : sqIn L s with
    | none =>
      have := sqIn_none hs
      rw [b2i_f (by omega), b2i_f (by simp [hs])]
    | some t =>
      have := sqIn_some hs
      rw [b2i_t (by omega), b2i_t (by simp [hs])]
theorem c_M_takes' {l s : Int} {t : Tr} (h : RS σ T M P tp) (hk : okMo T M) (hs : sqAt M l s = some t) : WMv E m_M_takes (d + 1) [aP 42, aI l, aI s] σ (fun τ => Fr [(50, -1), (42, 10)] σ τ ∧ RowIs τ (rc 0 t)) := by
  obtain ⟨a1, a2, a3, a4, a5, a6, a7⟩ := h.1.2.2.sq hk hs
  exact c_M_takes h.1.1 a1 a2 a3 (by omega) a4
/-- the state stays where only what is no part of it changes -/
def scr : List (Int × Int) := [(50, -1), (42, 10), (51, -1), (42, 12), (52, -1), (53, -1), (54, -1), (42, 16), (42, 17), (55, -1), (56, -1), (57, -1), (58, -1), (59, -1), (60, -1), (61, -1), (62, -1), (63, -1), (42, 27), (64, -1), (42, 29), (65, -1), (66, -1), (67, -1), (68, -1), (72, -1), (73, -1), (42, 39), (74, -1), (42, 41), (42, 42), (42, 43), (75, -1), (42, 45)]
theorem RS.scr {τ : St} (h : RS σ T M P tp) (hf : Fr scr σ τ) : RS τ T M P tp := by
  obtain ⟨⟨h1, h2, h3⟩, ⟨h4, h5⟩, ⟨h6, h7⟩, h8⟩ := h
  have e1 : ∀ k, τ.1 47 k = σ.1 47 k := fun k => hf.2 _ _ rfl
  have e2 : ∀ k, τ.1 49 k = σ.1 49 k := fun k => hf.2 _ _ rfl
  have f1 : τ.1 47 = σ.1 47 := funext e1
  have f2 : τ.1 49 = σ.1 49 := funext e2
  have f3 : τ.1 76 = σ.1 76 := funext (fun k => hf.2 _ _ rfl)
  have f4 : τ.1 77 = σ.1 77 := funext (fun k => hf.2 _ _ rfl)
  refine ⟨⟨hf.fix h1 (by decide), fun l hl => ?_, by rw [f1]; exact h3⟩, ⟨(hf.2 _ _ rfl).trans h4, by rw [f2]; exact h5⟩, ⟨(hf.2 _ _ rfl).trans h6, by rw [f3]; exact h7⟩, by rw [f4]; exact h8⟩
  rw [hf.2 _ _ rfl, hf.2 _ _ rfl, hf.2 _ _ rfl, hf.2 _ _ rfl]
  exact h2 l hl
end MState
