theorem pM_ok {t : Tr} (h : ok t) : ∀ u ∈ pM t, ok u ∧ sg u ≤ sg t ∧ isM u = false := by
  induction t with
  | mul a b iha ihb =>
    intro u hu
    simp only [pM, List.mem_cons] at hu
    simp only [sg]
    rcases hu with rfl | hu
    · exact ⟨h.1, by omega, h.2.2⟩
    · have := ihb h.2.1 u hu
      exact ⟨this.1, by omega, this.2.2⟩
  | var l => intro u hu; simp [pM] at hu; subst hu; exact ⟨h, Nat.le_refl _, rfl⟩
  | pow t l ih => intro u hu; simp [pM] at hu; subst hu; exact ⟨h, Nat.le_refl _, rfl⟩
  | add a b iha ihb => intro u hu; simp [pM] at hu; subst hu; exact ⟨h, Nat.le_refl _, rfl⟩
  | _ => exact absurd h (by simp [ok])
theorem pA_ok {t : Tr} (h : ok t) : ∀ u ∈ pA t, ok u ∧ sg u ≤ sg t ∧ isA u = false := by
  induction t with
  | add a b iha ihb =>
    intro u hu
    simp only [pA, List.mem_cons] at hu
    simp only [sg]
    rcases hu with rfl | hu
    · exact ⟨h.1, by omega, h.2.2⟩
    · have := ihb h.2.1 u hu
      exact ⟨this.1, by omega, this.2.2⟩
  | var l => intro u hu; simp [pA] at hu; subst hu; exact ⟨h, Nat.le_refl _, rfl⟩
  | pow t l ih => intro u hu; simp [pA] at hu; subst hu; exact ⟨h, Nat.le_refl _, rfl⟩
  | mul a b iha ihb => intro u hu; simp [pA] at hu; subst hu; exact ⟨h, Nat.le_refl _, rfl⟩
  | _ => exact absurd h (by simp [ok])
/-- a forest's nodes, tree behind tree -/
def fr (ts : List Tr) : List Int := (ts.map (rc 0)).flatten
theorem fr_nil : fr [] = [] := rfl
theorem fr_cons (t : Tr) (ts : List Tr) : fr (t :: ts) = rc 0 t ++ fr ts := by simp [fr]
theorem fr_one (t : Tr) : fr [t] = rc 0 t := by simp [fr]
theorem fr_app (ts us : List Tr) : fr (ts ++ us) = fr ts ++ fr us := by simp [fr]
/-- what stands right behind a tree's first node, as a forest -/
def ch : Tr → List Tr
  | .pow t _ => [t]
  | .mul a b => pM (.mul a b)
  | .add a b => pA (.add a b)
  | _ => []
def nd : Tr → Int
  | .var l => (vN l : Int) + 1
  | .pow _ l => (l : Int) + 101
  | .mul a b => (nM (.mul a b) : Int) + 200
  | .add a b => (nA (.add a b) : Int) + 300
  | _ => 0
theorem rc0_nd {t : Tr} (h : ok t) : rc 0 t = nd t :: fr (ch t) := by
  cases t with
  | var l => simp [rc, nd, ch, fr]
  | pow t l => simp [rc, nd, ch, fr]
  | mul a b => exact rc_mul a b
  | add a b => exact rc_add a b
  | _ => exact absurd h (by simp [ok])
theorem ch_ok {t : Tr} (h : ok t) : ∀ u ∈ ch t, ok u ∧ sg u ≤ sg t := by
  cases t with
  | var l => intro u hu; simp [ch] at hu
  | pow t l => intro u hu; simp [ch] at hu; subst hu; exact ⟨h.1, by simp [sg]⟩
  | mul a b => exact fun u hu => ⟨(pM_ok h u hu).1, (pM_ok h u hu).2.1⟩
  | add a b => exact fun u hu => ⟨(pA_ok h u hu).1, (pA_ok h u hu).2.1⟩
  | _ => exact absurd h (by simp [ok])
theorem pts_a {n : Int} (h : n < 100) : ptsOf n = 0 := if_pos h
theorem pts_b {n : Int} (h : 100 ≤ n) (h2 : n < 200) : ptsOf n = 1 := by unfold ptsOf; rw [if_neg (by omega), if_pos h2]
theorem pts_c {n : Int} (h : 200 ≤ n) : ptsOf n = n % 100 := by unfold ptsOf; rw [if_neg (by omega), if_neg (by omega)]
theorem nd_pts {t : Tr} (h : ok t) (h50 : sg t ≤ 50) : ptsOf (nd t) = (ch t).length ∧ 1 ≤ nd t ∧ nd t ≤ 400 := by
  cases t with
  | var l =>
    have h2 : vN l < 26 := h
    have e : nd (.var l) = (vN l : Int) + 1 := rfl
    rw [e, pts_a (by omega)]
    exact ⟨rfl, by omega, by omega⟩
  | pow t l =>
    have h2 : l < 26 := h.2
    have e : nd (.pow t l) = (l : Int) + 101 := rfl
    rw [e, pts_b (by omega) (by omega)]
    exact ⟨rfl, by omega, by omega⟩
  | mul a b =>
    have h1 := nM_le h
    have h2 := nM_pos (.mul a b)
    have e : nd (.mul a b) = (nM (.mul a b) : Int) + 200 := rfl
    have e2 : (ch (.mul a b)).length = nM (.mul a b) := pM_len _
    rw [e, pts_c (by omega), e2]
    omega
  | add a b =>
    have h1 := nA_le h
    have h2 := nA_pos (.add a b)
    have e : nd (.add a b) = (nA (.add a b) : Int) + 300 := rfl
    have e2 : (ch (.add a b)).length = nA (.add a b) := pA_len _
    rw [e, pts_c (by omega), e2]
    omega
  | _ => exact absurd h (by simp [ok])
theorem fr_len {ts : List Tr} (h : ∀ u ∈ ts, ok u) : ts.length ≤ (fr ts).length := by
  induction ts with
  | nil => simp
  | cons t ts ih =>
    have h1 := ih (fun u hu => h u (List.mem_cons_of_mem _ hu))
    have h2 := (rc_len2 (h t List.mem_cons_self) 0).2
    have h3 := sg_pos (h t List.mem_cons_self)
    rw [fr_cons, List.length_append, List.length_cons]
    omega
section MEnd
variable {E : EV} {d : Nat} {σ : St}
theorem c_M_endOf {a o : Int} {t : Tr} (ht : ok t) (h50 : sg t ≤ 50) (hA : At (σ.1 a) o (rc 0 t)) (ho : 0 ≤ o ∧ o ≤ 100000) (hs : ∃ n : Nat, sh σ a = some (20, n) ∧ o + (rc 0 t).length ≤ n) :
    WMi E m_M_endOf (d + 1) [aP a, aI o] σ (fun r τ => r = o + (rc 0 t).length ∧ τ = σ) := by
  obtain ⟨n, hs, hle⟩ := hs
  have hl2 := (rc_len2 ht 0).1
  refine e_M_endOf _ _ ?_
  have key : ∀ (s : Int × List Tr), (At (σ.1 a) s.1 (fr s.2) ∧ (∀ u ∈ s.2, ok u ∧ sg u ≤ 50) ∧ o ≤ s.1 ∧ s.1 + (fr s.2).length = o + (rc 0 t).length) → WP E m_M_endOf (d + 1) 4 [(0, aP a), (2, aI s.1), (3, aI s.2.length)] [] σ (fun r τ => ∃ v, r = some (aI v) ∧ σ.2 <+: τ.2 ∧ v = o + (rc 0 t).length ∧ τ = σ) := by
    refine lpx (fun s => (fr s.2).length) _ _ (fun s hI ih => ?_)
    obtain ⟨k, ts⟩ := s
    obtain ⟨i1, i2, i4, i5⟩ := hI
    simp only at i1 i2 i4 i5 ih ⊢
    have i3 := fr_len (fun u hu => (i2 u hu).1)
    refine b_M_endOf_4 _ _ _ ⟨by omega, fun c => ?_, fun c => ?_⟩
    · have h0 : ts = [] := List.eq_nil_of_length_eq_zero (by omega)
      subst h0
      rw [fr_nil] at i5
      exact ri_p (by simpa using i5)
    · cases ts with
      | nil => simp at c
      | cons u us =>
        have hu := i2 u List.mem_cons_self
        have hn := nd_pts hu.1 hu.2
        have e1 : fr (u :: us) = nd u :: fr (ch u ++ us) := by rw [fr_cons, rc0_nd hu.1, fr_app]; rfl
        rw [e1] at i1 i5
        obtain ⟨i6, i7⟩ := At.cons.mp i1
        simp only [List.length_cons] at i3 i5 c ⊢
        refine ⟨⟨n, hs, by omega, by omega, by omega⟩, wmi_p (c_M_partsOf (by rw [i6]; omega)) ?_⟩
        rw [i6, hn.1]
        have h9 := ih (k + 1, ch u ++ us) (by show (fr (ch u ++ us)).length < (fr (u :: us)).length; rw [e1]; simp) ⟨i7, ?_, ?_, ?_⟩
        · have e2 : (((u :: us).length : Nat) : Int) + (((ch u).length : Int) - 1) = ((ch u ++ us).length : Int) := by simp; omega
          simp only [List.length_cons] at e2
          rw [e2]
          exact h9
        · intro w hw
          rcases List.mem_append.mp hw with hw | hw
          · have := ch_ok hu.1 w hw
            exact ⟨this.1, by omega⟩
          · exact i2 w (List.mem_cons_of_mem _ hw)
        · show o ≤ k + 1; omega
        · show k + 1 + ((fr (ch u ++ us)).length : Int) = _; omega
  have := key (o, [t]) ⟨by rw [fr_one]; exact hA, by simpa using ⟨ht, h50⟩, Int.le_refl _, by rw [fr_one]⟩
  simpa using this
end MEnd
