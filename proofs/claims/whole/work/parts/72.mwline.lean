/-- whether a tree's text begins with a letter -/
def lf : Bool → Tr → Bool
  | _, .mul a _ => lf true a
  | b, .add a _ => if b then false else lf false a
  | _, _ => true
/-- the squares of a line from the k-th on -/
def sqT : Nat → List Tr → List Int
  | _, [] => []
  | k, t :: r => (if 0 < k then [45] else if lf false t then [32] else []) ++ (tx 0 t ++ sqT (k + 1) r)
def lnT (L : Ln) : List Int := wd 4 ++ ((if L.1 then 32 :: wd 5 else []) ++ (sqT 0 L.2 ++ [59]))
theorem sqT_len : ∀ (r : List Tr) (k : Nat), (∀ t ∈ r, ok t ∧ sg t ≤ 10) → (sqT k r).length ≤ 38 * r.length
  | [], _, _ => by simp [sqT]
  | t :: r, k, h => by
    have h1 := sqT_len r (k + 1) (fun u hu => h u (List.mem_cons_of_mem _ hu))
    have h2 := h t List.mem_cons_self
    have h3 := (tx_len h2.1 0).2
    simp only [sqT, List.length_append, List.length_cons]
    split
    · simp; omega
    · split <;> simp <;> omega
section MWLine
variable {E : EV} {d : Nat} {σ : St} {T : Tb} {M : Mo} {P : List Mo} {tp : List Int} {X : List Int}
theorem c_M_isLetterFirst {t : Tr} (hF : Fix σ) (hR : RowIs σ (rc 0 t)) (ht : ok t) (h10 : sg t ≤ 10) : WMi E m_M_isLetterFirst (d + 1) [aP 42] σ (fun r τ => r = b2i (lf false t = true) ∧ τ = σ) := by
  have hl2 := (rc_len2 ht 0).1
  refine e_M_isLetterFirst ?_
  have key : ∀ z : Nat × Tr × Bool, (At (σ.1 50) z.1 (rc 0 z.2.1) ∧ z.1 + (rc 0 z.2.1).length ≤ 20 ∧ ok z.2.1 ∧ sg z.2.1 ≤ 10 ∧ lf z.2.2 z.2.1 = lf false t) → WP E m_M_isLetterFirst (d + 1) 4 [(0, aP 42), (1, aI (b2i (z.2.2 = true))), (2, aI z.1)] [] σ (fun r τ => ∃ v, r = some (aI v) ∧ σ.2 <+: τ.2 ∧ v = b2i (lf false t = true) ∧ τ = σ) := by
    refine lpx (fun z => (rc 0 z.2.1).length) _ _ (fun z hI ih => ?_)
    obtain ⟨k, u, b⟩ := z
    obtain ⟨i1, i2, i3, i4, i5⟩ := hI
    simp only at i1 i2 i3 i4 i5 ih ⊢
    have hnd := nd_pts i3 (by omega)
    have hnj := nd_j i3 (by omega)
    have hx : σ.1 50 k = nd u := by have h9 := i1; rw [rc0_nd i3] at h9; exact h9.hd
    have hlen := (rc_len2 i3 0).2
    have hp := sg_pos i3
    have nxt : ∀ (a y : Tr) (b' : Bool) (n : Int) (K : List Int), rc 0 u = n :: (rc 0 a ++ K) → ok a → sg a ≤ 10 → lf b' a = lf false t → WP E m_M_isLetterFirst (d + 1) 51 [(0, aP 42), (2, aI k)] [aI (b2i (b' = true))] σ (fun r τ => ∃ v, r = some (aI v) ∧ σ.2 <+: τ.2 ∧ v = b2i (lf false t = true) ∧ τ = σ) := by
      intro a y b' n K e1 e2 e3 e4
      refine b_M_isLetterFirst_51 _ _ ?_
      have q := i1
      rw [e1] at q i2
      have q2 := (At.app.mp (At.cons.mp q).2).1
      simp only [List.length_cons, List.length_append] at i2
      have h9 := ih (k + 1, a, b') (by show (rc 0 a).length < (rc 0 u).length; rw [e1]; simp; omega) ⟨by show At _ ((k + 1 : Nat) : Int) _; rw [show ((k + 1 : Nat) : Int) = (k : Int) + 1 by omega]; exact q2, by show k + 1 + (rc 0 a).length ≤ 20; omega, e2, e3, e4⟩
      simp only at h9
      rw [show ((k + 1 : Nat) : Int) = (k : Int) + 1 by omega] at h9
      exact h9
    refine b_M_isLetterFirst_4 _ _ hF ⟨by omega, wmi_p (c_M_isSign (by omega)) ⟨hF, b2i_r _, fun c => ri_p ?_, fun c => ⟨by omega, by omega, fun c2 => ?_, fun c2 => ⟨b2i_r _, fun c3 => ?_, fun c3 => ri_p ?_⟩⟩⟩⟩
    · rw [b2i_n0, hx] at c
      have hJ : isJ u = false := by cases hh : isJ u with | false => rfl | true => exact absurd (hnj.1.mpr hh) (by omega)
      rw [← i5, b2i_t]
      cases u <;> simp_all [isJ, isM, isA, lf]
    · rw [b2i_0, hx] at c
      rw [hx] at c2
      have hJ : isJ u = true := hnj.1.mp (by omega)
      have hA : isA u ≠ true := fun q => by have := hnj.2.mpr q; omega
      cases u with
      | mul a y =>
        refine b_M_isLetterFirst_34 _ hF ⟨by omega, by omega, fun q => by omega, fun _ => ?_⟩
        simp only [sg] at i4
        exact nxt a y true _ (rc 1 y) rfl i3.1 (by omega) i5
      | _ => simp_all [isJ, isM, isA]
    · rw [b2i_0, hx] at c
      rw [hx] at c2
      rw [b2i_0] at c3
      have hA : isA u = true := hnj.2.mp (by omega)
      have hb : b = false := by simpa using c3
      subst hb
      cases u with
      | add a y =>
        refine b_M_isLetterFirst_34 _ hF ⟨by omega, by omega, fun q => ?_, fun q => by omega⟩
        simp only [sg] at i4
        exact nxt a y false _ (rc 2 y) rfl i3.1 (by omega) (by rw [← i5]; simp [lf])
      | _ => simp_all [isA]
    · rw [hx] at c2
      rw [b2i_n0] at c3
      have hA : isA u = true := hnj.2.mp (by omega)
      rw [← i5, b2i_f]
      cases u <;> simp_all [isA, lf]
  exact key (0, t, false) ⟨hR.2, by show 0 + (rc 0 t).length ≤ 20; omega, ht, h10, rfl⟩
end MWLine
