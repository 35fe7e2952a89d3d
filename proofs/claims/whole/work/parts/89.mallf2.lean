section MAllF2
variable {E : EV} {d : Nat} {σ : St} {T : Tb} {M : Mo} {P : List Mo} {tp : List Int}
theorem FmOK.keep {X : List (Int × Int)} {τ : St} (h : FmOK σ) (hf : Fr X σ τ) (h1 : ∀ j, frO X 69 j = true) (h2 : ∀ j, frO X 70 j = true) (h3 : ∀ j, frO X 71 j = true) : FmOK τ := by
  rcases h with h | h
  · left
    intro n a b
    have hl := fF_len n a b
    have hm := off_mono (n + 1) 7 (by omega) (by omega)
    exact (h n a b).keep (B := 257) (hf.2 _ _ (h2 _)) (hf.2 _ _ (h3 _)) (fun j _ => hf.2 _ _ (h1 _)) (by have e : offF 7 = 257 := rfl; omega) (fun s hs => (fF_rc (by omega) b hs).1)
  · right
    intro n a b
    rw [hf.2 _ _ (h2 _)]
    exact h n a b
theorem range_flat {n k : Nat} (g : Nat → List Tr) (h : k < n) : (List.range (k + 1)).flatMap g = (List.range k).flatMap g ++ g k := by
  rw [List.range_succ, List.flatMap_append]; simp
theorem range_split {n k : Nat} (g : Nat → List Tr) (h : k < n) : ∃ R, (List.range n).flatMap g = (List.range k).flatMap g ++ (g k ++ R) := by
  have e : List.range n = List.range (k + 1) ++ (List.range' (k + 1) (n - (k + 1))) := by
    have q := List.range'_append_1 (s := 0) (m := k + 1) (n := n - (k + 1))
    rw [show 0 + (k + 1) = k + 1 by omega, show k + 1 + (n - (k + 1)) = n by omega] at q
    rw [List.range_eq_range', List.range_eq_range', q]
  exact ⟨(List.range' (k + 1) (n - (k + 1))).flatMap g, by rw [e, List.flatMap_append, range_flat (n := n) g h, List.append_assoc]⟩
theorem c_M_laysAllForms (hF : Fix σ) (h : FmOK σ) : WMv E m_M_laysAllForms (d + 3) [aP 42] σ (fun τ => Fr foX σ τ ∧ FormsOK τ) := by
  have h2v : FormsOK σ → ¬ σ.1 70 2 ≤ 0 := by
    intro q c
    have := (q 2 (by omega) (by omega)).1
    have hl : (fF 2).length = 1 := by decide +kernel
    rw [hl] at this
    have e : ((2 : Nat) : Int) = 2 := rfl
    rw [e] at this
    omega
  refine e_M_laysAllForms hF ⟨?_, fun c => ?_, fun c => ?_⟩
  · rcases h with h | h
    · have := (h 2 (by omega) (by omega)).1
      have hl : (fF 2).length = 1 := by decide +kernel
      rw [hl] at this
      have e : ((2 : Nat) : Int) = 2 := rfl
      rw [e] at this
      rw [this]; decide
    · have := h 2 (by omega) (by omega)
      have e : ((2 : Nat) : Int) = 2 := rfl
      rw [e] at this
      rw [this]; decide
  · have h0 : ∀ n : Nat, 2 ≤ n → n ≤ 6 → σ.1 70 n = 0 := by
      rcases h with h | h
      · exact absurd c (h2v h)
      · exact h
    -- the loop over how many signs
    have key : ∀ z : Nat × St, (2 ≤ z.1 ∧ z.1 ≤ 7 ∧ Fr foX σ z.2 ∧ LoOK z.2 z.1 ∧ ∀ m : Nat, z.1 ≤ m → m ≤ 6 → z.2.1 70 m = 0) → WP E m_M_laysAllForms (d + 3) 12 [(0, aP 42), (1, aI z.1)] [] z.2 (fun r τ => r = none ∧ σ.2 <+: τ.2 ∧ Fr foX σ τ ∧ FormsOK τ) := by
      refine lpx (fun z => 7 - z.1) _ _ (fun z hI ih => ?_)
      obtain ⟨n, τ⟩ := z
      obtain ⟨i1, i2, i3, i4, i5⟩ := hI
      simp only at i1 i2 i3 i4 i5 ih ⊢
      have hT := i3.fix hF (by decide)
      refine b_M_laysAllForms_12 _ hT ⟨by omega, fun c2 => ?_, fun c2 => ?_⟩
      · exact ⟨rfl, pre_eq i3.1, i3, fun m a b => i4 m a (by omega)⟩
      · have hn6 : n ≤ 6 := by omega
        have st : ∀ v : Int, v = offF n → WP E m_M_laysAllForms (d + 3) 49 [(0, aP 42), (1, aI n)] [aI v, aI n, aP 71] τ (fun r τ => r = none ∧ σ.2 <+: τ.2 ∧ Fr foX σ τ ∧ FormsOK τ) := by
          intro v hv
          refine b_M_laysAllForms_49 _ _ _ _ ⟨⟨8, sf_71 hT, by omega, by omega, by omega⟩, ?_⟩
          have fw : Fr foX τ (wr τ 71 n v) := Fr.wr (frO_a (by decide) _)
          have hlo1 : LoOK (wr τ 71 n v) n := fun m a b => by
            have hl := fF_len m a (by omega)
            have hm := off_mono (m + 1) 7 (by omega) (by omega)
            exact (i4 m a b).keep (B := 257) (wr_na _ (by decide)) (wr_nk _ (by omega)) (fun j _ => wr_na _ (by decide)) (by have e : offF 7 = 257 := rfl; omega) (fun s hs => (fF_rc (by omega) (by omega) hs).1)
          have hlv1 : LvOK (wr τ 71 n v) n [] := ⟨by rw [wr_na _ (by decide), i5 n (by omega) hn6]; rfl, by rw [wr_same, hv], fun i s hs => by simp at hs⟩
          have hm1 : ∀ m : Nat, n + 1 ≤ m → m ≤ 6 → (wr τ 71 n v).1 70 m = 0 := fun m a b => by rw [wr_na _ (by decide)]; exact i5 m (by omega) b
          have f1 := i3.tr fw
          generalize wr τ 71 n v = υ at *
          have hFn := fF_n n i1 hn6
          -- the loop over the first part
          have key2 : ∀ y : Nat × St, (y.1 ≤ n - 1 ∧ Fr foX σ y.2 ∧ LoOK y.2 n ∧ LvOK y.2 n ((List.range y.1).flatMap (fun j => pcF fF n (j + 1))) ∧ ∀ m : Nat, n + 1 ≤ m → m ≤ 6 → y.2.1 70 m = 0) → WP E m_M_laysAllForms (d + 3) 52 [(0, aP 42), (1, aI n), (2, aI ((y.1 : Int) + 1))] [] y.2 (fun r τ => r = none ∧ σ.2 <+: τ.2 ∧ Fr foX σ τ ∧ FormsOK τ) := by
            refine lpx (fun y => n - 1 - y.1) _ _ (fun y hI2 ih2 => ?_)
            obtain ⟨f, ψ⟩ := y
            obtain ⟨j1, j2, j3, j4, j5⟩ := hI2
            simp only at j1 j2 j3 j4 j5 ih2 ⊢
            have hP := j2.fix hF (by decide)
            refine b_M_laysAllForms_52 _ _ hP ⟨by omega, by omega, fun c3 => ?_, fun c3 => ?_⟩
            · have hfe : f = n - 1 := by omega
              subst hfe
              have hfull : LvOK ψ n (fF n) := by rw [hFn]; exact j4
              have h9 := ih (n + 1, ψ) (by show 7 - (n + 1) < 7 - n; omega) ⟨by show 2 ≤ n + 1; omega, by show n + 1 ≤ 7; omega, j2, fun m a b => by
                by_cases hmn : m = n
                · subst hmn; exact hfull
                · exact j3 m a (by have : m < n + 1 := b; omega), j5⟩
              simp only at h9
              rw [show ((n + 1 : Nat) : Int) = (n : Int) + 1 by omega] at h9
              exact h9
            · have hfn : f < n - 1 := by omega
              obtain ⟨R, hR⟩ := range_split (fun j => pcF fF n (j + 1)) hfn
              have hR' : fF n = (List.range f).flatMap (fun j => pcF fF n (j + 1)) ++ (pcF fF n (f + 1) ++ R) := by rw [hFn]; exact hR
              have hrs := range_flat (n := n - 1) (fun j => pcF fF n (j + 1)) hfn
              generalize (List.range f).flatMap (fun j => pcF fF n (j + 1)) = C at *
              -- the loop over its forms
              have key3 : ∀ x : Nat × St, (x.1 ≤ (fF (f + 1)).length ∧ Fr foX σ x.2 ∧ LoOK x.2 n ∧ LvOK x.2 n (C ++ ((fF (f + 1)).take x.1).flatMap (pcA fF n (f + 1))) ∧ ∀ m : Nat, n + 1 ≤ m → m ≤ 6 → x.2.1 70 m = 0) → WP E m_M_laysAllForms (d + 3) 76 [(0, aP 42), (1, aI n), (2, aI ((f : Int) + 1)), (3, aI (fF (f + 1)).length), (4, aI x.1)] [] x.2 (fun r τ => r = none ∧ σ.2 <+: τ.2 ∧ Fr foX σ τ ∧ FormsOK τ) := by
                refine lpx (fun x => (fF (f + 1)).length - x.1) _ _ (fun x hI3 ih3 => ?_)
                obtain ⟨w, χ⟩ := x
                obtain ⟨k1, k2, k3, k4, k5⟩ := hI3
                simp only at k1 k2 k3 k4 k5 ih3 ⊢
                have hX := k2.fix hF (by decide)
                have hfl : (fF (f + 1)).length ≤ 257 := by
                  by_cases h1 : f = 0
                  · subst h1; rw [fF_1]; decide
                  · have := fF_len (f + 1) (by omega) (by omega)
                    have := off_mono (f + 1 + 1) 7 (by omega) (by omega)
                    have e : offF 7 = 257 := rfl
                    omega
                refine b_M_laysAllForms_76 _ _ _ _ hX ⟨by omega, by omega, fun c4 => ?_, fun c4 => ?_⟩
                · have h9 := ih2 (f + 1, χ) (by show n - 1 - (f + 1) < n - 1 - f; omega) ⟨by show f + 1 ≤ n - 1; omega, k2, k3, ?_, k5⟩
                  · simp only at h9
                    rw [show ((f + 1 : Nat) : Int) + 1 = (f : Int) + 1 + 1 by omega] at h9
                    exact h9
                  · show LvOK χ n ((List.range (f + 1)).flatMap (fun j => pcF fF n (j + 1)))
                    rw [hrs]
                    rw [List.take_of_length_le (by omega)] at k4
                    exact k4
                · have hwl : w < (fF (f + 1)).length := by omega
                  have hft := flatMap_take (pcA fF n (f + 1)) hwl
                  have hae := List.getElem?_eq_getElem hwl
                  have hsplit : (fF (f + 1)).flatMap (pcA fF n (f + 1)) = ((fF (f + 1)).take w).flatMap (pcA fF n (f + 1)) ++ (pcA fF n (f + 1) (fF (f + 1))[w] ++ ((fF (f + 1)).drop (w + 1)).flatMap (pcA fF n (f + 1))) := by
                    conv => lhs; rw [← List.take_append_drop (w + 1) (fF (f + 1)), List.flatMap_append, hft, List.append_assoc]
                  generalize (fF (f + 1))[w] = a at hae hft hsplit
                  refine WMv.mono (c_M_laysForms (n := n) (f := f + 1) (wh := w) (a := a) (L := C ++ ((fF (f + 1)).take w).flatMap (pcA fF n (f + 1))) (R := ((fF (f + 1)).drop (w + 1)).flatMap (pcA fF n (f + 1)) ++ R) hX ⟨i1, hn6⟩ ⟨by omega, by omega⟩ hae k3 k4 ?_) (fun ω pp qq => ?_)
                  · rw [hR']
                    unfold pcF
                    rw [hsplit]
                    simp
                  · obtain ⟨m1, m2, m3, m4⟩ := qq
                    have h9 := ih3 (w + 1, ω) (by show (fF (f + 1)).length - (w + 1) < (fF (f + 1)).length - w; omega) ⟨by show w + 1 ≤ _; omega, k2.tr m1, m2, ?_, fun m a b => by rw [m4 _ (by omega)]; exact k5 m a b⟩
                    · simp only at h9
                      rw [show ((w + 1 : Nat) : Int) = (w : Int) + 1 by omega] at h9
                      exact h9
                    · show LvOK ω n (C ++ ((fF (f + 1)).take (w + 1)).flatMap (pcA fF n (f + 1)))
                      rw [hft, ← List.append_assoc]
                      exact m3
              have st3 := key3 (0, ψ) ⟨Nat.zero_le _, j2, j3, by simpa using j4, j5⟩
              simp only at st3
              refine ⟨by omega, fun c4 => ⟨by omega, b_M_laysAllForms_72 _ _ _ ?_⟩, fun c4 => b_M_laysAllForms_72 _ _ _ ?_⟩
              · have h8 := (j3 (f + 1) (by omega) (by omega)).1
                rw [show ((f + 1 : Nat) : Int) = (f : Int) + 1 by omega] at h8
                rw [h8]
                exact st3
              · have h0 : f = 0 := by omega
                subst h0
                have e : (fF (0 + 1)).length = 1 := by rw [show 0 + 1 = 1 by rfl, fF_1]; rfl
                rw [e] at st3
                exact st3
          exact key2 (0, υ) ⟨Nat.zero_le _, f1, hlo1, hlv1, hm1⟩
        refine ⟨by omega, fun c3 => ⟨by omega, by omega, ?_⟩, fun c3 => st 0 ?_⟩
        · have h8 := i4 (n - 1) (by omega) (by omega)
          have hl := fF_len (n - 1) (by omega) (by omega)
          rw [show n - 1 + 1 = n by omega] at hl
          have e : ((n - 1 : Nat) : Int) = (n : Int) - 1 := by omega
          have h81 := h8.1
          have h82 := h8.2.1
          rw [e] at h81 h82
          rw [h81, h82]
          exact st _ (by omega)
        · have : n = 2 := by omega
          subst this
          rfl
    exact key (2, σ) ⟨Nat.le_refl 2, by show 2 ≤ 7; decide, Fr.refl _ _, fun m a b => by have : m < 2 := b; omega, fun m a b => h0 m a b⟩
  · refine ⟨rfl, List.prefix_refl _, Fr.refl _ _, ?_⟩
    rcases h with h | h
    · exact h
    · have := h 2 (by omega) (by omega)
      have e : ((2 : Nat) : Int) = 2 := rfl
      rw [e] at this
      omega
end MAllF2
