section Arith
variable {E : EV} {M : MI} {d pc : Nat} {ls ls' : List (Nat × AV)} {st : List AV} {σ : St} {Q : Option AV → St → Prop}
abbrev rI (x : Int) : Prop := -2147483648 ≤ x ∧ x ≤ 2147483647
abbrev rL (x : Int) : Prop := -9223372036854775808 ≤ x ∧ x ≤ 9223372036854775807
theorem tI {x : Int} (h : rI x) : (Int32.ofInt x).toInt = x := Int32.toInt_ofInt_of_le (by have := h.1; omega) (by have := h.2; omega)
theorem tL {x : Int} (h : rL x) : (Int64.ofInt x).toInt = x := Int64.toInt_ofInt_of_le (by have := h.1; omega) (by have := h.2; omega)
theorem eqI {x y : Int} (hx : rI x) (hy : rI y) : (Int32.ofInt x = Int32.ofInt y) = (x = y) := by
  apply propext
  constructor
  · intro h
    have h2 := congrArg Int32.toInt h
    rwa [tI hx, tI hy] at h2
  · intro h
    rw [h]
theorem leI {x y : Int} (hx : rI x) (hy : rI y) : (Int32.ofInt x ≤ Int32.ofInt y) = (x ≤ y) := by
  rw [Int32.le_iff_toInt_le, tI hx, tI hy]
theorem ltI {x y : Int} (hx : rI x) (hy : rI y) : (Int32.ofInt x < Int32.ofInt y) = (x < y) := by
  rw [Int32.lt_iff_toInt_lt, tI hx, tI hy]
theorem z0 : (0 : Int32) = Int32.ofInt 0 := rfl
theorem r0 : rI 0 := by decide
theorem s_goto {off : Int} {tgt : Nat} (hd : decode M.2.1 pc = .ok (.goto off, 3)) (ht : (pc : Int) + off = (tgt : Int)) (k : WP E M d tgt ls st σ Q) : WP E M d pc ls st σ Q :=
  run_pure (fun p e R s m args below meth c H locs cells slots Z lsA hM hl z => lv_goto hM.1 hM.2.1 hd ht (z _ hl)) k
theorem s_icmp_lt {x y off : Int} {tgt : Nat} (hd : decode M.2.1 pc = .ok (.if_icmp .lt off, 3)) (ht : (pc : Int) + off = (tgt : Int)) (hx : rI x) (hy : rI y) (kt : x < y → WP E M d tgt ls st σ Q) (kf : ¬ x < y → WP E M d (pc + 3) ls st σ Q) : WP E M d pc ls (aI y :: aI x :: st) σ Q := by
  by_cases h : x < y
  · exact run_pure (fun p e R s m args below meth c H locs cells slots Z lsA hM hl z => lv_icmp_lt hM.1 hM.2.1 hd ht (fun _ => z _ hl) (fun q => absurd h (by rwa [ltI hx hy] at q))) (kt h)
  · exact run_pure (fun p e R s m args below meth c H locs cells slots Z lsA hM hl z => lv_icmp_lt hM.1 hM.2.1 hd ht (fun q => absurd (by rwa [ltI hx hy] at q) h) (fun _ => z _ hl)) (kf h)
theorem s_icmp_ge {x y off : Int} {tgt : Nat} (hd : decode M.2.1 pc = .ok (.if_icmp .ge off, 3)) (ht : (pc : Int) + off = (tgt : Int)) (hx : rI x) (hy : rI y) (kt : y ≤ x → WP E M d tgt ls st σ Q) (kf : ¬ y ≤ x → WP E M d (pc + 3) ls st σ Q) : WP E M d pc ls (aI y :: aI x :: st) σ Q := by
  by_cases h : y ≤ x
  · exact run_pure (fun p e R s m args below meth c H locs cells slots Z lsA hM hl z => lv_icmp_ge hM.1 hM.2.1 hd ht (fun _ => z _ hl) (fun q => absurd h (by rwa [leI hy hx] at q))) (kt h)
  · exact run_pure (fun p e R s m args below meth c H locs cells slots Z lsA hM hl z => lv_icmp_ge hM.1 hM.2.1 hd ht (fun q => absurd (by rwa [leI hy hx] at q) h) (fun _ => z _ hl)) (kf h)
theorem s_icmp_gt {x y off : Int} {tgt : Nat} (hd : decode M.2.1 pc = .ok (.if_icmp .gt off, 3)) (ht : (pc : Int) + off = (tgt : Int)) (hx : rI x) (hy : rI y) (kt : y < x → WP E M d tgt ls st σ Q) (kf : ¬ y < x → WP E M d (pc + 3) ls st σ Q) : WP E M d pc ls (aI y :: aI x :: st) σ Q := by
  by_cases h : y < x
  · exact run_pure (fun p e R s m args below meth c H locs cells slots Z lsA hM hl z => lv_icmp_gt hM.1 hM.2.1 hd ht (fun _ => z _ hl) (fun q => absurd h (by rwa [ltI hy hx] at q))) (kt h)
  · exact run_pure (fun p e R s m args below meth c H locs cells slots Z lsA hM hl z => lv_icmp_gt hM.1 hM.2.1 hd ht (fun q => absurd (by rwa [ltI hy hx] at q) h) (fun _ => z _ hl)) (kf h)
theorem s_icmp_le {x y off : Int} {tgt : Nat} (hd : decode M.2.1 pc = .ok (.if_icmp .le off, 3)) (ht : (pc : Int) + off = (tgt : Int)) (hx : rI x) (hy : rI y) (kt : x ≤ y → WP E M d tgt ls st σ Q) (kf : ¬ x ≤ y → WP E M d (pc + 3) ls st σ Q) : WP E M d pc ls (aI y :: aI x :: st) σ Q := by
  by_cases h : x ≤ y
  · exact run_pure (fun p e R s m args below meth c H locs cells slots Z lsA hM hl z => lv_icmp_le hM.1 hM.2.1 hd ht (fun _ => z _ hl) (fun q => absurd h (by rwa [leI hx hy] at q))) (kt h)
  · exact run_pure (fun p e R s m args below meth c H locs cells slots Z lsA hM hl z => lv_icmp_le hM.1 hM.2.1 hd ht (fun q => absurd (by rwa [leI hx hy] at q) h) (fun _ => z _ hl)) (kf h)
theorem s_icmp_eq {x y off : Int} {tgt : Nat} (hd : decode M.2.1 pc = .ok (.if_icmp .eq off, 3)) (ht : (pc : Int) + off = (tgt : Int)) (hx : rI x) (hy : rI y) (kt : x = y → WP E M d tgt ls st σ Q) (kf : ¬ x = y → WP E M d (pc + 3) ls st σ Q) : WP E M d pc ls (aI y :: aI x :: st) σ Q := by
  by_cases h : x = y
  · exact run_pure (fun p e R s m args below meth c H locs cells slots Z lsA hM hl z => lv_icmp_eq hM.1 hM.2.1 hd ht (fun _ => z _ hl) (fun q => absurd h (by rwa [eqI hx hy] at q))) (kt h)
  · exact run_pure (fun p e R s m args below meth c H locs cells slots Z lsA hM hl z => lv_icmp_eq hM.1 hM.2.1 hd ht (fun q => absurd (by rwa [eqI hx hy] at q) h) (fun _ => z _ hl)) (kf h)
theorem s_icmp_ne {x y off : Int} {tgt : Nat} (hd : decode M.2.1 pc = .ok (.if_icmp .ne off, 3)) (ht : (pc : Int) + off = (tgt : Int)) (hx : rI x) (hy : rI y) (kt : ¬ x = y → WP E M d tgt ls st σ Q) (kf : x = y → WP E M d (pc + 3) ls st σ Q) : WP E M d pc ls (aI y :: aI x :: st) σ Q := by
  by_cases h : x = y
  · exact run_pure (fun p e R s m args below meth c H locs cells slots Z lsA hM hl z => lv_icmp_ne hM.1 hM.2.1 hd ht (fun q => absurd (by rw [h]) q) (fun _ => z _ hl)) (kf h)
  · exact run_pure (fun p e R s m args below meth c H locs cells slots Z lsA hM hl z => lv_icmp_ne hM.1 hM.2.1 hd ht (fun _ => z _ hl) (fun q => absurd (by rwa [eqI hx hy] at q) h)) (kt h)
theorem s_if_eq {x off : Int} {tgt : Nat} (hd : decode M.2.1 pc = .ok (.ifCond .eq off, 3)) (ht : (pc : Int) + off = (tgt : Int)) (hx : rI x) (kt : x = 0 → WP E M d tgt ls st σ Q) (kf : ¬ x = 0 → WP E M d (pc + 3) ls st σ Q) : WP E M d pc ls (aI x :: st) σ Q := by
  by_cases h : x = 0
  · exact run_pure (fun p e R s m args below meth c H locs cells slots Z lsA hM hl z => lv_if_eq hM.1 hM.2.1 hd ht (fun _ => z _ hl) (fun q => absurd h (by rwa [z0, eqI hx r0] at q))) (kt h)
  · exact run_pure (fun p e R s m args below meth c H locs cells slots Z lsA hM hl z => lv_if_eq hM.1 hM.2.1 hd ht (fun q => absurd (by rwa [z0, eqI hx r0] at q) h) (fun _ => z _ hl)) (kf h)
theorem s_if_ne {x off : Int} {tgt : Nat} (hd : decode M.2.1 pc = .ok (.ifCond .ne off, 3)) (ht : (pc : Int) + off = (tgt : Int)) (hx : rI x) (kt : ¬ x = 0 → WP E M d tgt ls st σ Q) (kf : x = 0 → WP E M d (pc + 3) ls st σ Q) : WP E M d pc ls (aI x :: st) σ Q := by
  by_cases h : x = 0
  · exact run_pure (fun p e R s m args below meth c H locs cells slots Z lsA hM hl z => lv_if_ne hM.1 hM.2.1 hd ht (fun q => absurd (by rw [h]; rfl) q) (fun _ => z _ hl)) (kf h)
  · exact run_pure (fun p e R s m args below meth c H locs cells slots Z lsA hM hl z => lv_if_ne hM.1 hM.2.1 hd ht (fun _ => z _ hl) (fun q => absurd (by rwa [z0, eqI hx r0] at q) h)) (kt h)
theorem s_if_lt {x off : Int} {tgt : Nat} (hd : decode M.2.1 pc = .ok (.ifCond .lt off, 3)) (ht : (pc : Int) + off = (tgt : Int)) (hx : rI x) (kt : x < 0 → WP E M d tgt ls st σ Q) (kf : ¬ x < 0 → WP E M d (pc + 3) ls st σ Q) : WP E M d pc ls (aI x :: st) σ Q := by
  by_cases h : x < 0
  · exact run_pure (fun p e R s m args below meth c H locs cells slots Z lsA hM hl z => lv_if_lt hM.1 hM.2.1 hd ht (fun _ => z _ hl) (fun q => absurd h (by rwa [z0, ltI hx r0] at q))) (kt h)
  · exact run_pure (fun p e R s m args below meth c H locs cells slots Z lsA hM hl z => lv_if_lt hM.1 hM.2.1 hd ht (fun q => absurd (by rwa [z0, ltI hx r0] at q) h) (fun _ => z _ hl)) (kf h)
theorem s_if_ge {x off : Int} {tgt : Nat} (hd : decode M.2.1 pc = .ok (.ifCond .ge off, 3)) (ht : (pc : Int) + off = (tgt : Int)) (hx : rI x) (kt : 0 ≤ x → WP E M d tgt ls st σ Q) (kf : ¬ 0 ≤ x → WP E M d (pc + 3) ls st σ Q) : WP E M d pc ls (aI x :: st) σ Q := by
  by_cases h : 0 ≤ x
  · exact run_pure (fun p e R s m args below meth c H locs cells slots Z lsA hM hl z => lv_if_ge hM.1 hM.2.1 hd ht (fun _ => z _ hl) (fun q => absurd h (by rwa [z0, leI r0 hx] at q))) (kt h)
  · exact run_pure (fun p e R s m args below meth c H locs cells slots Z lsA hM hl z => lv_if_ge hM.1 hM.2.1 hd ht (fun q => absurd (by rwa [z0, leI r0 hx] at q) h) (fun _ => z _ hl)) (kf h)
theorem s_if_gt {x off : Int} {tgt : Nat} (hd : decode M.2.1 pc = .ok (.ifCond .gt off, 3)) (ht : (pc : Int) + off = (tgt : Int)) (hx : rI x) (kt : 0 < x → WP E M d tgt ls st σ Q) (kf : ¬ 0 < x → WP E M d (pc + 3) ls st σ Q) : WP E M d pc ls (aI x :: st) σ Q := by
  by_cases h : 0 < x
  · exact run_pure (fun p e R s m args below meth c H locs cells slots Z lsA hM hl z => lv_if_gt hM.1 hM.2.1 hd ht (fun _ => z _ hl) (fun q => absurd h (by rwa [z0, ltI r0 hx] at q))) (kt h)
  · exact run_pure (fun p e R s m args below meth c H locs cells slots Z lsA hM hl z => lv_if_gt hM.1 hM.2.1 hd ht (fun q => absurd (by rwa [z0, ltI r0 hx] at q) h) (fun _ => z _ hl)) (kf h)
theorem s_if_le {x off : Int} {tgt : Nat} (hd : decode M.2.1 pc = .ok (.ifCond .le off, 3)) (ht : (pc : Int) + off = (tgt : Int)) (hx : rI x) (kt : x ≤ 0 → WP E M d tgt ls st σ Q) (kf : ¬ x ≤ 0 → WP E M d (pc + 3) ls st σ Q) : WP E M d pc ls (aI x :: st) σ Q := by
  by_cases h : x ≤ 0
  · exact run_pure (fun p e R s m args below meth c H locs cells slots Z lsA hM hl z => lv_if_le hM.1 hM.2.1 hd ht (fun _ => z _ hl) (fun q => absurd h (by rwa [z0, leI hx r0] at q))) (kt h)
  · exact run_pure (fun p e R s m args below meth c H locs cells slots Z lsA hM hl z => lv_if_le hM.1 hM.2.1 hd ht (fun q => absurd (by rwa [z0, leI hx r0] at q) h) (fun _ => z _ hl)) (kf h)
theorem s_ifnull {x off : Int} {tgt : Nat} (hd : decode M.2.1 pc = .ok (.ifnull off, 3)) (ht : (pc : Int) + off = (tgt : Int)) (kt : x = 0 → WP E M d tgt ls st σ Q) (kf : ¬ x = 0 → WP E M d (pc + 3) ls st σ Q) : WP E M d pc ls (aP x :: st) σ Q := by
  rcases eR_cases E x with ⟨h0, e0⟩ | ⟨h0, a, e0⟩
  · refine run_pure (fun p e R s m args below meth c H locs cells slots Z lsA hM hl z => ?_) (kt h0)
    show W p E.1 e R s m args below meth c H locs cells slots Z (F0 m pc lsA (eR E x :: eS E st))
    rw [e0]
    exact lv_ifnullN hM.1 hM.2.1 hd ht (z _ hl)
  · refine run_pure (fun p e R s m args below meth c H locs cells slots Z lsA hM hl z => ?_) (kf h0)
    show W p E.1 e R s m args below meth c H locs cells slots Z (F0 m pc lsA (eR E x :: eS E st))
    rw [e0]
    exact lv_ifnull hM.1 hM.2.1 hd (z _ hl)
theorem s_ifnonnull {x off : Int} {tgt : Nat} (hd : decode M.2.1 pc = .ok (.ifnonnull off, 3)) (ht : (pc : Int) + off = (tgt : Int)) (kt : ¬ x = 0 → WP E M d tgt ls st σ Q) (kf : x = 0 → WP E M d (pc + 3) ls st σ Q) : WP E M d pc ls (aP x :: st) σ Q := by
  rcases eR_cases E x with ⟨h0, e0⟩ | ⟨h0, a, e0⟩
  · refine run_pure (fun p e R s m args below meth c H locs cells slots Z lsA hM hl z => ?_) (kf h0)
    show W p E.1 e R s m args below meth c H locs cells slots Z (F0 m pc lsA (eR E x :: eS E st))
    rw [e0]
    exact lv_ifnonnullN hM.1 hM.2.1 hd (z _ hl)
  · refine run_pure (fun p e R s m args below meth c H locs cells slots Z lsA hM hl z => ?_) (kt h0)
    show W p E.1 e R s m args below meth c H locs cells slots Z (F0 m pc lsA (eR E x :: eS E st))
    rw [e0]
    exact lv_ifnonnull hM.1 hM.2.1 hd ht (z _ hl)
/-- a reference that is null or a new cell, as an option -/
theorem eR_rf (E : EV) {v : Int} (h : 0 ≤ v) : eR E v = va_rf (if v = 0 then none else some (eBase E + (v - 1).toNat)) := by
  unfold eR
  by_cases h0 : v = 0
  · rw [if_pos h0, if_pos h0]; rfl
  · rw [if_neg h0, if_neg h0, if_pos (by omega)]; rfl
theorem s_acmp_ne {x y off : Int} {tgt : Nat} (hd : decode M.2.1 pc = .ok (.if_acmp .ne off, 3)) (ht : (pc : Int) + off = (tgt : Int)) (hx : 0 ≤ x) (hy : 0 ≤ y) (kt : ¬ x = y → WP E M d tgt ls st σ Q) (kf : x = y → WP E M d (pc + 3) ls st σ Q) : WP E M d pc ls (aP y :: aP x :: st) σ Q := by
  have key : ((if x = 0 then none else some (eBase E + (x - 1).toNat)) = (if y = 0 then none else some (eBase E + (y - 1).toNat))) ↔ x = y := by
    by_cases h1 : x = 0 <;> by_cases h2 : y = 0 <;> simp [h1, h2] <;> omega
  by_cases h : x = y
  · refine run_pure (fun p e R s m args below meth c H locs cells slots Z lsA hM hl z => ?_) (kf h)
    show W p E.1 e R s m args below meth c H locs cells slots Z (F0 m pc lsA (eR E y :: eR E x :: eS E st))
    rw [eR_rf E hx, eR_rf E hy]
    exact lv_acmp_ne hM.1 hM.2.1 hd ht (fun q => absurd (key.mpr h) q) (fun _ => z _ hl)
  · refine run_pure (fun p e R s m args below meth c H locs cells slots Z lsA hM hl z => ?_) (kt h)
    show W p E.1 e R s m args below meth c H locs cells slots Z (F0 m pc lsA (eR E y :: eR E x :: eS E st))
    rw [eR_rf E hx, eR_rf E hy]
    exact lv_acmp_ne hM.1 hM.2.1 hd ht (fun _ => z _ hl) (fun q => absurd (key.mp q) h)
theorem s_dup {a : AV} (hd : decode M.2.1 pc = .ok (.dup, 1)) (ha : a.1 ≠ 1) (k : WP E M d (pc + 1) ls (a :: a :: st) σ Q) : WP E M d pc ls (a :: st) σ Q :=
  run_pure (fun p e R s m args below meth c H locs cells slots Z lsA hM hl z => lv_dup hM.1 hM.2.1 hd (by rw [eV_cat, if_neg ha]) (z _ hl)) k
theorem s_pop {a : AV} (hd : decode M.2.1 pc = .ok (.pop, 1)) (ha : a.1 ≠ 1) (k : WP E M d (pc + 1) ls st σ Q) : WP E M d pc ls (a :: st) σ Q :=
  run_pure (fun p e R s m args below meth c H locs cells slots Z lsA hM hl z => lv_pop hM.1 hM.2.1 hd (by rw [eV_cat, if_neg ha]) (z _ hl)) k
end Arith
