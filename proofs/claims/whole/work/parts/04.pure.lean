section Pure
variable {E : EV} {M : MI} {d pc : Nat} {ls ls' : List (Nat × AV)} {st : List AV} {σ : St} {Q : Option AV → St → Prop}
theorem s_iconst {n : Int} (hd : decode M.2.1 pc = .ok (.iconst n, 1)) (k : WP E M d (pc + 1) ls (aI n :: st) σ Q) : WP E M d pc ls st σ Q :=
  run_pure (fun p e R s m args below meth c H locs cells slots Z lsA hM hl kk => lv_iconst hM.1 hM.2.1 hd rfl (kk _ hl)) k
theorem s_bipush {n : Int} (hd : decode M.2.1 pc = .ok (.bipush n, 2)) (hv : (Int8.ofInt n).toInt32 = Int32.ofInt n) (k : WP E M d (pc + 2) ls (aI n :: st) σ Q) : WP E M d pc ls st σ Q :=
  run_pure (fun p e R s m args below meth c H locs cells slots Z lsA hM hl kk => lv_bipush hM.1 hM.2.1 hd hv (kk _ hl)) k
theorem s_sipush {n : Int} (hd : decode M.2.1 pc = .ok (.sipush n, 3)) (hv : (Int16.ofInt n).toInt32 = Int32.ofInt n) (k : WP E M d (pc + 3) ls (aI n :: st) σ Q) : WP E M d pc ls st σ Q :=
  run_pure (fun p e R s m args below meth c H locs cells slots Z lsA hM hl kk => lv_sipush hM.1 hM.2.1 hd hv (kk _ hl)) k
theorem s_lconst {n : Fin 2} {v : Int} (hd : decode M.2.1 pc = .ok (.lconst n, 1)) (hv : Int64.ofNat (n : Nat) = Int64.ofInt v) (k : WP E M d (pc + 1) ls (aL v :: st) σ Q) : WP E M d pc ls st σ Q :=
  run_pure (fun p e R s m args below meth c H locs cells slots Z lsA hM hl kk => lv_lconst hM.1 hM.2.1 hd hv (kk _ hl)) k
theorem lg_mem {w : Cond} (h : w ∈ lw_tbl) (g : goodWord w = true) : w ∈ lw_good := List.mem_filter.mpr ⟨h, g⟩
theorem s_ldc2 {i : Nat} {v : Int} {z : Int64} (hd : decode M.2.1 pc = .ok (.ldc2_w i, 3)) (hw : Cond.constantLong M.1.cls i z ∈ lw_tbl) (hz : z = Int64.ofInt v) (k : WP E M d (pc + 3) ls (aL v :: st) σ Q) : WP E M d pc ls st σ Q := by
  subst hz
  exact run_pure (fun p e R s m args below meth c H locs cells slots Z lsA hM hl kk => lv_ldc2 hM.1 hM.2.1 hM.2.2.2.2.1 (hM.2.2.2.2.2.1 _ (lg_mem hw rfl)) hd (kk _ hl)) k
theorem eL_at {k i : Nat} {a : AV} {lsA : Array Slot} {n : Nat} (h : lv_has lsA n (eL E ls)) (hk : ls[k]? = some (i, a)) : lsA[i]? = some (.val (eV E a)) := lv_at h k (by simp [hk])
theorem s_iload_n {j : Fin 4} (k : Nat) {i : Nat} {x : Int} (hd : decode M.2.1 pc = .ok (.iload_n j, 1)) (hi : (j : Nat) = i) (hk : ls[k]? = some (i, aI x)) (kk : WP E M d (pc + 1) ls (aI x :: st) σ Q) : WP E M d pc ls st σ Q :=
  run_pure (fun p e R s m args below meth c H locs cells slots Z lsA hM hl z => lv_iload_n hM.1 hM.2.1 hd hi (eL_at hl hk) (z _ hl)) kk
theorem s_iload (k : Nat) {i : Nat} {x : Int} (hd : decode M.2.1 pc = .ok (.iload i, 2)) (hk : ls[k]? = some (i, aI x)) (kk : WP E M d (pc + 2) ls (aI x :: st) σ Q) : WP E M d pc ls st σ Q :=
  run_pure (fun p e R s m args below meth c H locs cells slots Z lsA hM hl z => lv_iload hM.1 hM.2.1 hd (eL_at hl hk) (z _ hl)) kk
theorem s_lload_n {j : Fin 4} (k : Nat) {i : Nat} {x : Int} (hd : decode M.2.1 pc = .ok (.lload_n j, 1)) (hi : (j : Nat) = i) (hk : ls[k]? = some (i, aL x)) (kk : WP E M d (pc + 1) ls (aL x :: st) σ Q) : WP E M d pc ls st σ Q :=
  run_pure (fun p e R s m args below meth c H locs cells slots Z lsA hM hl z => lv_lload_n hM.1 hM.2.1 hd hi (eL_at hl hk) (z _ hl)) kk
theorem s_lload (k : Nat) {i : Nat} {x : Int} (hd : decode M.2.1 pc = .ok (.lload i, 2)) (hk : ls[k]? = some (i, aL x)) (kk : WP E M d (pc + 2) ls (aL x :: st) σ Q) : WP E M d pc ls st σ Q :=
  run_pure (fun p e R s m args below meth c H locs cells slots Z lsA hM hl z => lv_lload hM.1 hM.2.1 hd (eL_at hl hk) (z _ hl)) kk
theorem eR_cases (E : EV) (v : Int) : (v = 0 ∧ eR E v = .null) ∨ (v ≠ 0 ∧ ∃ a, eR E v = .ref a) := by
  unfold eR
  by_cases h : v = 0
  · exact Or.inl ⟨h, if_pos h⟩
  · refine Or.inr ⟨h, ?_⟩
    rw [if_neg h]
    split <;> exact ⟨_, rfl⟩
theorem s_aload_n {j : Fin 4} (k : Nat) {i : Nat} {x : Int} (hd : decode M.2.1 pc = .ok (.aload_n j, 1)) (hi : (j : Nat) = i) (hk : ls[k]? = some (i, aP x)) (kk : WP E M d (pc + 1) ls (aP x :: st) σ Q) : WP E M d pc ls st σ Q := by
  refine run_pure (fun p e R s m args below meth c H locs cells slots Z lsA hM hl z => ?_) kk
  have h1 : lsA[i]? = some (.val (eR E x)) := eL_at hl hk
  have h2 : W p E.1 e R s m args below meth c H locs cells slots Z (F0 m (pc + 1) lsA (eR E x :: eS E st)) := z _ hl
  rcases eR_cases E x with ⟨-, e0⟩ | ⟨-, a, e0⟩
  · rw [e0] at h1 h2
    exact lv_aload_nN hM.1 hM.2.1 hd hi h1 h2
  · rw [e0] at h1 h2
    exact lv_aload_n hM.1 hM.2.1 hd hi h1 h2
theorem s_aload (k : Nat) {i : Nat} {x : Int} (hd : decode M.2.1 pc = .ok (.aload i, 2)) (hk : ls[k]? = some (i, aP x)) (kk : WP E M d (pc + 2) ls (aP x :: st) σ Q) : WP E M d pc ls st σ Q := by
  refine run_pure (fun p e R s m args below meth c H locs cells slots Z lsA hM hl z => ?_) kk
  have h1 : lsA[i]? = some (.val (eR E x)) := eL_at hl hk
  have h2 : W p E.1 e R s m args below meth c H locs cells slots Z (F0 m (pc + 2) lsA (eR E x :: eS E st)) := z _ hl
  rcases eR_cases E x with ⟨-, e0⟩ | ⟨-, a, e0⟩
  · rw [e0] at h1 h2
    exact lv_aloadN hM.1 hM.2.1 hd h1 h2
  · rw [e0] at h1 h2
    exact lv_aload hM.1 hM.2.1 hd h1 h2
abbrev st1 (i : Nat) (ls : List (Nat × AV)) : List (Nat × AV) := ls.filter (fun q => !(q.1 == i) && !(q.1 + 1 == i && q.2.1 == 1))
abbrev st2 (i : Nat) (ls : List (Nat × AV)) : List (Nat × AV) := ls.filter (fun q => !(q.1 == i) && (!(q.1 == i + 1) && !(q.1 + 1 == i && q.2.1 == 1)))
theorem cat2 (E : EV) (a : AV) : ((eV E a).category == 2) = (a.1 == 1) := by
  rw [eV_cat]
  by_cases h : a.1 = 1 <;> simp [h]
theorem eL_st1 (i : Nat) (a : AV) (h : (i, a) :: st1 i ls = ls') : (i, eV E a) :: (eL E ls).filter (fun q => !(q.1 == i) && !(q.1 + 1 == i && q.2.category == 2)) = eL E ls' := by
  rw [← h]
  simp only [eL, List.map_cons, List.filter_map, Function.comp_def, cat2]
theorem eL_st2 (i : Nat) (a : AV) (h : (i, a) :: st2 i ls = ls') : (i, eV E a) :: (eL E ls).filter (fun q => !(q.1 == i) && (!(q.1 == i + 1) && !(q.1 + 1 == i && q.2.category == 2))) = eL E ls' := by
  rw [← h]
  simp only [eL, List.map_cons, List.filter_map, Function.comp_def, cat2]
theorem s_istore_n {j : Fin 4} {i : Nat} {x : Int} (hd : decode M.2.1 pc = .ok (.istore_n j, 1)) (hi : (j : Nat) = i) (hn : i < M.2.2.1) (h : (i, aI x) :: st1 i ls = ls') (kk : WP E M d (pc + 1) ls' st σ Q) : WP E M d pc ls (aI x :: st) σ Q :=
  run_pure (fun p e R s m args below meth c H locs cells slots Z lsA hM hl z => lv_istore_n hM.1 hM.2.1 hd hi hl hn (eL_st1 i (aI x) h) z) kk
theorem s_istore {i : Nat} {x : Int} (hd : decode M.2.1 pc = .ok (.istore i, 2)) (hn : i < M.2.2.1) (h : (i, aI x) :: st1 i ls = ls') (kk : WP E M d (pc + 2) ls' st σ Q) : WP E M d pc ls (aI x :: st) σ Q :=
  run_pure (fun p e R s m args below meth c H locs cells slots Z lsA hM hl z => lv_istore hM.1 hM.2.1 hd hl hn (eL_st1 i (aI x) h) z) kk
theorem s_lstore_n {j : Fin 4} {i : Nat} {x : Int} (hd : decode M.2.1 pc = .ok (.lstore_n j, 1)) (hi : (j : Nat) = i) (hn : i + 1 < M.2.2.1) (h : (i, aL x) :: st2 i ls = ls') (kk : WP E M d (pc + 1) ls' st σ Q) : WP E M d pc ls (aL x :: st) σ Q :=
  run_pure (fun p e R s m args below meth c H locs cells slots Z lsA hM hl z => lv_lstore_n hM.1 hM.2.1 hd hi hl hn (eL_st2 i (aL x) h) z) kk
theorem s_lstore {i : Nat} {x : Int} (hd : decode M.2.1 pc = .ok (.lstore i, 2)) (hn : i + 1 < M.2.2.1) (h : (i, aL x) :: st2 i ls = ls') (kk : WP E M d (pc + 2) ls' st σ Q) : WP E M d pc ls (aL x :: st) σ Q :=
  run_pure (fun p e R s m args below meth c H locs cells slots Z lsA hM hl z => lv_lstore hM.1 hM.2.1 hd hl hn (eL_st2 i (aL x) h) z) kk
theorem s_astore_n {j : Fin 4} {i : Nat} {x : Int} (hd : decode M.2.1 pc = .ok (.astore_n j, 1)) (hi : (j : Nat) = i) (hn : i < M.2.2.1) (h : (i, aP x) :: st1 i ls = ls') (kk : WP E M d (pc + 1) ls' st σ Q) : WP E M d pc ls (aP x :: st) σ Q := by
  refine run_pure (fun p e R s m args below meth c H locs cells slots Z lsA hM hl z => ?_) kk
  have h1 := eL_st1 (E := E) i (aP x) h
  show W p E.1 e R s m args below meth c H locs cells slots Z (F0 m pc lsA (eR E x :: eS E st))
  change (i, eR E x) :: _ = _ at h1
  rcases eR_cases E x with ⟨-, e0⟩ | ⟨-, a, e0⟩
  · rw [e0] at h1 ⊢
    exact lv_astore_nN hM.1 hM.2.1 hd hi hl hn h1 z
  · rw [e0] at h1 ⊢
    exact lv_astore_n hM.1 hM.2.1 hd hi hl hn h1 z
theorem s_astore {i : Nat} {x : Int} (hd : decode M.2.1 pc = .ok (.astore i, 2)) (hn : i < M.2.2.1) (h : (i, aP x) :: st1 i ls = ls') (kk : WP E M d (pc + 2) ls' st σ Q) : WP E M d pc ls (aP x :: st) σ Q := by
  refine run_pure (fun p e R s m args below meth c H locs cells slots Z lsA hM hl z => ?_) kk
  have h1 := eL_st1 (E := E) i (aP x) h
  show W p E.1 e R s m args below meth c H locs cells slots Z (F0 m pc lsA (eR E x :: eS E st))
  change (i, eR E x) :: _ = _ at h1
  rcases eR_cases E x with ⟨-, e0⟩ | ⟨-, a, e0⟩
  · rw [e0] at h1 ⊢
    exact lv_astoreN hM.1 hM.2.1 hd hl hn h1 z
  · rw [e0] at h1 ⊢
    exact lv_astore hM.1 hM.2.1 hd hl hn h1 z
theorem s_iinc (k : Nat) {i : Nat} {n x : Int} (hd : decode M.2.1 pc = .ok (.iinc i n, 3)) (hk : ls[k]? = some (i, aI x)) (hn : i < M.2.2.1) (h : (i, aI (x + n)) :: st1 i ls = ls') (kk : WP E M d (pc + 3) ls' st σ Q) : WP E M d pc ls st σ Q :=
  run_pure (fun p e R s m args below meth c H locs cells slots Z lsA hM hl z => lv_iinc (k := k) (x := Int32.ofInt x) (v := Int32.ofInt (x + n)) hM.1 hM.2.1 hd hl (by simp [hk, eV]) (Int32.ofInt_add ..).symm hn (eL_st1 i (aI (x + n)) h) z) kk
theorem s_iadd {x y : Int} (hd : decode M.2.1 pc = .ok (.iadd, 1)) (k : WP E M d (pc + 1) ls (aI (x + y) :: st) σ Q) : WP E M d pc ls (aI y :: aI x :: st) σ Q :=
  run_pure (fun p e R s m args below meth c H locs cells slots Z lsA hM hl z => lv_iadd hM.1 hM.2.1 hd (by have h := z _ hl; rw [show eS E (aI (x + y) :: st) = .int (Int32.ofInt x + Int32.ofInt y) :: eS E st by simp [eV, Int32.ofInt_add]] at h; exact h)) k
theorem s_isub {x y : Int} (hd : decode M.2.1 pc = .ok (.isub, 1)) (k : WP E M d (pc + 1) ls (aI (x - y) :: st) σ Q) : WP E M d pc ls (aI y :: aI x :: st) σ Q :=
  run_pure (fun p e R s m args below meth c H locs cells slots Z lsA hM hl z => lv_isub hM.1 hM.2.1 hd (by have h := z _ hl; rw [show eS E (aI (x - y) :: st) = .int (Int32.ofInt x - Int32.ofInt y) :: eS E st by simp [eV, Int32.ofInt_sub]] at h; exact h)) k
theorem s_imul {x y : Int} (hd : decode M.2.1 pc = .ok (.imul, 1)) (k : WP E M d (pc + 1) ls (aI (x * y) :: st) σ Q) : WP E M d pc ls (aI y :: aI x :: st) σ Q :=
  run_pure (fun p e R s m args below meth c H locs cells slots Z lsA hM hl z => lv_imul hM.1 hM.2.1 hd (by have h := z _ hl; rw [show eS E (aI (x * y) :: st) = .int (Int32.ofInt x * Int32.ofInt y) :: eS E st by simp [eV, Int32.ofInt_mul]] at h; exact h)) k
theorem s_ineg {x : Int} (hd : decode M.2.1 pc = .ok (.ineg, 1)) (k : WP E M d (pc + 1) ls (aI (-x) :: st) σ Q) : WP E M d pc ls (aI x :: st) σ Q :=
  run_pure (fun p e R s m args below meth c H locs cells slots Z lsA hM hl z => lv_ineg hM.1 hM.2.1 hd (by have h := z _ hl; rw [show eS E (aI (-x) :: st) = .int (-Int32.ofInt x) :: eS E st by simp [eV, Int32.ofInt_neg]] at h; exact h)) k
theorem s_ladd {x y : Int} (hd : decode M.2.1 pc = .ok (.ladd, 1)) (k : WP E M d (pc + 1) ls (aL (x + y) :: st) σ Q) : WP E M d pc ls (aL y :: aL x :: st) σ Q :=
  run_pure (fun p e R s m args below meth c H locs cells slots Z lsA hM hl z => lv_ladd hM.1 hM.2.1 hd (by have h := z _ hl; rw [show eS E (aL (x + y) :: st) = .long (Int64.ofInt x + Int64.ofInt y) :: eS E st by simp [eV, Int64.ofInt_add]] at h; exact h)) k
theorem s_lsub {x y : Int} (hd : decode M.2.1 pc = .ok (.lsub, 1)) (k : WP E M d (pc + 1) ls (aL (x - y) :: st) σ Q) : WP E M d pc ls (aL y :: aL x :: st) σ Q :=
  run_pure (fun p e R s m args below meth c H locs cells slots Z lsA hM hl z => lv_lsub hM.1 hM.2.1 hd (by have h := z _ hl; rw [show eS E (aL (x - y) :: st) = .long (Int64.ofInt x - Int64.ofInt y) :: eS E st by simp [eV, Int64.ofInt_sub]] at h; exact h)) k
theorem s_lmul {x y : Int} (hd : decode M.2.1 pc = .ok (.lmul, 1)) (k : WP E M d (pc + 1) ls (aL (x * y) :: st) σ Q) : WP E M d pc ls (aL y :: aL x :: st) σ Q :=
  run_pure (fun p e R s m args below meth c H locs cells slots Z lsA hM hl z => lv_lmul hM.1 hM.2.1 hd (by have h := z _ hl; rw [show eS E (aL (x * y) :: st) = .long (Int64.ofInt x * Int64.ofInt y) :: eS E st by simp [eV, Int64.ofInt_mul]] at h; exact h)) k
theorem s_lneg {x : Int} (hd : decode M.2.1 pc = .ok (.lneg, 1)) (k : WP E M d (pc + 1) ls (aL (-x) :: st) σ Q) : WP E M d pc ls (aL x :: st) σ Q :=
  run_pure (fun p e R s m args below meth c H locs cells slots Z lsA hM hl z => lv_lneg hM.1 hM.2.1 hd (by have h := z _ hl; rw [show eS E (aL (-x) :: st) = .long (-Int64.ofInt x) :: eS E st by simp [eV, Int64.ofInt_neg]] at h; exact h)) k
end Pure
