section Arith2
variable {E : EV} {M : MI} {d pc : Nat} {ls ls' : List (Nat × AV)} {st : List AV} {σ : St} {Q : Option AV → St → Prop}
def iand (x y : Int) : Int := (Int32.ofInt x &&& Int32.ofInt y).toInt
def ishr (x y : Int) : Int := (Int32.ofInt x >>> (Int32.ofInt y &&& 31)).toInt
def lshl (x y : Int) : Int := (Int64.ofInt x <<< ((Int32.ofInt y).toInt64 &&& 63)).toInt
def lcmp (x y : Int) : Int := if x < y then -1 else if x = y then 0 else 1
theorem s_top {pc' : Nat} {t : Nat} {v w : Int} (h : eV E (t, v) = eV E (t, w)) (k : WP E M d pc' ls ((t, v) :: st) σ Q) : WP E M d pc' ls ((t, w) :: st) σ Q := by
  refine run_pure (fun p e R s m args below meth c H locs cells slots Z lsA hM hl z => ?_) k
  have h2 := z _ hl
  simp only [eS, List.map_cons] at h2 ⊢
  rw [← h]
  exact h2
theorem mn32 : (-2147483648 : Int) = Int32.minValue.toInt := by decide
theorem mx32 : (2147483647 : Int) = Int32.maxValue.toInt := by decide
theorem mn64 : (-9223372036854775808 : Int) = Int64.minValue.toInt := by decide
theorem mx64 : (9223372036854775807 : Int) = Int64.maxValue.toInt := by decide
theorem divI {x y : Int} (hx : rI x) (hy : rI y) : Int32.ofInt x / Int32.ofInt y = Int32.ofInt (x.tdiv y) := (Int32.ofInt_tdiv (mn32 ▸ hx.1) (mx32 ▸ hx.2) (mn32 ▸ hy.1) (mx32 ▸ hy.2)).symm
theorem modI {x y : Int} (hx : rI x) (hy : rI y) : Int32.ofInt x % Int32.ofInt y = Int32.ofInt (x.tmod y) := (Int32.ofInt_tmod (mn32 ▸ hx.1) (mx32 ▸ hx.2) (mn32 ▸ hy.1) (mx32 ▸ hy.2)).symm
theorem divL {x y : Int} (hx : rL x) (hy : rL y) : Int64.ofInt x / Int64.ofInt y = Int64.ofInt (x.tdiv y) := (Int64.ofInt_tdiv (mn64 ▸ hx.1) (mx64 ▸ hx.2) (mn64 ▸ hy.1) (mx64 ▸ hy.2)).symm
theorem s_idiv {x y : Int} (hd : decode M.2.1 pc = .ok (.idiv, 1)) (h : (0 ≤ x ∧ x ≤ 2147483647) ∧ 0 < y ∧ y ≤ 2147483647) (k : WP E M d (pc + 1) ls (aI (x / y) :: st) σ Q) : WP E M d pc ls (aI y :: aI x :: st) σ Q := by
  have hx : rI x := ⟨by omega, h.1.2⟩
  have hy : rI y := ⟨by omega, h.2.2⟩
  refine run_pure (fun p e R s m args below meth c H locs cells slots Z lsA hM hl z => lv_idiv hM.1 hM.2.1 hd ?_ ?_) k
  · rw [z0, eqI hy r0]; omega
  · have h2 := z _ hl
    rw [divI hx hy, Int.tdiv_eq_ediv_of_nonneg h.1.1]
    exact h2
theorem s_irem {x y : Int} (hd : decode M.2.1 pc = .ok (.irem, 1)) (h : (0 ≤ x ∧ x ≤ 2147483647) ∧ 0 < y ∧ y ≤ 2147483647) (k : WP E M d (pc + 1) ls (aI (x % y) :: st) σ Q) : WP E M d pc ls (aI y :: aI x :: st) σ Q := by
  have hx : rI x := ⟨by omega, h.1.2⟩
  have hy : rI y := ⟨by omega, h.2.2⟩
  refine run_pure (fun p e R s m args below meth c H locs cells slots Z lsA hM hl z => lv_irem hM.1 hM.2.1 hd ?_ ?_) k
  · rw [z0, eqI hy r0]; omega
  · have h2 := z _ hl
    rw [irem_eq_mod, modI hx hy, Int.tmod_eq_emod_of_nonneg h.1.1]
    exact h2
theorem s_ldiv {x y : Int} (hd : decode M.2.1 pc = .ok (.ldiv, 1)) (h : rL x ∧ 0 < y ∧ y ≤ 9223372036854775807) (k : WP E M d (pc + 1) ls (aL (x.tdiv y) :: st) σ Q) : WP E M d pc ls (aL y :: aL x :: st) σ Q := by
  have hy : rL y := ⟨by omega, h.2.2⟩
  refine run_pure (fun p e R s m args below meth c H locs cells slots Z lsA hM hl z => lv_ldiv hM.1 hM.2.1 hd ?_ ?_) k
  · intro q
    have h2 := congrArg Int64.toInt q
    rw [tL hy] at h2
    have : (0 : Int64).toInt = 0 := rfl
    omega
  · have h2 := z _ hl
    rw [divL h.1 hy]
    exact h2
theorem s_lrem {x y : Int} (hd : decode M.2.1 pc = .ok (.lrem, 1)) (h : (0 ≤ x ∧ x ≤ 9223372036854775807) ∧ 0 < y ∧ y ≤ 9223372036854775807) (k : WP E M d (pc + 1) ls (aL (x % y) :: st) σ Q) : WP E M d pc ls (aL y :: aL x :: st) σ Q := by
  have hx : rL x := ⟨by omega, h.1.2⟩
  have hy : rL y := ⟨by omega, h.2.2⟩
  refine run_pure (fun p e R s m args below meth c H locs cells slots Z lsA hM hl z => lv_lrem hM.1 hM.2.1 hd ?_ ?_) k
  · intro q
    have h2 := congrArg Int64.toInt q
    rw [tL hy] at h2
    have : (0 : Int64).toInt = 0 := rfl
    omega
  · have h2 := z _ hl
    rw [divL hx hy, Int.tdiv_eq_ediv_of_nonneg h.1.1, ← Int64.ofInt_mul, ← Int64.ofInt_sub]
    have e1 : x - x / y * y = x % y := by rw [Int.emod_def, Int.mul_comm]
    rw [e1]
    exact h2
theorem s_iand {x y : Int} (hd : decode M.2.1 pc = .ok (.iand, 1)) (k : WP E M d (pc + 1) ls (aI (iand x y) :: st) σ Q) : WP E M d pc ls (aI y :: aI x :: st) σ Q :=
  run_pure (fun p e R s m args below meth c H locs cells slots Z lsA hM hl z => lv_iand hM.1 hM.2.1 hd (by have h := z _ hl; rw [show eS E (aI (iand x y) :: st) = .int (Int32.ofInt x &&& Int32.ofInt y) :: eS E st by simp [eV, iand]] at h; exact h)) k
theorem s_ishr {x y : Int} (hd : decode M.2.1 pc = .ok (.ishr, 1)) (k : WP E M d (pc + 1) ls (aI (ishr x y) :: st) σ Q) : WP E M d pc ls (aI y :: aI x :: st) σ Q :=
  run_pure (fun p e R s m args below meth c H locs cells slots Z lsA hM hl z => lv_ishr hM.1 hM.2.1 hd (by have h := z _ hl; rw [show eS E (aI (ishr x y) :: st) = .int (Int32.ofInt x >>> (Int32.ofInt y &&& 31)) :: eS E st by simp [eV, ishr]] at h; exact h)) k
theorem s_lshl {x y : Int} (hd : decode M.2.1 pc = .ok (.lshl, 1)) (k : WP E M d (pc + 1) ls (aL (lshl x y) :: st) σ Q) : WP E M d pc ls (aI y :: aL x :: st) σ Q :=
  run_pure (fun p e R s m args below meth c H locs cells slots Z lsA hM hl z => lv_lshl hM.1 hM.2.1 hd rfl (by have h := z _ hl; rw [show eS E (aL (lshl x y) :: st) = .long (Int64.ofInt x <<< ((Int32.ofInt y).toInt64 &&& 63)) :: eS E st by simp [eV, lshl]] at h; exact h)) k
theorem s_i2l {x : Int} (hd : decode M.2.1 pc = .ok (.i2l, 1)) (hx : rI x) (k : WP E M d (pc + 1) ls (aL x :: st) σ Q) : WP E M d pc ls (aI x :: st) σ Q :=
  run_pure (fun p e R s m args below meth c H locs cells slots Z lsA hM hl z => lv_i2l hM.1 hM.2.1 hd (v := Int64.ofInt x) (by apply Int64.toInt.inj; rw [Int32.toInt_toInt64, tI hx, tL ⟨by have := hx.1; omega, by have := hx.2; omega⟩]) (z _ hl)) k
theorem s_l2i {x : Int} (hd : decode M.2.1 pc = .ok (.l2i, 1)) (k : WP E M d (pc + 1) ls (aI x :: st) σ Q) : WP E M d pc ls (aL x :: st) σ Q :=
  run_pure (fun p e R s m args below meth c H locs cells slots Z lsA hM hl z => lv_l2i hM.1 hM.2.1 hd (v := Int32.ofInt x) (by simp) (z _ hl)) k
theorem s_i2b {x : Int} (hd : decode M.2.1 pc = .ok (.i2b, 1)) (k : WP E M d (pc + 1) ls (aI (x.bmod 256) :: st) σ Q) : WP E M d pc ls (aI x :: st) σ Q :=
  run_pure (fun p e R s m args below meth c H locs cells slots Z lsA hM hl z => lv_i2b hM.1 hM.2.1 hd (v := Int32.ofInt (x.bmod 256)) (by
    apply Int32.toInt.inj
    have hb1 : -(256 : Int) / 2 ≤ x.bmod 256 := Int.le_bmod (by decide)
    have hb2 : x.bmod 256 < (256 + 1) / 2 := Int.bmod_lt (by decide)
    rw [tI ⟨by omega, by omega⟩]
    simp) (z _ hl)) k
theorem s_lcmp {x y : Int} (hd : decode M.2.1 pc = .ok (.lcmp, 1)) (hx : rL x) (hy : rL y) (k : WP E M d (pc + 1) ls (aI (lcmp x y) :: st) σ Q) : WP E M d pc ls (aL y :: aL x :: st) σ Q :=
  run_pure (fun p e R s m args below meth c H locs cells slots Z lsA hM hl z => W.lcmp hM.1 hM.2.1 hd (by
    have h := z _ hl
    have e1 : (Int64.ofInt x < Int64.ofInt y) = (x < y) := by rw [Int64.lt_iff_toInt_lt, tL hx, tL hy]
    have e2 : (Int64.ofInt x = Int64.ofInt y) = (x = y) := propext ⟨fun q => by have q2 := congrArg Int64.toInt q; rwa [tL hx, tL hy] at q2, fun q => by rw [q]⟩
    rw [show eS E (aI (lcmp x y) :: st) = .int (lg_cmp (Int64.ofInt x) (Int64.ofInt y)) :: eS E st by
      have e3 : (Int64.ofInt y < Int64.ofInt x) = (y < x) := by rw [Int64.lt_iff_toInt_lt, tL hx, tL hy]
      simp only [eS, List.map_cons, eV, lcmp, lg_cmp, e1, e2, e3]
      by_cases h1 : x < y
      · have h3 : ¬ y < x := by omega
        have h4 : ¬ x = y := by omega
        simp [h1, h3, h4]
      · by_cases h2 : x = y
        · simp [h2]
        · have h3 : y < x := by omega
          simp [h1, h2, h3]] at h
    exact h)) k
theorem s_dup2 {a b : AV} (hd : decode M.2.1 pc = .ok (.dup2, 1)) (ha : a.1 ≠ 1) (hb : b.1 ≠ 1) (k : WP E M d (pc + 1) ls (a :: b :: a :: b :: st) σ Q) : WP E M d pc ls (a :: b :: st) σ Q :=
  run_pure (fun p e R s m args below meth c H locs cells slots Z lsA hM hl z => lv_dup2_11 hM.1 hM.2.1 hd (by rw [eV_cat, if_neg ha]) (by rw [eV_cat, if_neg hb]) (z _ hl)) k
theorem s_null (hd : decode M.2.1 pc = .ok (.aconst_null, 1)) (k : WP E M d (pc + 1) ls (aP 0 :: st) σ Q) : WP E M d pc ls st σ Q :=
  run_pure (fun p e R s m args below meth c H locs cells slots Z lsA hM hl z => lv_null hM.1 hM.2.1 hd (z _ hl)) k
theorem s_tableIn {x : Int} {dflt lo hi off : Int} {offs : Array Int} {len tgt : Nat} (hd : decode M.2.1 pc = .ok (.tableswitch dflt lo hi offs, len)) (hx : rI x) (h1 : lo ≤ x ∧ x ≤ hi) (ho : offs[(x - lo).toNat]? = some off) (ht : (pc : Int) + off = (tgt : Int)) (k : WP E M d tgt ls st σ Q) : WP E M d pc ls (aI x :: st) σ Q :=
  run_pure (fun p e R s m args below meth c H locs cells slots Z lsA hM hl z => lv_tableIn hM.1 hM.2.1 hd (by rw [tI hx]; omega) (by rw [tI hx]; omega) (by rw [tI hx]; exact ho) ht (z _ hl)) k
theorem s_tableOut {x : Int} {dflt lo hi : Int} {offs : Array Int} {len tgt : Nat} (hd : decode M.2.1 pc = .ok (.tableswitch dflt lo hi offs, len)) (hx : rI x) (h1 : ¬ (lo ≤ x ∧ x ≤ hi)) (ht : (pc : Int) + dflt = (tgt : Int)) (k : WP E M d tgt ls st σ Q) : WP E M d pc ls (aI x :: st) σ Q :=
  run_pure (fun p e R s m args below meth c H locs cells slots Z lsA hM hl z => lv_tableOut hM.1 hM.2.1 hd (by rw [tI hx]; omega) ht (z _ hl)) k
end Arith2
