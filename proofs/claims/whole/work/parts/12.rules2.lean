section Rules2
variable {E : EV} {M : MI} {d pc pc' : Nat} {ls ls' : List (Nat × AV)} {st st' : List AV} {σ : St} {Q : Option AV → St → Prop}
theorem s_getF {ci N k t idx : Nat} {a v : Int} (hd : decode M.2.1 pc = .ok (.getfield idx, 3)) (hf : FL M.1.cls idx ci N k) (ht : vtag ci k = t) (ha : sh σ a = some (ci, N)) (hv : σ.1 a k = v) (kk : WP E M d (pc + 3) ls ((t, v) :: st) σ Q) : WP E M d pc ls (aP a :: st) σ Q := by
  subst hv
  exact s_getfield hd hf ht ha kk
theorem s_putf {ci N k t idx : Nat} (kI : Int) {a v : Int} (hkI : (k : Int) = kI) (hd : decode M.2.1 pc = .ok (.putfield idx, 3)) (hf : FL M.1.cls idx ci N k) (hfin : ∀ C T, vwCl[ci]? = some (C, T, N) → (T k).2.2.2 = false ∨ ((T k).2.2.2 = true ∧ M.1.name = "<init>" ∧ (T k).1 = M.1.cls ∧ Cond.fieldLink M.1.cls idx (T k).1 (T k).2.1 (T k).2.2.1 ∈ lw_tbl)) (ht : vtag ci k = t)
    (hty : tyX ci k = .int ∨ tyX ci k = .long ∨ tyX ci k = .boolean ∨ (∃ n, tyX ci k = .object n) ∨ ∃ t, tyX ci k = .array t) (hbo : tyX ci k = .boolean → v = 0 ∨ v = 1) (ha : sh σ a = some (ci, N)) (kk : WP E M d (pc + 3) ls st (wr σ a kI v) Q) : WP E M d pc ls ((t, v) :: aP a :: st) σ Q := by
  subst hkI
  exact s_putfield hd hf hfin ht hty hbo ha kk
theorem s_alenv {a v : Int} {kd n : Nat} (hk : 20 ≤ kd ∧ kd ≤ 26) (hd : decode M.2.1 pc = .ok (.arraylength, 1)) (hs : sh σ a = some (kd, n)) (hv : (n : Int) = v) (k : WP E M d (pc + 1) ls (aI v :: st) σ Q) : WP E M d pc ls (aP a :: st) σ Q := by
  subst hv
  exact s_alen hk hd hs k
theorem s_ialoadv {a i v : Int} (hd : decode M.2.1 pc = .ok (.iaload, 1)) (ha : inb σ a 20 i) (hv : σ.1 a i = v) (k : WP E M d (pc + 1) ls (aI v :: st) σ Q) : WP E M d pc ls (aI i :: aP a :: st) σ Q := s_iaload hd ha (by rw [hv]; exact k)
theorem s_baloadv {a i v : Int} {kd : Nat} (hk : kd = 21 ∨ kd = 23) (hd : decode M.2.1 pc = .ok (.baload, 1)) (ha : inb σ a kd i) (hv : σ.1 a i = v) (k : WP E M d (pc + 1) ls (aI v :: st) σ Q) : WP E M d pc ls (aI i :: aP a :: st) σ Q := s_baload hk hd ha (by rw [hv]; exact k)
theorem s_laloadv {a i v : Int} (hd : decode M.2.1 pc = .ok (.laload, 1)) (ha : inb σ a 22 i) (hv : σ.1 a i = v) (k : WP E M d (pc + 1) ls (aL v :: st) σ Q) : WP E M d pc ls (aI i :: aP a :: st) σ Q := s_laload hd ha (by rw [hv]; exact k)
theorem s_aaloadv {a i v : Int} {kd : Nat} (hk : kd = 24 ∨ kd = 25 ∨ kd = 26) (hd : decode M.2.1 pc = .ok (.aaload, 1)) (ha : inb σ a kd i) (hv : σ.1 a i = v) (k : WP E M d (pc + 1) ls (aP v :: st) σ Q) : WP E M d pc ls (aI i :: aP a :: st) σ Q := s_aaload hk hd ha (by rw [hv]; exact k)
def sa (σ : St) (a : Int) (kd : Nat) : Prop := ∃ n, sh σ a = some (kd, n)
theorem s_alenS {a : Int} {kd : Nat} (hk : 20 ≤ kd ∧ kd ≤ 26) (hd : decode M.2.1 pc = .ok (.arraylength, 1)) (hs : sa σ a kd) (k : WP E M d (pc + 1) ls (aI (ln σ a) :: st) σ Q) : WP E M d pc ls (aP a :: st) σ Q := by
  obtain ⟨n, hs⟩ := hs
  refine s_alenv hk hd hs ?_ k
  unfold ln
  rw [hs]
/-- a cell that was there before, of a class, at a negative reference -/
def XR (E : EV) (a : Int) (C : String) : Prop := a < 0 ∧ ∀ (U : State) (H : Heap), E.2.2.2.2.2 U → (∀ q, q < eBase E → H[q]? = E.2.1[q]?) → ∃ cell : Cell, H[E.2.2.1 (-a).toNat]? = some cell ∧ cell.vm.isStatics = false ∧ U.vm.findClass C = some cell.cls
/-- a text constant of a class's pool is the cell n -/
def XS (E : EV) (own : String) (idx n : Nat) : Prop := 0 < n ∧ ∀ U : State, E.2.2.2.2.2 U → ∃ tx, vk_R own idx tx (E.2.2.1 n) U
theorem eR_neg (E : EV) {a : Int} (h : a < 0) : eR E a = .ref (E.2.2.1 (-a).toNat) := by
  unfold eR
  rw [if_neg (by omega), if_neg (by omega)]
theorem s_ldcS {idx n : Nat} {v : Int} (hd : decode M.2.1 pc = .ok (.ldc idx, 2)) (hx : XS E M.1.cls idx n) (hv : v = -(n : Int)) (k : WP E M d (pc + 2) ls (aP v :: st) σ Q) : WP E M d pc ls st σ Q := by
  subst hv
  refine run_pure (fun p e R s m args below meth c H locs cells slots Z lsA hM hl z => ?_) k
  obtain ⟨tx, hR⟩ := hx.2 s hM.2.2.2.2.2.2.2.2.2.2.2.2
  refine va_ldcS hM.1 hM.2.1 hM.2.2.2.2.1 hR hd ?_
  have hz := z _ hl
  rw [show eS E (aP (-(n : Int)) :: st) = Value.ref (E.2.2.1 n) :: eS E st by show eR E (-(n : Int)) :: _ = _; have h0 := hx.1; rw [eR_neg E (a := -(n : Int)) (by omega)]; simp] at hz
  exact hz
theorem s_callX {Mc : MI} {as : List AV} {a : Int} {idx n : Nat} (hd : decode M.2.1 pc = .ok (.invokevirtual idx, 3)) (hk : MOK Mc n) (hlk : LK M.1.cls idx Mc) (w1 : Cond.instanceMethod Mc.1 ∈ lw_tbl) (w2 : Cond.selects Mc.1.cls Mc.1 Mc.1 ∈ lw_tbl) (hn : as.length = n) (hW : (st.map (fun a => if a.1 = 1 then 2 else 1)).sum ≤ 8)
    (hst : st' = as.reverse ++ aP a :: st) (ha : XR E a Mc.1.cls) (k : WM E Mc d (aP a :: as) σ (fun r σ1 => WP E M (d + 1) (pc + 3) ls (r.toList ++ st) σ1 Q)) : WP E M (d + 1) pc ls st' σ Q := by
  subst hst
  refine run_call (as := aP a :: as) (fun p e s m args below meth c H locs lsA r σ1 R cells slots hB hM hE hl hRf hRl hRc hRs => ?_) k
  obtain ⟨hx, hb, hml, hr, hown, hts, hlk2, hnam, hEn⟩ := hM
  obtain ⟨cell, c1, c2, c3⟩ := ha.2 s H hEn.2.2.2.2 hE.2.1
  have eR0 := eR_neg E ha.1
  have e0 : (List.map (eV E) (aP a :: as)).toArray = (Value.ref (E.2.2.1 (-a).toNat) :: as.map (eV E)).toArray := by
    show (eR E a :: as.map (eV E)).toArray = _
    rw [eR0]
  have hPc : ∀ U : State, U.heap = H → s.WarmedH U.vm → PcE E (aP a :: as) σ (Value.ref (E.2.2.1 (-a).toNat) :: as.map (eV E)).toArray U := fun U hU hW => ⟨e0.symm, hEn.warm hW, by rw [hU]; exact hE⟩
  have hstk : (F0 m pc lsA (eS E (as.reverse ++ aP a :: st))).stack = (as.map (eV E)).reverse ++ .ref (E.2.2.1 (-a).toNat) :: eS E st := by
    show eS E (as.reverse ++ aP a :: st) = _
    simp only [eS, List.map_append, List.map_cons, List.map_reverse]
    rw [show eV E (aP a) = .ref (E.2.2.1 (-a).toNat) from eR0]
  have hmr : (F0 m pc lsA (eS E (as.reverse ++ aP a :: st))).monitorRoom = 0 := rfl
  have hWs : 2 * (F0 m pc lsA (eS E (as.reverse ++ aP a :: st))).monitorRoom + ((eS E st).map fun v => v.category).sum ≤ 8 := by
    rw [hmr, eS_cat]; omega
  have hB2 := hB.2
  rw [e0]
  have hroom : (rmD d (nC σ σ1) (nS σ σ1)).frames + 1 ≤ R.frames ∧ 8 + (Mc.2.2.1 + 11) + (rmD d (nC σ σ1) (nS σ σ1)).locals ≤ R.locals := ⟨hRf, by have := hk.2.2.2.1; show 8 + (Mc.2.2.1 + 11) + 80 * d ≤ R.locals; omega⟩
  rcases hlk with hlk | ⟨host, hlk⟩
  · exact va_runV (C := Mc.1.cls) (bytes := Mc.2.1) (maxL := Mc.2.2.1) (ret := Mc.2.2.2) (n := n) (Ts := lw_good) ⟨hx, hb, hml, hown, hts⟩ hB2 ⟨⟨rfl, rfl, hroom.1, hroom.2, wsM_ok hk hts, List.mem_cons_self, hts _ (lg_mem hk.1 rfl), hts _ (lg_mem hk.2.1 rfl), hk.2.2.1, mok_len hk, hts _ (lg_mem hlk rfl)⟩, hts _ (lg_mem w1 rfl), hts _ (lg_mem w2 rfl)⟩ ⟨blindE E _ σ, ⟨cell, c1, c2, c3⟩, hPc⟩ rfl (by simp [hn]) hl.1 hstk hWs hd ⟨hRc, hRs⟩
  · exact va_runVN (C := Mc.1.cls) (bytes := Mc.2.1) (maxL := Mc.2.2.1) (ret := Mc.2.2.2) (n := n) (Ts := lw_good) ⟨hx, hb, hml, hown, hts⟩ hB2 ⟨⟨⟨rfl, rfl, hroom.1, hroom.2, wsM_ok hk hts, List.mem_cons_self⟩, hts _ (lg_mem hk.1 rfl), hts _ (lg_mem hk.2.1 rfl), hk.2.2.1, mok_len hk, va_Nw.use rfl (hEn.2.2.1 _ (nest_mem hlk rfl))⟩, hts _ (lg_mem w1 rfl), hts _ (lg_mem w2 rfl)⟩ ⟨blindE E _ σ, ⟨cell, c1, c2, c3⟩, hPc⟩ rfl (by simp [hn]) hl.1 hstk hWs hd ⟨hRc, hRs⟩
/-- a step that needs one frame more -/
theorem run_room {pc' : Nat}
    (h : ∀ (p : Program) (e : Env) (R : Room) (s : State) (m : MethodId) (args : Array Value) (below : List Frame) (meth : Method) (c : Code) (H : Heap) (locs : List Loc) (cells slots : Nat) (Z : State → Prop) (lsA : Array Slot), MC E M p s m args meth c → lv_has lsA M.2.2.1 (eL E ls) → 1 ≤ R.frames → 80 ≤ R.locals → cells ≤ R.cells → slots ≤ R.slots →
      W p E.1 e R s m args below meth c H locs cells slots Z (F0 m pc' lsA (eS E st')) → W p E.1 e R s m args below meth c H locs cells slots Z (F0 m pc lsA (eS E st)))
    (k : WP E M (d + 1) pc' ls st' σ Q) : WP E M (d + 1) pc ls st σ Q := by
  obtain ⟨r, σ', ⟨h1, h2⟩, h3⟩ := k
  refine ⟨r, σ', ⟨h1, fun σ0 hp p e s m args below meth c hM H locs lsA hE hlo hl => h p e _ s m args below meth c H locs _ _ _ lsA hM hl (by show 1 ≤ d + 1; omega) (by show 80 ≤ 80 * (d + 1); omega) ?_ ?_ (h2 σ0 hp p e s m args below meth c hM H locs lsA hE hlo hl)⟩, h3⟩
  · have l0 := hp.length_le
    have l1 := h1.length_le
    show nC σ0 σ ≤ nC σ0 σ'
    unfold nC; omega
  · have t0 := tot_le hp
    have t1 := tot_le h1
    show nS σ0 σ ≤ nS σ0 σ'
    unfold nS; omega
theorem s_mmax {x y : Int} {idx : Nat} (hd : decode M.2.1 pc = .ok (.invokestatic idx, 3)) (w0 : Cond.methodLink M.1.cls idx Lib.Math.max.name ∈ lw_tbl) (w1 : Cond.static Lib.Math.max.name ∈ lw_tbl) (w2 : Cond.initialized "java/lang/Math" ∈ lw_tbl) (w3 : Cond.code Lib.Math.max.name Lib.Math.max.code 2 (some .int) ∈ lw_tbl) (hW : (st.map (fun a => if a.1 = 1 then 2 else 1)).sum ≤ 60) (hx : rI x) (hy : rI y) (k : WP E M (d + 1) (pc + 3) ls (aI (max x y) :: st) σ Q) : WP E M (d + 1) pc ls (aI y :: aI x :: st) σ Q := by
  refine run_room (fun p e R s m args below meth c H locs cells slots Z lsA hM hl hf hlo hc hs z => ?_) k
  refine va_mmax hM.1 hM.2.1 (by rw [hM.2.2.1, hl.1]) hM.2.2.2.2.1 (hM.2.2.2.2.2.1 _ (lg_mem w0 rfl)) (hM.2.2.2.2.2.1 _ (lg_mem w1 rfl)) (hM.2.2.2.2.2.1 _ (lg_mem w2 rfl)) (hM.2.2.2.2.2.1 _ (lg_mem w3 rfl)) hf (by rw [eS_cat]; omega) hc hs hd ?_
  rw [show (if Int32.ofInt x < Int32.ofInt y then Int32.ofInt y else Int32.ofInt x) = Int32.ofInt (max x y) by
    by_cases h : x < y
    · rw [if_pos (by rw [ltI hx hy]; exact h), show max x y = y by omega]
    · rw [if_neg (by rw [ltI hx hy]; exact h), show max x y = x by omega]]
  exact z
theorem s_mmin {x y : Int} {idx : Nat} (hd : decode M.2.1 pc = .ok (.invokestatic idx, 3)) (w0 : Cond.methodLink M.1.cls idx Lib.Math.min.name ∈ lw_tbl) (w1 : Cond.static Lib.Math.min.name ∈ lw_tbl) (w2 : Cond.initialized "java/lang/Math" ∈ lw_tbl) (w3 : Cond.code Lib.Math.min.name Lib.Math.min.code 2 (some .int) ∈ lw_tbl) (hW : (st.map (fun a => if a.1 = 1 then 2 else 1)).sum ≤ 60) (hx : rI x) (hy : rI y) (k : WP E M (d + 1) (pc + 3) ls (aI (min x y) :: st) σ Q) : WP E M (d + 1) pc ls (aI y :: aI x :: st) σ Q := by
  refine run_room (fun p e R s m args below meth c H locs cells slots Z lsA hM hl hf hlo hc hs z => ?_) k
  refine va_mmin hM.1 hM.2.1 (by rw [hM.2.2.1, hl.1]) hM.2.2.2.2.1 (hM.2.2.2.2.2.1 _ (lg_mem w0 rfl)) (hM.2.2.2.2.2.1 _ (lg_mem w1 rfl)) (hM.2.2.2.2.2.1 _ (lg_mem w2 rfl)) (hM.2.2.2.2.2.1 _ (lg_mem w3 rfl)) hf (by rw [eS_cat]; omega) hc hs hd ?_
  have e1 : ∀ z : Int32, z = Int32.ofInt (min x y) → W p E.1 e R s m args below meth c H locs cells slots Z (F0 m (pc + 3) lsA (.int z :: eS E st)) := fun q hq => by rw [hq]; exact z
  apply e1
  by_cases h : y < x
  · rw [if_pos (by rw [ltI hy hx]; exact h), show min x y = y by omega]
  · rw [if_neg (by rw [ltI hy hx]; exact h), show min x y = x by omega]
theorem s_mabs {x : Int} {idx : Nat} (hd : decode M.2.1 pc = .ok (.invokestatic idx, 3)) (w0 : Cond.methodLink M.1.cls idx Lib.MathLoose.abs_long.x ∈ lw_tbl) (w1 : Cond.static Lib.MathLoose.abs_long.x ∈ lw_tbl) (w2 : Cond.initialized "java/lang/Math" ∈ lw_tbl) (w3 : Cond.code Lib.MathLoose.abs_long.x Lib.MathLoose.abs_long.code 2 (some .long) ∈ lw_tbl) (hW : (st.map (fun a => if a.1 = 1 then 2 else 1)).sum ≤ 60) (hx : rL x) (k : WP E M (d + 1) (pc + 3) ls (aL (max x (-x)) :: st) σ Q) : WP E M (d + 1) pc ls (aL x :: st) σ Q := by
  refine run_room (fun p e R s m args below meth c H locs cells slots Z lsA hM hl hf hlo hc hs z => ?_) k
  refine va_mabs_long hM.1 hM.2.1 (by rw [hM.2.2.1, hl.1]) hM.2.2.2.2.1 (hM.2.2.2.2.2.1 _ (lg_mem w0 rfl)) (hM.2.2.2.2.2.1 _ (lg_mem w1 rfl)) (hM.2.2.2.2.2.1 _ (lg_mem w2 rfl)) (hM.2.2.2.2.2.1 _ (lg_mem w3 rfl)) hf (by rw [eS_cat]; omega) hc hs hd ?_
  have e2 : (0 : Int64) = Int64.ofInt 0 := rfl
  have e3 : ((0 : Int64) < Int64.ofInt x) = (0 < x) := by rw [e2, Int64.lt_iff_toInt_lt, tL hx, tL (by decide)]
  rw [show (if (0 : Int64) < Int64.ofInt x then Int64.ofInt x else -Int64.ofInt x) = Int64.ofInt (max x (-x)) by
    by_cases h : 0 < x
    · rw [if_pos (by rw [e3]; exact h), show max x (-x) = x by omega]
    · rw [if_neg (by rw [e3]; exact h), show max x (-x) = -x by omega, Int64.ofInt_neg]]
  exact z
end Rules2
theorem lcmp_r (x y : Int) : rI (lcmp x y) := by
  unfold lcmp
  split
  · decide
  · split <;> decide
theorem lcmp_eq {x y : Int} : lcmp x y = 0 ↔ x = y := by
  unfold lcmp
  split
  · constructor <;> intro h <;> omega
  · split <;> constructor <;> intro h <;> omega
theorem lcmp_ge {x y : Int} : 0 ≤ lcmp x y ↔ y ≤ x := by
  unfold lcmp
  split
  · constructor <;> intro h <;> omega
  · split <;> constructor <;> intro h <;> omega
theorem lcmp_gt {x y : Int} : 0 < lcmp x y ↔ y < x := by
  unfold lcmp
  split
  · constructor <;> intro h <;> omega
  · split <;> constructor <;> intro h <;> omega
theorem lcmp_le {x y : Int} : lcmp x y ≤ 0 ↔ x ≤ y := by
  unfold lcmp
  split
  · constructor <;> intro h <;> omega
  · split <;> constructor <;> intro h <;> omega
theorem lcmp_lt {x y : Int} : lcmp x y < 0 ↔ x < y := by
  unfold lcmp
  split
  · constructor <;> intro h <;> omega
  · split <;> constructor <;> intro h <;> omega
theorem lcmp_ne {x y : Int} : ¬ lcmp x y = 0 ↔ ¬ x = y := not_congr lcmp_eq
theorem nlcmp_eq {x y : Int} (h : ¬ lcmp x y = 0) : ¬ x = y := lcmp_ne.mp h
theorem nlcmp_ne {x y : Int} (h : lcmp x y = 0) : x = y := lcmp_eq.mp h
theorem nlcmp_ge {x y : Int} (h : ¬ 0 ≤ lcmp x y) : ¬ y ≤ x := fun q => h (lcmp_ge.mpr q)
theorem nlcmp_gt {x y : Int} (h : ¬ 0 < lcmp x y) : ¬ y < x := fun q => h (lcmp_gt.mpr q)
theorem nlcmp_le {x y : Int} (h : ¬ lcmp x y ≤ 0) : ¬ x ≤ y := fun q => h (lcmp_le.mpr q)
theorem nlcmp_lt {x y : Int} (h : ¬ lcmp x y < 0) : ¬ x < y := fun q => h (lcmp_lt.mpr q)
def dfO : FieldType → Bool
  | .int => true
  | .long => true
  | .boolean => true
  | .byte => true
  | .object _ => true
  | .array _ => true
  | _ => false
theorem dfO_ok {ty : FieldType} (h : dfO ty = true) : ty = .int ∨ ty = .long ∨ ty = .boolean ∨ ty = .byte ∨ (∃ n, ty = .object n) ∨ ∃ t, ty = .array t := by
  cases ty <;> simp_all [dfO]
theorem u_lay_good (C : String) (T : u_T) (k : Nat) : goodWord (u_lay C T k) = true := by
  unfold u_lay
  split <;> rfl
