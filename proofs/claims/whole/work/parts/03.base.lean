/-! THE ABSTRACT MACHINE'S WORDS: a memory of whole numbers (address, place), shapes (kind, length) of all cells made since the law's start. References: 0 is null, i + 1 the i-th new cell, negative ones cells that were there before. -/
abbrev St : Type := (Int → Int → Int) × List (Nat × Nat)
abbrev AV : Type := Nat × Int
abbrev aI (x : Int) : AV := (0, x)
abbrev aL (x : Int) : AV := (1, x)
abbrev aP (x : Int) : AV := (2, x)
/-- launch, the heap at the law's start, addresses of cells that were there, class numbers and slots, array classes, what else holds -/
abbrev EV : Type := Launch × Heap × (Nat → Nat) × va_G × (Nat → ClassId) × (State → Prop)
abbrev eBase (E : EV) : Nat := E.2.1.size
def eR (E : EV) (v : Int) : Value := if v = 0 then .null else if 0 < v then .ref (eBase E + (v - 1).toNat) else .ref (E.2.2.1 (-v).toNat)
def eV (E : EV) (a : AV) : Value := match a.1 with
  | 0 => .int (Int32.ofInt a.2)
  | 1 => .long (Int64.ofInt a.2)
  | _ => eR E a.2
def tagD (d : String) : Nat := if d = "I" ∨ d = "Z" ∨ d = "B" then 0 else if d = "J" then 1 else 2
def tagT : FieldType → Nat
  | .int => 0
  | .byte => 0
  | .boolean => 0
  | .long => 1
  | _ => 2
def tyX (k : Nat) : Nat → FieldType := match k with
  | 0 => tyX0
  | 1 => tyX1
  | 2 => tyX2
  | 3 => tyX3
  | 4 => tyX4
  | 5 => tyX5
  | 6 => tyX6
  | 7 => tyX7
  | 8 => tyX8
  | 9 => tyX9
  | _ => tyX10
def eltT (k : Nat) : FieldType := match k with
  | 20 => .int
  | 21 => .byte
  | 22 => .long
  | 23 => .boolean
  | 24 => .object "SignSquares$Square"
  | 25 => .object "SignSquares$Line"
  | _ => .object "SignSquares$Moment"
def vtag (k j : Nat) : Nat := if k < 20 then tagT (tyX k j) else tagT (eltT k)
def cellOK (E : EV) (k n a : Nat) (f : Int → Int) (H : Heap) : Prop :=
  if k < 20 then ∃ r : vw_C, vwCl[k]? = some r ∧ r.2.2 = n ∧ t_OB a (E.2.2.2.1.1 k) n (E.2.2.2.1.2 k) H (fun j => eV E (vtag k j, f j))
  else H[a]? = some (arrV (E.2.2.2.2.1 k) n (fun j => eV E (vtag k j, f j)))
def Enc (E : EV) (σ : St) (H : Heap) : Prop := H.size = eBase E + σ.2.length ∧ (∀ q, q < eBase E → H[q]? = E.2.1[q]?) ∧ ∀ i k n, σ.2[i]? = some (k, n) → cellOK E k n (eBase E + i) (σ.1 ((i : Int) + 1)) H
def lw_good : List Cond := lw_tbl.filter goodWord
def isNest : Cond → Bool
  | .fieldLinkNest .. => true
  | .methodLinkNest .. => true
  | _ => false
def lw_nest : List Cond := lw_tbl.filter isNest
def EnvOK (E : EV) (U : State) : Prop := va_K E.2.2.2.1 vwCl [] U ∧ (∀ k, 20 ≤ k → k ≤ 26 → ArrOfT U (E.2.2.2.2.1 k) (eltT k) ∧ va_RA U (E.2.2.2.2.1 k) (eltT k) ∧ ∀ C, eltT k = .object C → va_AO C U) ∧ (∀ w ∈ lw_nest, va_Nw w U) ∧ (∀ u V : State, u.WarmedH V.vm → E.2.2.2.2.2 u → E.2.2.2.2.2 V) ∧ E.2.2.2.2.2 U
theorem EnvOK.warm {E : EV} {s U : State} (hW : s.WarmedH U.vm) (h : EnvOK E s) : EnvOK E U := by
  obtain ⟨h1, h2, h3, h4, h5⟩ := h
  have hA := hW.alike
  refine ⟨va_K.moved hA h1, fun k a b => ⟨arrOfT_moved hA (h2 k a b).1, (h2 k a b).2.1.moved hA, fun C hC => ((h2 k a b).2.2 C hC).moved hA⟩, fun w hw => ?_, h4, h4 _ _ hW h5⟩
  have hz := h3 w hw
  have hf := (List.mem_filter.mp hw).2
  cases w <;> first | exact va_Nw.warmF hW hz | exact va_Nw.warmM hW hz | exact Bool.noConfusion hf
def rmD (d c s : Nat) : Room := { frames := d, cells := c, slots := s, locals := 80 * d }
def tot (σ : St) : Nat := (σ.2.map (fun q => q.2)).sum
def nC (σ σ' : St) : Nat := σ'.2.length - σ.2.length
def nS (σ σ' : St) : Nat := tot σ' - tot σ
theorem tot_le {σ σ' : St} (h : σ.2 <+: σ'.2) : tot σ ≤ tot σ' := by
  obtain ⟨t, ht⟩ := h
  unfold tot
  rw [← ht, List.map_append, List.sum_append_nat]
  omega
def wsM (M : MI) : List Cond := .code M.1 M.2.1 M.2.2.1 M.2.2.2 :: lw_good
def PcE (E : EV) (as : List AV) (σ : St) : Array Value → State → Prop := fun v U => v = (as.map (eV E)).toArray ∧ EnvOK E U ∧ Enc E σ U.heap
def QcE (E : EV) (r : Option AV) (σ : St) : Array Value → State → Outcome → State → Prop := fun _ _ o t => o = .returned (r.map (eV E)) ∧ Enc E σ t.heap
abbrev frE (E : EV) : Addr → Prop := fun q => eBase E ≤ q
def Big (E : EV) (M : MI) (d : Nat) (as : List AV) (σ : St) (r : Option AV) (σ' : St) : Prop :=
  σ.2 <+: σ'.2 ∧ Met E.1 M.1 (wsM M) (rmD d (nC σ σ') (nS σ σ')) (PcE E as σ) (QcE E r σ') (nC σ σ') (nS σ σ') (frE E)
def MC (E : EV) (M : MI) (p : Program) (s : State) (m : MethodId) (args : Array Value) (meth : Method) (c : Code) : Prop :=
  p.tables.exec = Jvm.exec ∧ c.code = M.2.1 ∧ c.maxLocals = M.2.2.1 ∧ meth.sig.returnType = M.2.2.2 ∧ s.vm.findClass M.1.cls = some m.cls ∧ (∀ w ∈ lw_good, w.before args s = true) ∧ meth.locks = false ∧ meth.name = M.1.name ∧ EnvOK E s
abbrev eL (E : EV) (ls : List (Nat × AV)) : List (Nat × Value) := ls.map (fun q => (q.1, eV E q.2))
abbrev eS (E : EV) (st : List AV) : List Value := st.map (eV E)
def Run (E : EV) (M : MI) (d pc : Nat) (ls : List (Nat × AV)) (st : List AV) (σ : St) (r : Option AV) (σ' : St) : Prop :=
  σ.2 <+: σ'.2 ∧ ∀ σ0 : St, σ0.2 <+: σ.2 → ∀ (p : Program) (e : Env) (s : State) (m : MethodId) (args : Array Value) (below : List Frame) (meth : Method) (c : Code), MC E M p s m args meth c →
    ∀ (H : Heap) (locs : List Loc) (lsA : Array Slot), Enc E σ H → (∀ q ∈ locs, eBase E ≤ q.base) → lv_has lsA M.2.2.1 (eL E ls) →
      W p E.1 e (rmD d (nC σ0 σ') (nS σ0 σ')) s m args below meth c H locs (nC σ0 σ) (nS σ0 σ) (MQ below (QcE E r σ') args s (nC σ0 σ') (nS σ0 σ') (frE E)) (F0 m pc lsA (eS E st))
/-- from this place of the method it returns, with an answer and a memory of which Q holds -/
def WP (E : EV) (M : MI) (d pc : Nat) (ls : List (Nat × AV)) (st : List AV) (σ : St) (Q : Option AV → St → Prop) : Prop := ∃ r σ', Run E M d pc ls st σ r σ' ∧ Q r σ'
/-- the method called so returns .. -/
def WM (E : EV) (M : MI) (d : Nat) (as : List AV) (σ : St) (Q : Option AV → St → Prop) : Prop := ∃ r σ', Big E M d as σ r σ' ∧ Q r σ'
abbrev WMv (E : EV) (M : MI) (d : Nat) (as : List AV) (σ : St) (Q : St → Prop) : Prop := WM E M d as σ (fun r σ' => r = none ∧ σ.2 <+: σ'.2 ∧ Q σ')
abbrev WMi (E : EV) (M : MI) (d : Nat) (as : List AV) (σ : St) (Q : Int → St → Prop) : Prop := WM E M d as σ (fun r σ' => ∃ v, r = some (aI v) ∧ σ.2 <+: σ'.2 ∧ Q v σ')
abbrev WMl (E : EV) (M : MI) (d : Nat) (as : List AV) (σ : St) (Q : Int → St → Prop) : Prop := WM E M d as σ (fun r σ' => ∃ v, r = some (aL v) ∧ σ.2 <+: σ'.2 ∧ Q v σ')
abbrev WMr (E : EV) (M : MI) (d : Nat) (as : List AV) (σ : St) (Q : Int → St → Prop) : Prop := WM E M d as σ (fun r σ' => ∃ v, r = some (aP v) ∧ σ.2 <+: σ'.2 ∧ Q v σ')
theorem WM.mono {E : EV} {M : MI} {d : Nat} {as : List AV} {σ : St} {Q Q' : Option AV → St → Prop} (h : WM E M d as σ Q) (hq : ∀ r σ', Q r σ' → Q' r σ') : WM E M d as σ Q' := by
  obtain ⟨r, σ', h1, h2⟩ := h
  exact ⟨r, σ', h1, hq _ _ h2⟩
theorem WMv.mono {E : EV} {M : MI} {d : Nat} {as : List AV} {σ : St} {Q Q' : St → Prop} (h : WMv E M d as σ Q) (hq : ∀ σ', σ.2 <+: σ'.2 → Q σ' → Q' σ') : WMv E M d as σ Q' := WM.mono h fun _ _ ⟨a, b, c⟩ => ⟨a, b, hq _ b c⟩
theorem WMi.mono {E : EV} {M : MI} {d : Nat} {as : List AV} {σ : St} {Q Q' : Int → St → Prop} (h : WMi E M d as σ Q) (hq : ∀ v σ', σ.2 <+: σ'.2 → Q v σ' → Q' v σ') : WMi E M d as σ Q' := WM.mono h fun _ _ ⟨v, a, b, c⟩ => ⟨v, a, b, hq _ _ b c⟩
theorem WMl.mono {E : EV} {M : MI} {d : Nat} {as : List AV} {σ : St} {Q Q' : Int → St → Prop} (h : WMl E M d as σ Q) (hq : ∀ v σ', σ.2 <+: σ'.2 → Q v σ' → Q' v σ') : WMl E M d as σ Q' := WM.mono h fun _ _ ⟨v, a, b, c⟩ => ⟨v, a, b, hq _ _ b c⟩
theorem WMr.mono {E : EV} {M : MI} {d : Nat} {as : List AV} {σ : St} {Q Q' : Int → St → Prop} (h : WMr E M d as σ Q) (hq : ∀ v σ', σ.2 <+: σ'.2 → Q v σ' → Q' v σ') : WMr E M d as σ Q' := WM.mono h fun _ _ ⟨v, a, b, c⟩ => ⟨v, a, b, hq _ _ b c⟩
/-- what the locals are at a method's start -/
def argL : Nat → List AV → List (Nat × AV)
  | _, [] => []
  | i, a :: as => (i, a) :: argL (if a.1 = 1 then i + 2 else i + 1) as
theorem eV_cat (E : EV) (a : AV) : (eV E a).category = if a.1 = 1 then 2 else 1 := by
  obtain ⟨t, v⟩ := a
  match t with
  | 0 => rfl
  | 1 => rfl
  | n + 2 =>
    have h2 : ¬ ((n + 2, v) : AV).1 = 1 := by
      show ¬ (n + 2 = 1)
      omega
    rw [if_neg h2]
    show (eR E v).category = 1
    unfold eR
    split
    · rfl
    · split <;> rfl
/-- a step that leaves the heap -/
theorem run_pure {E : EV} {M : MI} {d pc pc' : Nat} {ls ls' : List (Nat × AV)} {st st' : List AV} {σ : St} {Q : Option AV → St → Prop}
    (h : ∀ (p : Program) (e : Env) (R : Room) (s : State) (m : MethodId) (args : Array Value) (below : List Frame) (meth : Method) (c : Code) (H : Heap) (locs : List Loc) (cells slots : Nat) (Z : State → Prop) (lsA : Array Slot), MC E M p s m args meth c → lv_has lsA M.2.2.1 (eL E ls) →
      (∀ lsB, lv_has lsB M.2.2.1 (eL E ls') → W p E.1 e R s m args below meth c H locs cells slots Z (F0 m pc' lsB (eS E st'))) → W p E.1 e R s m args below meth c H locs cells slots Z (F0 m pc lsA (eS E st)))
    (k : WP E M d pc' ls' st' σ Q) : WP E M d pc ls st σ Q := by
  obtain ⟨r, σ', ⟨h1, h2⟩, h3⟩ := k
  exact ⟨r, σ', ⟨h1, fun σ0 hp p e s m args below meth c hM H locs lsA hE hlo hl => h p e _ s m args below meth c H locs _ _ _ lsA hM hl (fun lsB hB => h2 σ0 hp p e s m args below meth c hM H locs lsB hE hlo hB)⟩, h3⟩
theorem wp_drop {E : EV} {M : MI} {d pc : Nat} {ls ls' : List (Nat × AV)} {st : List AV} {σ : St} {Q : Option AV → St → Prop} (ks : List Nat) (hl : ks.filterMap (fun k => ls[k]?) = ls') (k : WP E M d pc ls' st σ Q) : WP E M d pc ls st σ Q := by
  refine run_pure (fun p e R s m args below meth c H locs cells slots Z lsA hM hL kk => kk _ (lv_sub hL ks ?_)) k
  rw [← hl]
  unfold lv_pick eL
  rw [List.map_filterMap]
  congr 1
  funext i
  simp
