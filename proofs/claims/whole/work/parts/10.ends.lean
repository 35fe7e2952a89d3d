section Ends
variable {E : EV} {M : MI} {d pc pc' : Nat} {ls ls' : List (Nat × AV)} {st st' : List AV} {σ : St} {Q : Option AV → St → Prop}
theorem run_end {r : Option AV}
    (h : ∀ (p : Program) (e : Env) (R : Room) (s : State) (m : MethodId) (args : Array Value) (below : List Frame) (meth : Method) (c : Code) (H : Heap) (locs : List Loc) (cells slots : Nat) (lsA : Array Slot), MC E M p s m args meth c → Enc E σ H → (∀ q ∈ locs, eBase E ≤ q.base) → W p E.1 e R s m args below meth c H locs cells slots (MQ below (QcE E r σ) args s cells slots (frE E)) (F0 m pc lsA (eS E st)))
    (hq : Q r σ) : WP E M d pc ls st σ Q :=
  ⟨r, σ, ⟨List.prefix_refl _, fun σ0 hp p e s m args below meth c hM H locs lsA hE hlo hl => h p e _ s m args below meth c H locs _ _ lsA hM hE hlo⟩, hq⟩
theorem s_return (hd : decode M.2.1 pc = .ok (.return_, 1)) (hr : M.2.2.2 = none) (hq : Q none σ) : WP E M d pc ls [] σ Q :=
  run_end (fun p e R s m args below meth c H locs cells slots lsA hM hE hlo => W.vret hM.1 hM.2.1 (hM.2.2.2.1.trans hr) (fun t ht hW => ⟨rfl, by rw [ht]; exact hE⟩) hlo hd (hlocks := hM.2.2.2.2.2.2.1)) hq
theorem s_ireturn {v : Int} (hd : decode M.2.1 pc = .ok (.ireturn, 1)) (hr : M.2.2.2 = some .int) (hq : Q (some (aI v)) σ) : WP E M d pc ls [aI v] σ Q :=
  run_end (fun p e R s m args below meth c H locs cells slots lsA hM hE hlo => W.iret hM.1 hM.2.1 (hM.2.2.2.1.trans hr) (fun t ht hW => ⟨rfl, by rw [ht]; exact hE⟩) hlo hd (hlocks := hM.2.2.2.2.2.2.1)) hq
theorem s_zreturn {v : Int} (hd : decode M.2.1 pc = .ok (.ireturn, 1)) (hr : M.2.2.2 = some .boolean) (hv : v = 0 ∨ v = 1) (hq : Q (some (aI v)) σ) : WP E M d pc ls [aI v] σ Q :=
  run_end (fun p e R s m args below meth c H locs cells slots lsA hM hE hlo => W.zret (ty := .boolean) hM.1 hM.2.1 (hM.2.2.2.1.trans hr) (bool01 hv) (fun t ht hW => ⟨rfl, by rw [ht]; exact hE⟩) hlo hd (hlocks := hM.2.2.2.2.2.2.1)) hq
theorem s_lreturn {v : Int} (hd : decode M.2.1 pc = .ok (.lreturn, 1)) (hr : M.2.2.2 = some .long) (hq : Q (some (aL v)) σ) : WP E M d pc ls [aL v] σ Q :=
  run_end (fun p e R s m args below meth c H locs cells slots lsA hM hE hlo => W.lret hM.1 hM.2.1 (hM.2.2.2.1.trans hr) (fun t ht hW => ⟨rfl, by rw [ht]; exact hE⟩) hlo hd (hlocks := hM.2.2.2.2.2.2.1)) hq
theorem s_areturn {v : Int} {rt : FieldType} (hd : decode M.2.1 pc = .ok (.areturn, 1)) (hr : M.2.2.2 = some rt) (hrt : (∃ n, rt = .object n) ∨ ∃ t, rt = .array t) (hq : Q (some (aP v)) σ) : WP E M d pc ls [aP v] σ Q :=
  run_end (fun p e R s m args below meth c H locs cells slots lsA hM hE hlo => W.aret (v := eR E v) hM.1 hM.2.1 (hM.2.2.2.1.trans hr) hrt (by rcases eR_cases E v with ⟨-, e0⟩ | ⟨-, a, e0⟩; exact Or.inl e0; exact Or.inr ⟨a, e0⟩) (fun t ht hW => ⟨rfl, by rw [ht]; exact hE⟩) hlo hd (hlocks := hM.2.2.2.2.2.2.1)) hq
theorem s_objInit {a : Int} {idx : Nat} (hd : decode M.2.1 pc = .ok (.invokespecial idx, 3)) (w1 : Cond.methodLink M.1.cls idx Lib.objectInit ∈ lw_tbl) (w2 : Cond.instanceMethod Lib.objectInit ∈ lw_tbl) (w3 : Cond.code Lib.objectInit ⟨#[0xb1]⟩ 1 none ∈ lw_tbl) (ha : 0 < a) (hs : (st.map (fun a => if a.1 = 1 then 2 else 1)).sum ≤ 20) (k : WP E M (d + 1) (pc + 3) ls st σ Q) : WP E M (d + 1) pc ls (aP a :: st) σ Q := by
  obtain ⟨r, σ', ⟨h1, h2⟩, h3⟩ := k
  refine ⟨r, σ', ⟨h1, fun σ0 hp p e s m args below meth c hM H locs lsA hE hlo hl => ?_⟩, h3⟩
  have hz := h2 σ0 hp p e s m args below meth c hM H locs lsA hE hlo hl
  show W p E.1 e _ s m args below meth c H locs _ _ _ (F0 m pc lsA (eR E a :: eS E st))
  rw [eR_pos E ha]
  refine W.objInit hM.1 hM.2.1 hM.2.2.2.2.1 (hM.2.2.2.2.2.1 _ (lg_mem w1 rfl)) (hM.2.2.2.2.2.1 _ (lg_mem w2 rfl)) (hM.2.2.2.2.2.1 _ (lg_mem w3 rfl)) rfl (by rw [hM.2.2.1]; exact hl.1) rfl hd (by show 1 ≤ d + 1; omega) ?_ hz
  have e1 : (eS E st).map (fun v => v.category) = st.map (fun a => if a.1 = 1 then 2 else 1) := by
    simp only [eS, List.map_map]
    exact List.map_congr_left (fun a _ => eV_cat E a)
  rw [e1]
  have e2 : (F0 m pc lsA (.ref (eA E a) :: eS E st)).monitorRoom = 0 := rfl
  rw [e2]
  show _ ≤ 80 * (d + 1)
  omega
/-- what a method needs to be called -/
def MOK (Mc : MI) (n : Nat) : Prop := Cond.code Mc.1 Mc.2.1 Mc.2.2.1 Mc.2.2.2 ∈ lw_tbl ∧ Cond.initialized Mc.1.cls ∈ lw_tbl ∧ (Mc.1.cls ≠ "java/lang/invoke/MethodHandle" ∧ Mc.1.cls ≠ "java/lang/invoke/VarHandle") ∧ Mc.2.2.1 ≤ 41 ∧ (parseMethodDescriptor Mc.1.desc).map (fun d => d.parameters.length) = some n
def LK (own : String) (idx : Nat) (Mc : MI) : Prop := Cond.methodLink own idx Mc.1 ∈ lw_tbl ∨ ∃ host, Cond.methodLinkNest own idx Mc.1 host ∈ lw_tbl
theorem wsM_ok {Mc : MI} {n : Nat} {s : State} {args : Array Value} (h : MOK Mc n) (hts : ∀ w ∈ lw_good, w.before args s = true) : ∀ w ∈ wsM Mc, ∀ (a' : Array Value) (U : State), s.WarmedH U.vm → w.before a' U = true := by
  intro w hw a' U hW
  have hg : w ∈ lw_good := by
    rcases List.mem_cons.mp hw with rfl | h2
    · exact lg_mem h.1 rfl
    · exact h2
  exact word_at hW (good_of_word (List.mem_filter.mp hg).2) (hts w hg)
theorem eS_cat (E : EV) (st : List AV) : (eS E st).map (fun v => v.category) = st.map (fun a => if a.1 = 1 then 2 else 1) := by
  simp only [eS, List.map_map]
  exact List.map_congr_left (fun a _ => eV_cat E a)
theorem blindE (E : EV) (as : List AV) (σ : St) : FrameBlind (PcE E as σ) := by
  intro a U g mk h
  exact ⟨h.1, EnvOK.warm (U := U.calling g mk a) (State.WarmedH.refl U) h.2.1, h.2.2⟩
/-- a call, once the machine's part of it is known -/
theorem run_call {Mc : MI} {as stT : List AV} (hst : ∀ (p : Program) (e : Env) (s : State) (m : MethodId) (args : Array Value) (below : List Frame) (meth : Method) (c : Code) (H : Heap) (locs : List Loc) (lsA : Array Slot) (r : Option AV) (σ1 : St) (R : Room) (cells slots : Nat), Big E Mc d as σ r σ1 → MC E M p s m args meth c → Enc E σ H → lv_has lsA M.2.2.1 (eL E ls) → d + 1 ≤ R.frames → 80 * (d + 1) ≤ R.locals → cells + nC σ σ1 ≤ R.cells → slots + nS σ σ1 ≤ R.slots →
      va_Run p E.1 e R s m args below meth c H locs cells slots (nC σ σ1) (nS σ σ1) (F0 m pc lsA (eS E stT)) (eS E st) (QcE E r σ1 (as.map (eV E)).toArray) (frE E))
    (k : WM E Mc d as σ (fun r σ1 => WP E M (d + 1) (pc + 3) ls (r.toList ++ st) σ1 Q)) : WP E M (d + 1) pc ls stT σ Q := by
  obtain ⟨r, σ1, hB, r', σ', ⟨h1, h2⟩, h3⟩ := k
  have hB1 := hB.1
  refine ⟨r', σ', ⟨hB1.trans h1, fun σ0 hp p e s m args below meth c hM H locs lsA hE hlo hl => ?_⟩, h3⟩
  have t0 := tot_le hp
  have l0 := hp.length_le
  have t1 := tot_le hB1
  have l1 := hB1.length_le
  have t2 := tot_le h1
  have l2 := h1.length_le
  have hrun := hst p e s m args below meth c H locs lsA r σ1 (rmD (d + 1) (nC σ0 σ') (nS σ0 σ')) (nC σ0 σ) (nS σ0 σ) hB hM hE hl (Nat.le_refl _) (Nat.le_refl _) (by show nC σ0 σ + nC σ σ1 ≤ nC σ0 σ'; unfold nC; omega) (by show nS σ0 σ + nS σ σ1 ≤ nS σ0 σ'; unfold nS; omega)
  intro T hT X
  obtain ⟨v, st₀, t, T', L, g0, X', hL, e1, e2, ⟨hv, hE1⟩, hgo⟩ := hrun T hT X
  have hv2 : v = r.map (eV E) := Outcome.returned.inj hv
  subst hv2
  have ec : nC σ0 σ + nC σ σ1 = nC σ0 σ1 := by unfold nC; omega
  have es : nS σ0 σ + nS σ σ1 = nS σ0 σ1 := by unfold nS; omega
  rw [ec, es] at X'
  have hlo1 : ∀ q ∈ locs ++ L, eBase E ≤ q.base := fun q hq => (List.mem_append.mp hq).elim (hlo q) (hL q)
  obtain ⟨tt, a1, b1⟩ := h2 σ0 (hp.trans hB1) p e s m args below meth c hM T'.heap (locs ++ L) lsA (by rw [e1]; exact hE1) hlo1 hl T' rfl X'
  refine ⟨tt, hgo tt ?_, b1⟩
  have e3 : (r.map (eV E)).toList ++ eS E st = eS E (r.toList ++ st) := by cases r <;> rfl
  rw [e3]
  exact a1
theorem recv {H : Heap} {s : State} {a : Int} {ci N : Nat} {q : vw_C} (hEn : EnvOK E s) (hE : Enc E σ H) (hci : ci < 20) (hq : vwCl[ci]? = some q) (ha : sh σ a = some (ci, N)) : ∃ cell : Cell, H[eA E a]? = some cell ∧ cell.vm.isStatics = false ∧ s.vm.findClass q.1 = some cell.cls := by
  have h := hE.cell ha
  unfold cellOK at h
  rw [if_pos hci] at h
  obtain ⟨r, h1, -, cell, g1, g2, g3, -⟩ := h
  exact ⟨cell, g1, by rw [g3]; rfl, by rw [g2]; exact (hEn.1.1 ci q hq).2.1⟩
theorem mok_len {Mc : MI} {n : Nat} (h : MOK Mc n) : ∀ sig, parseMethodDescriptor Mc.1.desc = some sig → n = sig.parameters.length := fun sig hs => by
  have h2 := h.2.2.2.2
  rw [hs] at h2
  exact (Option.some.inj h2).symm
/-- a call with up to twenty words below its arguments -/
theorem xrunV {p : Program} {l : Launch} {e : Env} {R : Room} {s : State} {m : MethodId} {args : Array Value} {below : List Frame} {meth : Method} {c : Code} {H : Heap} {locs : List Loc} {cells slots : Nat} {y : MethodName} {bytes cc : ByteArray} {maxL nL mc ms n index : Nat} {ret : Option FieldType} {ws : List Cond} {rm : Room} {Pc : Array Value → State → Prop} {Qc : Array Value → State → Outcome → State → Prop} {free : Addr → Prop} {own C : String} {b : Addr} {As rest : List Value} {g : JFrame}
    (hx : p.tables.exec = Jvm.exec) (hb : c.code = cc) (hml : c.maxLocals = nL) (ho : s.vm.findClass own = some m.cls) (hM : Met l y ws rm Pc Qc mc ms free) (hrc : rm.cells = mc) (hrs : rm.slots = ms) (hfr : rm.frames + 1 ≤ R.frames) (hlo : 20 + (maxL + 11) + rm.locals ≤ R.locals) (hws : ∀ w ∈ ws, ∀ (a' : Array Value) (U : State), s.WarmedH U.vm → w.before a' U = true) (hcw : Cond.code y bytes maxL ret ∈ ws)
    (hcode : (Cond.code y bytes maxL ret).before args s = true) (hini : (Cond.initialized y.cls).before args s = true) (hy : y.cls ≠ "java/lang/invoke/MethodHandle" ∧ y.cls ≠ "java/lang/invoke/VarHandle") (hlen : ∀ sig, parseMethodDescriptor y.desc = some sig → n = sig.parameters.length) (hl : (Cond.methodLink own index y).before args s = true) (hin : (Cond.instanceMethod y).before args s = true) (hse : (Cond.selects C y y).before args s = true)
    (hp : PreV s H C b Pc As) (hg : g.method = m) (hn : As.length = n) (hsize : g.locals.size = nL) (hstack : g.stack = As.reverse ++ .ref b :: rest) (hW : 2 * g.monitorRoom + (rest.map fun v => v.category).sum ≤ 20) (hdg : decode cc g.pc = .ok (.invokevirtual index, 3)) (hf : cells + mc ≤ R.cells ∧ slots + ms ≤ R.slots) :
    va_Run p l e R s m args below meth c H locs cells slots mc ms g rest (Qc (Value.ref b :: As).toArray) (free) := by
  have hK : Back l R p e below s args y 3 20 (PreOf R mc ms Pc) (PostOf Qc mc ms free) := back_of (bytes := bytes) (maxL := maxL) (ret := ret) hM hp.1 hrc hrs hfr hlo hws hcw (fun a' U hW => word_at hW (Or.inl (by first | rfl | simp [Cond.onTables, Cond.keeps, Cond.steady])) hini)
  obtain ⟨-, ⟨cellB, hcB, hoB, hclB⟩, hPc⟩ := hp
  intro T hT X
  obtain ⟨v, vm₁, ⟨U', l2, c2, s2⟩, hW₁, X', ⟨g', mk, t, L, e1, e2, hq, h1, hL, h2, h3⟩, st⟩ := callV X hx (C := C) (bytes := bytes) (maxL := maxL) (ret := ret) ho hl hin hse hcode hy hK (by rw [hT]; exact hcB) hoB hclB hg (hsize.trans hml.symm) (argsL := As) (rest := rest) (fun sig h => hn.trans (hlen sig h)) hstack hW (by rw [hb]; exact hdg)
    (fun vm₁ hW₁ => ⟨hf.1, hf.2, hPc (T.setVm vm₁) hT hW₁⟩)
  dsimp only [Pt.U, Pt.locs, Pt.cells, Pt.slots] at X' e1 e2 h1 h2 h3 st
  subst h1; subst h2; subst h3
  exact ⟨v, (T.setVm vm₁).calling g' mk (Value.ref b :: As).toArray, t, U', L, hT, X', hL, e1, e2, hq, st⟩
theorem s_callV {Mc : MI} {as : List AV} {a : Int} {ci N idx n : Nat} {q : vw_C} (hd : decode M.2.1 pc = .ok (.invokevirtual idx, 3)) (hk : MOK Mc n) (hlk : LK M.1.cls idx Mc) (w1 : Cond.instanceMethod Mc.1 ∈ lw_tbl) (w2 : Cond.selects Mc.1.cls Mc.1 Mc.1 ∈ lw_tbl) (hci : ci < 20) (hq : vwCl[ci]? = some q) (hcl : q.1 = Mc.1.cls) (hn : as.length = n) (hW : (st.map (fun a => if a.1 = 1 then 2 else 1)).sum ≤ 8)
    (hst : st' = as.reverse ++ aP a :: st) (ha : sh σ a = some (ci, N)) (k : WM E Mc d (aP a :: as) σ (fun r σ1 => WP E M (d + 1) (pc + 3) ls (r.toList ++ st) σ1 Q)) : WP E M (d + 1) pc ls st' σ Q := by
  subst hst
  refine run_call (as := aP a :: as) (fun p e s m args below meth c H locs lsA r σ1 R cells slots hB hM hE hl hRf hRl hRc hRs => ?_) k
  obtain ⟨hx, hb, hml, hr, hown, hts, hlk2, hnam, hEn⟩ := hM
  obtain ⟨cell, c1, c2, c3⟩ := recv hEn hE hci hq ha
  rw [hcl] at c3
  have e0 : (List.map (eV E) (aP a :: as)).toArray = (Value.ref (eA E a) :: as.map (eV E)).toArray := by
    show (eR E a :: as.map (eV E)).toArray = _
    rw [eR_pos E (sh_pos ha).1]
  have hPc : ∀ U : State, U.heap = H → s.WarmedH U.vm → PcE E (aP a :: as) σ (Value.ref (eA E a) :: as.map (eV E)).toArray U := fun U hU hW => ⟨e0.symm, hEn.warm hW, by rw [hU]; exact hE⟩
  have hstk : (F0 m pc lsA (eS E (as.reverse ++ aP a :: st))).stack = (as.map (eV E)).reverse ++ .ref (eA E a) :: eS E st := by
    show eS E (as.reverse ++ aP a :: st) = _
    simp only [eS, List.map_append, List.map_cons, List.map_reverse]
    rw [show eV E (aP a) = .ref (eA E a) from eR_pos E (sh_pos ha).1]
  have hmr : (F0 m pc lsA (eS E (as.reverse ++ aP a :: st))).monitorRoom = 0 := rfl
  have hWs : 2 * (F0 m pc lsA (eS E (as.reverse ++ aP a :: st))).monitorRoom + ((eS E st).map fun v => v.category).sum ≤ 8 := by
    rw [hmr, eS_cat]; omega
  have hB2 := hB.2
  rw [e0]
  have hroom : (rmD d (nC σ σ1) (nS σ σ1)).frames + 1 ≤ R.frames ∧ 8 + (Mc.2.2.1 + 11) + (rmD d (nC σ σ1) (nS σ σ1)).locals ≤ R.locals := ⟨hRf, by have := hk.2.2.2.1; show 8 + (Mc.2.2.1 + 11) + 80 * d ≤ R.locals; omega⟩
  rcases hlk with hlk | ⟨host, hlk⟩
  · exact va_runV (C := Mc.1.cls) (bytes := Mc.2.1) (maxL := Mc.2.2.1) (ret := Mc.2.2.2) (n := n) (Ts := lw_good) ⟨hx, hb, hml, hown, hts⟩ hB2 ⟨⟨rfl, rfl, hroom.1, hroom.2, wsM_ok hk hts, List.mem_cons_self, hts _ (lg_mem hk.1 rfl), hts _ (lg_mem hk.2.1 rfl), hk.2.2.1, mok_len hk, hts _ (lg_mem hlk rfl)⟩, hts _ (lg_mem w1 rfl), hts _ (lg_mem w2 rfl)⟩ ⟨blindE E _ σ, ⟨cell, c1, c2, c3⟩, hPc⟩ rfl (by simp [hn]) hl.1 hstk hWs hd ⟨hRc, hRs⟩
  · exact va_runVN (C := Mc.1.cls) (bytes := Mc.2.1) (maxL := Mc.2.2.1) (ret := Mc.2.2.2) (n := n) (Ts := lw_good) ⟨hx, hb, hml, hown, hts⟩ hB2 ⟨⟨⟨rfl, rfl, hroom.1, hroom.2, wsM_ok hk hts, List.mem_cons_self⟩, hts _ (lg_mem hk.1 rfl), hts _ (lg_mem hk.2.1 rfl), hk.2.2.1, mok_len hk, va_Nw.use rfl (hEn.2.2.1 _ (nest_mem hlk rfl))⟩, hts _ (lg_mem w1 rfl), hts _ (lg_mem w2 rfl)⟩ ⟨blindE E _ σ, ⟨cell, c1, c2, c3⟩, hPc⟩ rfl (by simp [hn]) hl.1 hstk hWs hd ⟨hRc, hRs⟩
theorem s_callW {Mc : MI} {as : List AV} {a : Int} {ci N idx n : Nat} {q : vw_C} (hd : decode M.2.1 pc = .ok (.invokevirtual idx, 3)) (hk : MOK Mc n) (hlk : Cond.methodLink M.1.cls idx Mc.1 ∈ lw_tbl) (w1 : Cond.instanceMethod Mc.1 ∈ lw_tbl) (w2 : Cond.selects Mc.1.cls Mc.1 Mc.1 ∈ lw_tbl) (hci : ci < 20) (hq : vwCl[ci]? = some q) (hcl : q.1 = Mc.1.cls) (hn : as.length = n) (hW : (st.map (fun a => if a.1 = 1 then 2 else 1)).sum ≤ 20)
    (hst : st' = as.reverse ++ aP a :: st) (ha : sh σ a = some (ci, N)) (k : WM E Mc d (aP a :: as) σ (fun r σ1 => WP E M (d + 1) (pc + 3) ls (r.toList ++ st) σ1 Q)) : WP E M (d + 1) pc ls st' σ Q := by
  subst hst
  refine run_call (as := aP a :: as) (fun p e s m args below meth c H locs lsA r σ1 R cells slots hB hM hE hl hRf hRl hRc hRs => ?_) k
  obtain ⟨hx, hb, hml, hr, hown, hts, hlk2, hnam, hEn⟩ := hM
  obtain ⟨cell, c1, c2, c3⟩ := recv hEn hE hci hq ha
  rw [hcl] at c3
  have e0 : (List.map (eV E) (aP a :: as)).toArray = (Value.ref (eA E a) :: as.map (eV E)).toArray := by
    show (eR E a :: as.map (eV E)).toArray = _
    rw [eR_pos E (sh_pos ha).1]
  have hPc : ∀ U : State, U.heap = H → s.WarmedH U.vm → PcE E (aP a :: as) σ (Value.ref (eA E a) :: as.map (eV E)).toArray U := fun U hU hW => ⟨e0.symm, hEn.warm hW, by rw [hU]; exact hE⟩
  have hstk : (F0 m pc lsA (eS E (as.reverse ++ aP a :: st))).stack = (as.map (eV E)).reverse ++ .ref (eA E a) :: eS E st := by
    show eS E (as.reverse ++ aP a :: st) = _
    simp only [eS, List.map_append, List.map_cons, List.map_reverse]
    rw [show eV E (aP a) = .ref (eA E a) from eR_pos E (sh_pos ha).1]
  have hmr : (F0 m pc lsA (eS E (as.reverse ++ aP a :: st))).monitorRoom = 0 := rfl
  have hWs : 2 * (F0 m pc lsA (eS E (as.reverse ++ aP a :: st))).monitorRoom + ((eS E st).map fun v => v.category).sum ≤ 20 := by
    rw [hmr, eS_cat]; omega
  have hB2 := hB.2
  rw [e0]
  have hroom : (rmD d (nC σ σ1) (nS σ σ1)).frames + 1 ≤ R.frames ∧ 20 + (Mc.2.2.1 + 11) + (rmD d (nC σ σ1) (nS σ σ1)).locals ≤ R.locals := ⟨hRf, by have := hk.2.2.2.1; show 20 + (Mc.2.2.1 + 11) + 80 * d ≤ R.locals; omega⟩
  exact xrunV (C := Mc.1.cls) (bytes := Mc.2.1) (maxL := Mc.2.2.1) (ret := Mc.2.2.2) (n := n) hx hb hml hown hB2 rfl rfl hroom.1 hroom.2 (wsM_ok hk hts) List.mem_cons_self (hts _ (lg_mem hk.1 rfl)) (hts _ (lg_mem hk.2.1 rfl)) hk.2.2.1 (mok_len hk) (hts _ (lg_mem hlk rfl)) (hts _ (lg_mem w1 rfl)) (hts _ (lg_mem w2 rfl)) ⟨blindE E _ σ, ⟨cell, c1, c2, c3⟩, hPc⟩ rfl (by simp [hn]) hl.1 hstk hWs hd ⟨hRc, hRs⟩
theorem s_callS {Mc : MI} {as : List AV} {idx n : Nat} (hd : decode M.2.1 pc = .ok (.invokestatic idx, 3)) (hk : MOK Mc n) (hlk : LK M.1.cls idx Mc) (w1 : Cond.static Mc.1 ∈ lw_tbl) (hn : as.length = n) (hW : (st.map (fun a => if a.1 = 1 then 2 else 1)).sum ≤ 8)
    (hst : st' = as.reverse ++ st) (k : WM E Mc d as σ (fun r σ1 => WP E M (d + 1) (pc + 3) ls (r.toList ++ st) σ1 Q)) : WP E M (d + 1) pc ls st' σ Q := by
  subst hst
  refine run_call (as := as) (fun p e s m args below meth c H locs lsA r σ1 R cells slots hB hM hE hl hRf hRl hRc hRs => ?_) k
  obtain ⟨hx, hb, hml, hr, hown, hts, hlk2, hnam, hEn⟩ := hM
  have hPc : ∀ U : State, U.heap = H → s.WarmedH U.vm → PcE E as σ (as.map (eV E)).toArray U := fun U hU hW => ⟨rfl, hEn.warm hW, by rw [hU]; exact hE⟩
  have hstk : (F0 m pc lsA (eS E (as.reverse ++ st))).stack = (as.map (eV E)).reverse ++ eS E st := by
    show eS E (as.reverse ++ st) = _
    simp only [eS, List.map_append, List.map_reverse]
  have hmr : (F0 m pc lsA (eS E (as.reverse ++ st))).monitorRoom = 0 := rfl
  have hWs : 2 * (F0 m pc lsA (eS E (as.reverse ++ st))).monitorRoom + ((eS E st).map fun v => v.category).sum ≤ 8 := by
    rw [hmr, eS_cat]; omega
  have hB2 := hB.2
  have hroom : (rmD d (nC σ σ1) (nS σ σ1)).frames + 1 ≤ R.frames ∧ 8 + (Mc.2.2.1 + 11) + (rmD d (nC σ σ1) (nS σ σ1)).locals ≤ R.locals := ⟨hRf, by have := hk.2.2.2.1; show 8 + (Mc.2.2.1 + 11) + 80 * d ≤ R.locals; omega⟩
  rcases hlk with hlk | ⟨host, hlk⟩
  · exact va_runS (bytes := Mc.2.1) (maxL := Mc.2.2.1) (ret := Mc.2.2.2) (n := n) (Ts := lw_good) ⟨hx, hb, hml, hown, hts⟩ hB2 ⟨⟨rfl, rfl, hroom.1, hroom.2, wsM_ok hk hts, List.mem_cons_self, hts _ (lg_mem hk.1 rfl), hts _ (lg_mem hk.2.1 rfl), hk.2.2.1, mok_len hk, hts _ (lg_mem hlk rfl)⟩, hts _ (lg_mem w1 rfl)⟩ ⟨blindE E _ σ, hPc⟩ rfl (by simp [hn]) hl.1 hstk hWs hd ⟨hRc, hRs⟩
  · exact va_runSN (bytes := Mc.2.1) (maxL := Mc.2.2.1) (ret := Mc.2.2.2) (n := n) (Ts := lw_good) ⟨hx, hb, hml, hown, hts⟩ hB2 ⟨⟨⟨rfl, rfl, hroom.1, hroom.2, wsM_ok hk hts, List.mem_cons_self⟩, hts _ (lg_mem hk.1 rfl), hts _ (lg_mem hk.2.1 rfl), hk.2.2.1, mok_len hk, va_Nw.use rfl (hEn.2.2.1 _ (nest_mem hlk rfl))⟩, hts _ (lg_mem w1 rfl), trivial⟩ ⟨blindE E _ σ, hPc⟩ rfl (by simp [hn]) hl.1 hstk hWs hd ⟨hRc, hRs⟩
theorem s_callI {Mc : MI} {as : List AV} {a : Int} {idx n : Nat} (hd : decode M.2.1 pc = .ok (.invokespecial idx, 3)) (hk : MOK Mc n) (hlk : LK M.1.cls idx Mc) (w1 : Cond.instanceMethod Mc.1 ∈ lw_tbl) (hnm : Mc.1.name = "<init>") (hret : Mc.2.2.2 = none) (hn : as.length = n) (hW : (st.map (fun a => if a.1 = 1 then 2 else 1)).sum ≤ 8)
    (hst : st' = as.reverse ++ aP a :: st) (ha : 0 < a) (k : WM E Mc d (aP a :: as) σ (fun r σ1 => WP E M (d + 1) (pc + 3) ls (r.toList ++ st) σ1 Q)) : WP E M (d + 1) pc ls st' σ Q := by
  subst hst
  refine run_call (as := aP a :: as) (fun p e s m args below meth c H locs lsA r σ1 R cells slots hB hM hE hl hRf hRl hRc hRs => ?_) k
  obtain ⟨hx, hb, hml, hr, hown, hts, hlk2, hnam, hEn⟩ := hM
  have e0 : (List.map (eV E) (aP a :: as)).toArray = (Value.ref (eA E a) :: as.map (eV E)).toArray := by
    show (eR E a :: as.map (eV E)).toArray = _
    rw [eR_pos E ha]
  have hPc : ∀ U : State, U.heap = H → s.WarmedH U.vm → PcE E (aP a :: as) σ (Value.ref (eA E a) :: as.map (eV E)).toArray U := fun U hU hW => ⟨e0.symm, hEn.warm hW, by rw [hU]; exact hE⟩
  have hstk : (F0 m pc lsA (eS E (as.reverse ++ aP a :: st))).stack = (as.map (eV E)).reverse ++ .ref (eA E a) :: eS E st := by
    show eS E (as.reverse ++ aP a :: st) = _
    simp only [eS, List.map_append, List.map_cons, List.map_reverse]
    rw [show eV E (aP a) = .ref (eA E a) from eR_pos E ha]
  have hmr : (F0 m pc lsA (eS E (as.reverse ++ aP a :: st))).monitorRoom = 0 := rfl
  have hWs : 2 * (F0 m pc lsA (eS E (as.reverse ++ aP a :: st))).monitorRoom + ((eS E st).map fun v => v.category).sum ≤ 8 := by
    rw [hmr, eS_cat]; omega
  have hB2 := hB.2
  rw [e0]
  have hroom : (rmD d (nC σ σ1) (nS σ σ1)).frames + 1 ≤ R.frames ∧ 8 + (Mc.2.2.1 + 11) + (rmD d (nC σ σ1) (nS σ σ1)).locals ≤ R.locals := ⟨hRf, by have := hk.2.2.2.1; show 8 + (Mc.2.2.1 + 11) + 80 * d ≤ R.locals; omega⟩
  have hcd : Cond.code Mc.1 Mc.2.1 Mc.2.2.1 none ∈ wsM Mc := by rw [← hret]; exact List.mem_cons_self
  have hcd2 : Cond.code Mc.1 Mc.2.1 Mc.2.2.1 none ∈ lw_tbl := by rw [← hret]; exact hk.1
  rcases hlk with hlk | ⟨host, hlk⟩
  · exact va_runI (bytes := Mc.2.1) (maxL := Mc.2.2.1) (n := n) (Ts := lw_good) ⟨hx, hb, hml, hown, hts⟩ hB2 ⟨⟨rfl, rfl, hroom.1, hroom.2, wsM_ok hk hts, hcd, hts _ (lg_mem hcd2 rfl), hts _ (lg_mem hk.2.1 rfl), hk.2.2.1, mok_len hk, hts _ (lg_mem hlk rfl)⟩, hnm, hts _ (lg_mem w1 rfl)⟩ ⟨blindE E _ σ, hPc⟩ rfl (by simp [hn]) hl.1 hstk hWs hd ⟨hRc, hRs⟩
  · exact va_runIN (bytes := Mc.2.1) (maxL := Mc.2.2.1) (n := n) (Ts := lw_good) ⟨hx, hb, hml, hown, hts⟩ hB2 ⟨⟨⟨rfl, rfl, hroom.1, hroom.2, wsM_ok hk hts, hcd⟩, hts _ (lg_mem hcd2 rfl), hts _ (lg_mem hk.2.1 rfl), hk.2.2.1, mok_len hk, va_Nw.use rfl (hEn.2.2.1 _ (nest_mem hlk rfl))⟩, hnm, hts _ (lg_mem w1 rfl)⟩ ⟨blindE E _ σ, hPc⟩ rfl (by simp [hn]) hl.1 hstk hWs hd ⟨hRc, hRs⟩
/-- a method's body proved is its call proved -/
theorem s_method {as : List AV} (hy : plainName M.1.cls = true) (hn : (lg_sl (as.map (eV E))).length ≤ M.2.2.1) (hl : ∀ E : EV, lv_args 0 (as.map (eV E)) = eL E (argL 0 as)) (k : WP E M d 0 (argL 0 as) [] σ Q) : WM E M d as σ Q := by
  obtain ⟨r, σ', ⟨h1, h2⟩, h3⟩ := k
  refine ⟨r, σ', ⟨h1, ?_⟩, h3⟩
  refine Met.ofW (cc := M.2.1) (maxL := M.2.2.1) (ret := M.2.2.2) hy rfl ?_
  intro p e s m args below meth c s₁ B hml hv
  obtain ⟨rfl, hEn, hE⟩ := hv
  have hts := atoms_spec (ws := wsM M) B.pre
  have hMC : MC E M p s m (as.map (eV E)).toArray meth c := ⟨B.exec, B.bytes, hml, B.returns, findClass_of_methodNamed B.named, fun w hw => hts w (List.mem_cons_of_mem _ hw), B.notSynchronized, (name_of_methodNamed B.named B.method).1, hEn⟩
  have hL := lv_entry (as.map (eV E)) (n := M.2.2.1) hn
  rw [lg_entry_eq]
  rw [hl E] at hL
  have hz := h2 σ (List.prefix_refl _) p e s m _ below meth c hMC s.heap [] _ hE (fun q hq => by cases hq) hL
  have e1 : nC σ σ = 0 := by unfold nC; omega
  have e2 : nS σ σ = 0 := by unfold nS; omega
  rw [e1, e2] at hz
  exact hz
end Ends
