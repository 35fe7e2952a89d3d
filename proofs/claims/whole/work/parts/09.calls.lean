section Alloc
variable {E : EV} {M : MI} {d pc pc' : Nat} {ls ls' : List (Nat × AV)} {st st' : List AV} {σ : St} {Q : Option AV → St → Prop}
def nx (σ : St) : Int := (σ.2.length : Int) + 1
def al (σ : St) (k n : Nat) : St := (fun a' i' => if a' = nx σ then 0 else σ.1 a' i', σ.2 ++ [(k, n)])
theorem tot_al (σ : St) (k n : Nat) : tot (al σ k n) = tot σ + n := by simp [tot, al]
theorem s_aastore {a i v : Int} {kd ci N : Nat} (hk : kd = 24 ∧ ci = 7 ∧ N = 1 ∨ kd = 25 ∧ ci = 3 ∧ N = 2 ∨ kd = 26 ∧ ci = 4 ∧ N = 3) (hd : decode M.2.1 pc = .ok (.aastore, 1)) (ha : inb σ a kd i) (hv : v = 0 ∨ sh σ v = some (ci, N)) (k : WP E M d (pc + 1) ls st (wr σ a i v) Q) : WP E M d pc ls (aP v :: aI i :: aP a :: st) σ Q := by
  obtain ⟨n, hs, h0, h1, h2⟩ := ha
  refine run_mem (σ1 := wr σ a i v) rfl (fun p e R s m args below meth c H locs cells slots Z lsA hM hE hlo hl z => ?_) k
  obtain ⟨hx, hb, hml, hr, hown, hts, hlk, hnam, hEn⟩ := hM
  have hcell := hE.arr hs (by omega)
  have hvt : ∀ j, vtag kd j = 2 := by rcases hk with ⟨rfl, -⟩ | ⟨rfl, -⟩ | ⟨rfl, -⟩ <;> intro j <;> rfl
  have hA := hEn.2.1 kd (by omega) (by omega)
  show W p E.1 e R s m args below meth c H locs cells slots Z (F0 m pc lsA (eR E v :: .int (Int32.ofInt i) :: eR E a :: eS E st))
  rw [eR_pos E (sh_pos hs).1]
  rcases hv with rfl | hv
  · have hC : ∃ C, eltT kd = .object C := by rcases hk with ⟨rfl, -⟩ | ⟨rfl, -⟩ | ⟨rfl, -⟩ <;> exact ⟨_, rfl⟩
    obtain ⟨C, hC⟩ := hC
    rw [hC] at hA
    refine va_WaastN (C := C) hx hb hcell (hA.1 _ _) (fun h => by cases h) (by rw [arrV_size]; exact inN h0 h2 h1) rfl rfl hd (fun H1 e1 z1 o1 => ?_)
    exact z H1 _ (hE.store hs (by omega) h0 h2 (by rw [hvt]; rfl) e1 z1 o1) (locs_app hlo)
  · have hvc := hE.cell hv
    unfold cellOK at hvc
    rw [if_pos (by omega)] at hvc
    obtain ⟨r, hr1, -, cellV, g1, g2, g3, -⟩ := hvc
    have hcls := (hEn.1.1 ci r hr1).2
    have hCr : eltT kd = .object r.1 := by
      rcases hk with ⟨rfl, rfl, -⟩ | ⟨rfl, rfl, -⟩ | ⟨rfl, rfl, -⟩ <;> cases hr1 <;> rfl
    rw [hCr] at hA
    obtain ⟨kA, comp, k1, k2, k3, -⟩ := hA.2.1
    have hcomp : comp = E.2.2.2.1.1 ci := Option.some.inj (k3.symm.trans hcls.1)
    subst hcomp
    obtain ⟨kC, hkC, -⟩ := hcls.2
    rw [eR_pos E (sh_pos hv).1]
    refine W.aast hx hb hcell (fun q h => by cases h) (fun h => by cases h) k1 k2 rfl hkC ⟨?_, ?_⟩ g1 (fun q h => by rw [g3] at h; cases h) (by rw [g2]; exact hkC) (by rw [g2]; exact va_assign hcls) rfl rfl hd (fun H1 e1 z1 o1 => ?_)
    · rw [z0, ltI ⟨by omega, h2⟩ r0]; omega
    · rw [arrV_size, tN h0 h2]; omega
    · exact z H1 _ (hE.store hs (by omega) h0 h2 (by rw [hvt]; exact (eR_pos E (sh_pos hv).1).symm) e1 z1 o1) (locs_app hlo)
/-- a step that makes one cell -/
theorem run_new {k n : Nat}
    (h : ∀ (p : Program) (e : Env) (R : Room) (s : State) (m : MethodId) (args : Array Value) (below : List Frame) (meth : Method) (c : Code) (H : Heap) (locs : List Loc) (cells slots : Nat) (Z : State → Prop) (lsA : Array Slot), MC E M p s m args meth c → Enc E σ H → cells + 1 ≤ R.cells → slots + n ≤ R.slots →
      (∀ H1, Enc E (al σ k n) H1 → W p E.1 e R s m args below meth c H1 locs (cells + 1) (slots + n) Z (F0 m pc' lsA (eS E st'))) → W p E.1 e R s m args below meth c H locs cells slots Z (F0 m pc lsA (eS E st)))
    (k : WP E M d pc' ls st' (al σ k n) Q) : WP E M d pc ls st σ Q := by
  obtain ⟨r, σ', ⟨h1, h2⟩, h3⟩ := k
  have hpre : σ.2 <+: (al σ k n).2 := List.prefix_append _ _
  have t1 := tot_le h1
  have l1 := h1.length_le
  rw [tot_al] at t1
  have l2 : (al σ k n).2.length = σ.2.length + 1 := by simp [al]
  refine ⟨r, σ', ⟨hpre.trans h1, fun σ0 hp p e s m args below meth c hM H locs lsA hE hlo hl => ?_⟩, h3⟩
  have t0 := tot_le hp
  have l0 := hp.length_le
  refine h p e _ s m args below meth c H locs _ _ _ lsA hM hE ?_ ?_ (fun H1 hE1 => ?_)
  · show nC σ0 σ + 1 ≤ nC σ0 σ'
    unfold nC; omega
  · show nS σ0 σ + n ≤ nS σ0 σ'
    unfold nS; omega
  · have h4 := h2 σ0 (hp.trans hpre) p e s m args below meth c hM H1 locs lsA hE1 hlo hl
    have e1 : nC σ0 (al σ k n) = nC σ0 σ + 1 := by unfold nC; omega
    have e2 : nS σ0 (al σ k n) = nS σ0 σ + n := by unfold nS; rw [tot_al]; omega
    rw [e1, e2] at h4
    exact h4
theorem Enc_al {H H1 : Heap} {k n : Nat} (hE : Enc E σ H) (hz : H1.size = H.size + 1) (ho : ∀ q, q < H.size → H1[q]? = H[q]?) (hc : cellOK E k n H.size (fun _ => 0) H1) : Enc E (al σ k n) H1 := by
  obtain ⟨e1, e2, e3⟩ := hE
  refine ⟨by rw [hz, e1]; simp [al]; omega, fun q hq => ?_, fun i k' n' h' => ?_⟩
  · rw [ho q (by omega)]; exact e2 q hq
  · by_cases hi : i < σ.2.length
    · have h2 : σ.2[i]? = some (k', n') := by
        have : (al σ k n).2[i]? = σ.2[i]? := List.getElem?_append_left hi
        rw [← this]; exact h'
      have e5 : (al σ k n).1 ((i : Int) + 1) = σ.1 ((i : Int) + 1) := by
        funext j
        have : ¬ ((i : Int) + 1 = nx σ) := by unfold nx; omega
        simp [al, this]
      rw [e5]
      exact (e3 i k' n' h2).kept (ho _ (by omega))
    · have h3 : i < (al σ k n).2.length := (List.getElem?_eq_some_iff.mp h').1
      have h4 : i = σ.2.length := by simp [al] at h3; omega
      subst h4
      have h5 : (al σ k n).2[σ.2.length]? = some (k, n) := by simp [al]
      rw [h5] at h'
      cases h'
      have e5 : (al σ k n).1 ((σ.2.length : Int) + 1) = fun _ => 0 := by
        funext j
        simp [al, nx]
      rw [e5, ← e1]
      exact hc
theorem dfV (E : EV) {ty : FieldType} (hty : ty = .int ∨ ty = .long ∨ ty = .boolean ∨ ty = .byte ∨ (∃ n, ty = .object n) ∨ ∃ t, ty = .array t) : defaultValue ty = eV E (tagT ty, 0) := by
  rcases hty with rfl | rfl | rfl | rfl | ⟨n, rfl⟩ | ⟨t, rfl⟩ <;> rfl
theorem eR_nx (E : EV) {H : Heap} (hE : Enc E σ H) : eR E (nx σ) = .ref H.size := by
  rw [eR_pos E (by unfold nx; omega), hE.1]
  have h1 : ((σ.2.length : Int) + 1 - 1).toNat = σ.2.length := by omega
  unfold eA nx
  rw [h1]
theorem s_new {ci N idx : Nat} {C : String} {T : u_T} (hd : decode M.2.1 pc = .ok (.new idx, 3)) (hci : ci < 20) (hc : vwCl[ci]? = some (C, T, N)) (hin : ∀ w ∈ u_ws C T N, w ∈ lw_good) (htys : ∀ j, j < N → parseFieldDescriptor (T j).2.2.1 = some (tyX ci j)) (hty : ∀ j, j < N → defaultValue (tyX ci j) = eV E (tagT (tyX ci j), 0))
    (w1 : Cond.classLink M.1.cls idx C ∈ lw_tbl) (w2 : Cond.instantiable C N ∈ lw_tbl) (w3 : Cond.initialized C ∈ lw_tbl) (k : WP E M d (pc + 3) ls (aP (nx σ) :: st) (al σ ci N) Q) : WP E M d pc ls st σ Q := by
  refine run_new (fun p e R s m args below meth c H locs cells slots Z lsA hM hE hcs hss z => ?_) k
  obtain ⟨hx, hb, hml, hr, hown, hts, hlk, hnam, hEn⟩ := hM
  have hKn := hEn.1.1 ci _ hc
  refine W.newcK hx hb hown (hts _ (lg_mem w1 rfl)) (hts _ (lg_mem w2 rfl)) (hts _ (lg_mem w3 rfl)) rfl hd hcs hss hKn.2.1 rfl (fun H1 kC hkC e1 z1 o1 => ?_)
  have hz := z H1 (Enc_al hE z1 o1 (by
    unfold cellOK
    rw [if_pos hci]
    exact ⟨_, hc, rfl, (u_born (tyX ci) hts hin hKn hkC e1 htys).to (fun j hj => by rw [hty j hj]; unfold vtag; rw [if_pos hci])⟩))
  rw [show eS E (aP (nx σ) :: st) = Value.ref H.size :: eS E st by show eR E (nx σ) :: _ = _; rw [eR_nx E hE]] at hz
  exact hz
theorem s_newarray {atype : ArrayType} {kd : Nat} {n : Int} (hd : decode M.2.1 pc = .ok (.newarray atype, 2)) (hk : kd = 20 ∧ atype = .int ∨ kd = 21 ∧ atype = .byte ∨ kd = 22 ∧ atype = .long ∨ kd = 23 ∧ atype = .boolean) (w1 : Cond.arrayClass (newarray.typeOf atype) ∈ lw_tbl) (hn : 0 ≤ n ∧ n ≤ 1000000) (k : WP E M d (pc + 2) ls (aP (nx σ) :: st) (al σ kd n.toNat) Q) : WP E M d pc ls (aI n :: st) σ Q := by
  refine run_new (fun p e R s m args below meth c H locs cells slots Z lsA hM hE hcs hss z => ?_) k
  obtain ⟨hx, hb, hml, hr, hown, hts, hlk, hnam, hEn⟩ := hM
  have hA := hEn.2.1 kd (by omega) (by omega)
  have hel : eltT kd = newarray.typeOf atype := by rcases hk with ⟨rfl, rfl⟩ | ⟨rfl, rfl⟩ | ⟨rfl, rfl⟩ | ⟨rfl, rfl⟩ <;> rfl
  have hcb : componentBytes (newarray.typeOf atype) ≤ 8 := by rcases hk with ⟨-, rfl⟩ | ⟨-, rfl⟩ | ⟨-, rfl⟩ | ⟨-, rfl⟩ <;> decide
  show W p E.1 e R s m args below meth c H locs cells slots Z (F0 m pc lsA (.int (Int32.ofInt n) :: eS E st))
  refine va_newaK (N := n.toNat) hx hb (hts _ (lg_mem w1 rfl)) rfl hd rfl (by rw [z0, ltI ⟨by omega, by omega⟩ r0]; omega) (tN hn.1 (by omega)) ?_ hcs hss rfl (fun H1 cA e1 z1 o1 hAr hNm => ?_)
  · calc n.toNat * componentBytes (newarray.typeOf atype) ≤ 1000000 * 8 := Nat.mul_le_mul (by omega) hcb
      _ ≤ 536870912 := by decide
  · have hcA : cA = E.2.2.2.2.1 kd := by
      have h2 := hA.2.1
      rcases hk with ⟨rfl, rfl⟩ | ⟨rfl, rfl⟩ | ⟨rfl, rfl⟩ | ⟨rfl, rfl⟩ <;> exact Option.some.inj (hNm.symm.trans h2)
    have hz := z H1 (Enc_al hE z1 o1 (by
      unfold cellOK
      rw [if_neg (by omega), e1, hcA]
      congr 1
      congr 1
      funext j
      unfold vtag
      rw [if_neg (by omega), hel]
      apply dfV
      rcases hk with ⟨-, rfl⟩ | ⟨-, rfl⟩ | ⟨-, rfl⟩ | ⟨-, rfl⟩ <;> simp [newarray.typeOf]))
    rw [show eS E (aP (nx σ) :: st) = Value.ref H.size :: eS E st by show eR E (nx σ) :: _ = _; rw [eR_nx E hE]] at hz
    exact hz
theorem s_anewarray {kd idx : Nat} {C : String} {n : Int} (hd : decode M.2.1 pc = .ok (.anewarray idx, 3)) (hk : kd = 24 ∨ kd = 25 ∨ kd = 26) (hC : eltT kd = .object C) (w1 : Cond.classLink M.1.cls idx C ∈ lw_tbl) (hn : 0 ≤ n ∧ n ≤ 1000000) (k : WP E M d (pc + 3) ls (aP (nx σ) :: st) (al σ kd n.toNat) Q) : WP E M d pc ls (aI n :: st) σ Q := by
  refine run_new (fun p e R s m args below meth c H locs cells slots Z lsA hM hE hcs hss z => ?_) k
  obtain ⟨hx, hb, hml, hr, hown, hts, hlk, hnam, hEn⟩ := hM
  have hA := hEn.2.1 kd (by omega) (by omega)
  rw [hC] at hA
  show W p E.1 e R s m args below meth c H locs cells slots Z (F0 m pc lsA (.int (Int32.ofInt n) :: eS E st))
  have hnn := tN hn.1 (show n ≤ 2147483647 by omega)
  refine W.anew hx hb hown (hts _ (lg_mem w1 rfl)) (va_AO.use (hA.2.2 C rfl)) rfl hd rfl (by rw [z0, ltI ⟨by omega, by omega⟩ r0]; omega) (by rw [hnn]; omega) hcs (by rw [hnn]; exact hss) (fun cA kA comp f1 f2 f3 f4 => ?_)
  obtain ⟨kA', comp', k1, k2, k3, k4⟩ := hA.2.1
  have hcA : cA = E.2.2.2.2.1 kd := Option.some.inj (f1.symm.trans k4)
  rw [hnn]
  have hz := z (H.push { cls := cA, slots := Array.replicate n.toNat .null, vm := .none }) (Enc_al hE (by simp) (fun q hq => by rw [Array.getElem?_push, if_neg (by omega)]) (by
    unfold cellOK
    rw [if_neg (by omega), Array.getElem?_push, if_pos rfl, hcA]
    congr 1
    unfold arrV
    congr 1
    apply Array.ext
    · simp
    · intro j h1 h2
      simp
      unfold vtag
      rw [if_neg (by omega), hC]
      rfl))
  rw [show eS E (aP (nx σ) :: st) = Value.ref H.size :: eS E st by show eR E (nx σ) :: _ = _; rw [eR_nx E hE]] at hz
  exact hz
end Alloc
