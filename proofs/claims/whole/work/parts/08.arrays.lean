section Arrays
variable {E : EV} {M : MI} {d pc pc' : Nat} {ls ls' : List (Nat × AV)} {st st' : List AV} {σ : St} {Q : Option AV → St → Prop}
theorem tN {i : Int} (h0 : 0 ≤ i) (h1 : i ≤ 2147483647) : (Int32.ofInt i).toNatClampNeg = i.toNat := by
  show (Int32.ofInt i).toInt.toNat = i.toNat
  rw [tI ⟨by omega, h1⟩]
theorem inN {i : Int} {n : Nat} (h0 : 0 ≤ i) (h1 : i ≤ 2147483647) (h2 : i < n) : ¬ (Int32.ofInt i < 0 ∨ n ≤ (Int32.ofInt i).toNatClampNeg) := by
  rw [tN h0 h1, z0, ltI ⟨by omega, h1⟩ r0]
  omega
theorem Enc.arr {H : Heap} {a : Int} {k n : Nat} (hE : Enc E σ H) (h : sh σ a = some (k, n)) (hk : 20 ≤ k) : H[eA E a]? = some (arrV (E.2.2.2.2.1 k) n (fun j => eV E (vtag k j, σ.1 a j))) := by
  have h1 := hE.cell h
  unfold cellOK at h1
  rw [if_neg (by omega)] at h1
  exact h1
theorem s_iaload {a i : Int} (hd : decode M.2.1 pc = .ok (.iaload, 1)) (ha : inb σ a 20 i) (k : WP E M d (pc + 1) ls (aI (σ.1 a i) :: st) σ Q) : WP E M d pc ls (aI i :: aP a :: st) σ Q := by
  obtain ⟨n, hs, h0, h1, h2⟩ := ha
  refine run_mem (σ1 := σ) rfl (fun p e R s m args below meth c H locs cells slots Z lsA hM hE hlo hl z => ?_) k
  obtain ⟨hx, hb, hml, hr, hown, hts, hlk, hnam, hEn⟩ := hM
  have hcell := hE.arr hs (by decide)
  show W p E.1 e R s m args below meth c H locs cells slots Z (F0 m pc lsA (.int (Int32.ofInt i) :: eR E a :: eS E st))
  rw [eR_pos E (sh_pos hs).1]
  refine W.iald hx hb hcell ((hEn.2.1 20 (by decide) (by decide)).1 _ _) (fun q => by cases q) (by rw [arrV_size]; exact inN h0 h2 h1) (v := eV E (vtag 20 i.toNat, σ.1 a (i.toNat : Int))) (by rw [tN h0 h2, arrV_read _ _ (by omega)]) rfl rfl hd ?_
  have hz := z H locs hE hlo
  rw [show ((i.toNat : Nat) : Int) = i by omega]
  exact hz
theorem s_baload {a i : Int} {kd : Nat} (hk : kd = 21 ∨ kd = 23) (hd : decode M.2.1 pc = .ok (.baload, 1)) (ha : inb σ a kd i) (k : WP E M d (pc + 1) ls (aI (σ.1 a i) :: st) σ Q) : WP E M d pc ls (aI i :: aP a :: st) σ Q := by
  obtain ⟨n, hs, h0, h1, h2⟩ := ha
  refine run_mem (σ1 := σ) rfl (fun p e R s m args below meth c H locs cells slots Z lsA hM hE hlo hl z => ?_) k
  obtain ⟨hx, hb, hml, hr, hown, hts, hlk, hnam, hEn⟩ := hM
  have hz := z H locs hE hlo
  show W p E.1 e R s m args below meth c H locs cells slots Z (F0 m pc lsA (.int (Int32.ofInt i) :: eR E a :: eS E st))
  rw [eR_pos E (sh_pos hs).1]
  rcases hk with rfl | rfl
  · have hcell := hE.arr hs (by decide)
    refine W.bald hx hb hcell ((hEn.2.1 21 (by decide) (by decide)).1 _ _) (fun q => by cases q) (by rw [arrV_size]; exact inN h0 h2 h1) (v := eV E (vtag 21 i.toNat, σ.1 a (i.toNat : Int))) (by rw [tN h0 h2, arrV_read _ _ (by omega)]) rfl rfl hd ?_
    rw [show ((i.toNat : Nat) : Int) = i by omega]
    exact hz
  · have hcell := hE.arr hs (by decide)
    refine W.zald hx hb hcell ((hEn.2.1 23 (by decide) (by decide)).1 _ _) (fun q => by cases q) (by rw [arrV_size]; exact inN h0 h2 h1) (v := eV E (vtag 23 i.toNat, σ.1 a (i.toNat : Int))) (by rw [tN h0 h2, arrV_read _ _ (by omega)]) rfl rfl hd ?_
    rw [show ((i.toNat : Nat) : Int) = i by omega]
    exact hz
theorem s_laload {a i : Int} (hd : decode M.2.1 pc = .ok (.laload, 1)) (ha : inb σ a 22 i) (k : WP E M d (pc + 1) ls (aL (σ.1 a i) :: st) σ Q) : WP E M d pc ls (aI i :: aP a :: st) σ Q := by
  obtain ⟨n, hs, h0, h1, h2⟩ := ha
  refine run_mem (σ1 := σ) rfl (fun p e R s m args below meth c H locs cells slots Z lsA hM hE hlo hl z => ?_) k
  obtain ⟨hx, hb, hml, hr, hown, hts, hlk, hnam, hEn⟩ := hM
  have hcell := hE.arr hs (by decide)
  show W p E.1 e R s m args below meth c H locs cells slots Z (F0 m pc lsA (.int (Int32.ofInt i) :: eR E a :: eS E st))
  rw [eR_pos E (sh_pos hs).1]
  refine W.lald hx hb hcell ((hEn.2.1 22 (by decide) (by decide)).1 _ _) (fun q => by cases q) (by rw [arrV_size]; exact inN h0 h2 h1) (v := eV E (vtag 22 i.toNat, σ.1 a (i.toNat : Int))) (by rw [tN h0 h2, arrV_read _ _ (by omega)]) rfl rfl hd ?_
  have hz := z H locs hE hlo
  rw [show ((i.toNat : Nat) : Int) = i by omega]
  exact hz
theorem s_aaload {a i : Int} {kd : Nat} (hk : kd = 24 ∨ kd = 25 ∨ kd = 26) (hd : decode M.2.1 pc = .ok (.aaload, 1)) (ha : inb σ a kd i) (k : WP E M d (pc + 1) ls (aP (σ.1 a i) :: st) σ Q) : WP E M d pc ls (aI i :: aP a :: st) σ Q := by
  obtain ⟨n, hs, h0, h1, h2⟩ := ha
  refine run_mem (σ1 := σ) rfl (fun p e R s m args below meth c H locs cells slots Z lsA hM hE hlo hl z => ?_) k
  obtain ⟨hx, hb, hml, hr, hown, hts, hlk, hnam, hEn⟩ := hM
  have hz := z H locs hE hlo
  have hcell := hE.arr hs (by omega)
  have hvt : ∀ j, vtag kd j = 2 := by rcases hk with rfl | rfl | rfl <;> intro j <;> rfl
  have hre : (eltT kd).isReference = true := by rcases hk with rfl | rfl | rfl <;> rfl
  show W p E.1 e R s m args below meth c H locs cells slots Z (F0 m pc lsA (.int (Int32.ofInt i) :: eR E a :: eS E st))
  rw [eR_pos E (sh_pos hs).1]
  refine W.aald (ty := eltT kd) hx hb hcell ((hEn.2.1 kd (by omega) (by omega)).1 _ _) hre (fun q => by cases q) (by rw [arrV_size]; exact inN h0 h2 h1) (v := eV E (vtag kd i.toNat, σ.1 a (i.toNat : Int))) (by rw [tN h0 h2, arrV_read _ _ (by omega)]) rfl rfl hd ?_
  rw [hvt, show ((i.toNat : Nat) : Int) = i by omega]
  exact hz
def ln (σ : St) (a : Int) : Int := match sh σ a with
  | some q => q.2
  | none => 0
theorem s_alen {a : Int} {kd n : Nat} (hk : 20 ≤ kd ∧ kd ≤ 26) (hd : decode M.2.1 pc = .ok (.arraylength, 1)) (hs : sh σ a = some (kd, n)) (k : WP E M d (pc + 1) ls (aI n :: st) σ Q) : WP E M d pc ls (aP a :: st) σ Q := by
  refine run_mem (σ1 := σ) rfl (fun p e R s m args below meth c H locs cells slots Z lsA hM hE hlo hl z => ?_) k
  obtain ⟨hx, hb, hml, hr, hown, hts, hlk, hnam, hEn⟩ := hM
  have hz := z H locs hE hlo
  have hcell := hE.arr hs hk.1
  show W p E.1 e R s m args below meth c H locs cells slots Z (F0 m pc lsA (eR E a :: eS E st))
  rw [eR_pos E (sh_pos hs).1]
  refine W.alen (n := Int32.ofInt n) hx hb hcell ((hEn.2.1 kd hk.1 hk.2).1 _ _) ?_ rfl rfl hd hz
  rw [arrV_size]
  rfl
theorem Enc.store {H H1 : Heap} {a i v : Int} {kd n : Nat} {w : Value} (hE : Enc E σ H) (hs : sh σ a = some (kd, n)) (hk : 20 ≤ kd) (h0 : 0 ≤ i) (h2 : i ≤ 2147483647) (hw : w = eV E (vtag kd i.toNat, v))
    (e1 : H1[eA E a]? = some ((arrV (E.2.2.2.2.1 kd) n (fun j => eV E (vtag kd j, σ.1 a j))).setSlot (Int32.ofInt i).toNatClampNeg w)) (hz : H1.size = H.size) (ho : ∀ q, q ≠ eA E a → H1[q]? = H[q]?) : Enc E (wr σ a i v) H1 := by
  refine Enc_wr hE hs hz ho ?_
  unfold cellOK
  rw [if_neg (by omega), e1, arrV_store, tN h0 h2, hw, updV_eV, show ((i.toNat : Nat) : Int) = i by omega]
theorem locs_app {locs : List Loc} {a : Int} {j : Nat} (h : ∀ q ∈ locs, eBase E ≤ q.base) : ∀ q ∈ locs ++ [(⟨eA E a, j⟩ : Loc)], eBase E ≤ q.base := by
  intro q hq
  rcases List.mem_append.mp hq with h1 | h1
  · exact h q h1
  · rw [List.mem_singleton] at h1
    subst h1
    exact Nat.le_add_right _ _
theorem s_iastore {a i v : Int} (hd : decode M.2.1 pc = .ok (.iastore, 1)) (ha : inb σ a 20 i) (k : WP E M d (pc + 1) ls st (wr σ a i v) Q) : WP E M d pc ls (aI v :: aI i :: aP a :: st) σ Q := by
  obtain ⟨n, hs, h0, h1, h2⟩ := ha
  refine run_mem (σ1 := wr σ a i v) rfl (fun p e R s m args below meth c H locs cells slots Z lsA hM hE hlo hl z => ?_) k
  obtain ⟨hx, hb, hml, hr, hown, hts, hlk, hnam, hEn⟩ := hM
  have hcell := hE.arr hs (by decide)
  show W p E.1 e R s m args below meth c H locs cells slots Z (F0 m pc lsA (.int (Int32.ofInt v) :: .int (Int32.ofInt i) :: eR E a :: eS E st))
  rw [eR_pos E (sh_pos hs).1]
  refine W.iast hx hb hcell ((hEn.2.1 20 (by decide) (by decide)).1 _ _) (fun q => by cases q) (by rw [arrV_size]; exact inN h0 h2 h1) rfl rfl hd (fun H1 e1 z1 o1 => ?_)
  exact z H1 _ (hE.store hs (by decide) h0 h2 rfl e1 z1 o1) (locs_app hlo)
theorem s_lastore {a i v : Int} (hd : decode M.2.1 pc = .ok (.lastore, 1)) (ha : inb σ a 22 i) (k : WP E M d (pc + 1) ls st (wr σ a i v) Q) : WP E M d pc ls (aL v :: aI i :: aP a :: st) σ Q := by
  obtain ⟨n, hs, h0, h1, h2⟩ := ha
  refine run_mem (σ1 := wr σ a i v) rfl (fun p e R s m args below meth c H locs cells slots Z lsA hM hE hlo hl z => ?_) k
  obtain ⟨hx, hb, hml, hr, hown, hts, hlk, hnam, hEn⟩ := hM
  have hcell := hE.arr hs (by decide)
  show W p E.1 e R s m args below meth c H locs cells slots Z (F0 m pc lsA (.long (Int64.ofInt v) :: .int (Int32.ofInt i) :: eR E a :: eS E st))
  rw [eR_pos E (sh_pos hs).1]
  refine W.last hx hb hcell ((hEn.2.1 22 (by decide) (by decide)).1 _ _) (fun q => by cases q) (by rw [arrV_size]; exact inN h0 h2 h1) rfl rfl hd (fun H1 e1 z1 o1 => ?_)
  exact z H1 _ (hE.store hs (by decide) h0 h2 rfl e1 z1 o1) (locs_app hlo)
theorem byteN {v : Int} (h : -128 ≤ v ∧ v ≤ 127) : narrow .byte (.int (Int32.ofInt v)) = .int (Int32.ofInt v) := by
  have e1 : (Int32.ofInt v).toInt8.toInt32 = Int32.ofInt v := by
    apply Int32.toInt.inj
    rw [tI ⟨by omega, by omega⟩]
    simp
    have e8 : Int8.size = 256 := rfl
    rw [e8]
    apply Int.bmod_eq_of_le <;> omega
  show Value.int _ = _
  rw [e1]
theorem s_bastore {a i v : Int} {kd : Nat} (hk : kd = 21 ∧ (-128 ≤ v ∧ v ≤ 127) ∨ kd = 23 ∧ (v = 0 ∨ v = 1)) (hd : decode M.2.1 pc = .ok (.bastore, 1)) (ha : inb σ a kd i) (k : WP E M d (pc + 1) ls st (wr σ a i v) Q) : WP E M d pc ls (aI v :: aI i :: aP a :: st) σ Q := by
  obtain ⟨n, hs, h0, h1, h2⟩ := ha
  refine run_mem (σ1 := wr σ a i v) rfl (fun p e R s m args below meth c H locs cells slots Z lsA hM hE hlo hl z => ?_) k
  obtain ⟨hx, hb, hml, hr, hown, hts, hlk, hnam, hEn⟩ := hM
  show W p E.1 e R s m args below meth c H locs cells slots Z (F0 m pc lsA (.int (Int32.ofInt v) :: .int (Int32.ofInt i) :: eR E a :: eS E st))
  rw [eR_pos E (sh_pos hs).1]
  rcases hk with ⟨rfl, hv⟩ | ⟨rfl, hv⟩
  · have hcell := hE.arr hs (by decide)
    refine W.bast hx hb hcell ((hEn.2.1 21 (by decide) (by decide)).1 _ _) (fun q => by cases q) (by rw [arrV_size]; exact inN h0 h2 h1) rfl rfl hd (fun H1 e1 z1 o1 => ?_)
    exact z H1 _ (hE.store hs (by decide) h0 h2 (byteN hv) e1 z1 o1) (locs_app hlo)
  · have hcell := hE.arr hs (by decide)
    refine W.zast hx hb hcell ((hEn.2.1 23 (by decide) (by decide)).1 _ _) (fun q => by cases q) (by rw [arrV_size]; exact inN h0 h2 h1) rfl rfl hd (fun H1 e1 z1 o1 => ?_)
    exact z H1 _ (hE.store hs (by decide) h0 h2 (bool01 hv) e1 z1 o1) (locs_app hlo)
end Arrays
