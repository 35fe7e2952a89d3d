def sh (σ : St) (a : Int) : Option (Nat × Nat) := if 0 < a then σ.2[(a - 1).toNat]? else none
def wr (σ : St) (a i v : Int) : St := (fun a' i' => if a' = a ∧ i' = i then v else σ.1 a' i', σ.2)
def eA (E : EV) (a : Int) : Nat := eBase E + (a - 1).toNat
def inb (σ : St) (a : Int) (k : Nat) (i : Int) : Prop := ∃ n : Nat, sh σ a = some (k, n) ∧ 0 ≤ i ∧ i < n ∧ i ≤ 2147483647
theorem sh_pos {σ : St} {a : Int} {q : Nat × Nat} (h : sh σ a = some q) : 0 < a ∧ σ.2[(a - 1).toNat]? = some q := by
  unfold sh at h
  split at h
  · exact ⟨by assumption, h⟩
  · cases h
theorem eR_pos (E : EV) {a : Int} (h : 0 < a) : eR E a = .ref (eA E a) := by
  unfold eR eA
  rw [if_neg (by omega), if_pos h]
theorem cellOK.kept {E : EV} {k n a : Nat} {f : Int → Int} {H H1 : Heap} (h : cellOK E k n a f H) (hq : H1[a]? = H[a]?) : cellOK E k n a f H1 := by
  unfold cellOK at h ⊢
  split
  · rw [if_pos (by assumption)] at h
    obtain ⟨r, h1, h2, h3⟩ := h
    exact ⟨r, h1, h2, h3.kept hq⟩
  · rw [if_neg (by assumption)] at h
    exact hq.trans h
theorem Enc.cell {E : EV} {σ : St} {H : Heap} {a : Int} {k n : Nat} (hE : Enc E σ H) (h : sh σ a = some (k, n)) : cellOK E k n (eA E a) (σ.1 a) H := by
  obtain ⟨h0, h1⟩ := sh_pos h
  have h2 := hE.2.2 _ _ _ h1
  have e1 : (((a - 1).toNat : Nat) : Int) + 1 = a := by omega
  rw [e1] at h2
  exact h2
theorem Enc_wr {E : EV} {σ : St} {H H1 : Heap} {a i v : Int} {k n : Nat} (hE : Enc E σ H) (hs : sh σ a = some (k, n)) (hz : H1.size = H.size) (ho : ∀ q, q ≠ eA E a → H1[q]? = H[q]?) (hc : cellOK E k n (eA E a) (fun j => if j = i then v else σ.1 a j) H1) : Enc E (wr σ a i v) H1 := by
  obtain ⟨h0, h1⟩ := sh_pos hs
  obtain ⟨e1, e2, e3⟩ := hE
  refine ⟨by rw [hz]; exact e1, fun q hq => ?_, fun i' k' n' h' => ?_⟩
  · rw [ho q (by unfold eA; omega)]
    exact e2 q hq
  · have h'' : σ.2[i']? = some (k', n') := h'
    by_cases hi : i' = (a - 1).toNat
    · subst hi
      rw [h1] at h''
      cases h''
      have e4 : (((a - 1).toNat : Nat) : Int) + 1 = a := by omega
      have e5 : (wr σ a i v).1 a = fun j => if j = i then v else σ.1 a j := by
        funext j
        simp [wr]
      rw [e4, e5]
      exact hc
    · have h4 := (e3 i' k' n' h'').kept (H1 := H1) (ho _ (by unfold eA; omega))
      have e5 : (wr σ a i v).1 ((i' : Int) + 1) = σ.1 ((i' : Int) + 1) := by
        funext j
        unfold wr
        have : ¬ ((i' : Int) + 1 = a ∧ j = i) := by omega
        simp [this]
      rw [e5]
      exact h4

section Heap
variable {E : EV} {M : MI} {d pc pc' : Nat} {ls ls' : List (Nat × AV)} {st st' : List AV} {σ : St} {Q : Option AV → St → Prop}
/-- a step that may write into cells -/
theorem run_mem {σ1 : St} (hs : σ1.2 = σ.2)
    (h : ∀ (p : Program) (e : Env) (R : Room) (s : State) (m : MethodId) (args : Array Value) (below : List Frame) (meth : Method) (c : Code) (H : Heap) (locs : List Loc) (cells slots : Nat) (Z : State → Prop) (lsA : Array Slot), MC E M p s m args meth c → Enc E σ H → (∀ q ∈ locs, eBase E ≤ q.base) → lv_has lsA M.2.2.1 (eL E ls) →
      (∀ H1 locs1, Enc E σ1 H1 → (∀ q ∈ locs1, eBase E ≤ q.base) → W p E.1 e R s m args below meth c H1 locs1 cells slots Z (F0 m pc' lsA (eS E st'))) → W p E.1 e R s m args below meth c H locs cells slots Z (F0 m pc lsA (eS E st)))
    (k : WP E M d pc' ls st' σ1 Q) : WP E M d pc ls st σ Q := by
  obtain ⟨r, σ', ⟨h1, h2⟩, h3⟩ := k
  rw [hs] at h1
  refine ⟨r, σ', ⟨h1, fun σ0 hp p e s m args below meth c hM H locs lsA hE hlo hl => h p e _ s m args below meth c H locs _ _ _ lsA hM hE hlo hl (fun H1 locs1 hE1 hlo1 => ?_)⟩, h3⟩
  have h4 := h2 σ0 (by rw [hs]; exact hp) p e s m args below meth c hM H1 locs1 lsA hE1 hlo1 hl
  have e1 : nC σ0 σ1 = nC σ0 σ := by unfold nC; rw [hs]
  have e2 : nS σ0 σ1 = nS σ0 σ := by unfold nS tot; rw [hs]
  rw [e1, e2] at h4
  exact h4
/-- a field's place in its class's table, linked at a place of a class's pool -/
def FL (own : String) (idx ci N k : Nat) : Prop := ci < 20 ∧ k < N ∧ ∃ (C : String) (T : u_T), vwCl[ci]? = some (C, T, N) ∧ (∀ w ∈ u_ws C T N, w ∈ lw_good) ∧ (∀ j, j < N → parseFieldDescriptor (T j).2.2.1 = some (tyX ci j)) ∧ (∀ x, x < N → ∀ y, y < N → x ≠ y → (T x).2.1 ≠ (T y).2.1) ∧
  (Cond.fieldLink own idx (T k).1 (T k).2.1 (T k).2.2.1 ∈ lw_tbl ∨ ∃ host, Cond.fieldLinkNest own idx (T k).1 (T k).2.1 (T k).2.2.1 host ∈ lw_tbl)
theorem nest_mem {w : Cond} (h : w ∈ lw_tbl) (hw : isNest w = true) : w ∈ lw_nest := List.mem_filter.mpr ⟨h, hw⟩
theorem s_getfield {ci N k t idx : Nat} {a : Int} (hd : decode M.2.1 pc = .ok (.getfield idx, 3)) (hf : FL M.1.cls idx ci N k) (ht : vtag ci k = t) (ha : sh σ a = some (ci, N)) (kk : WP E M d (pc + 3) ls ((t, σ.1 a k) :: st) σ Q) : WP E M d pc ls (aP a :: st) σ Q := by
  subst ht
  obtain ⟨hci, hk, C, T, hc, hin, hty, hnm, hlink⟩ := hf
  refine run_mem (σ1 := σ) rfl (fun p e R s m args below meth c H locs cells slots Z lsA hM hE hlo hl z => ?_) kk
  obtain ⟨hx, hb, hml, hr, hown, hts, hlk, hnam, hEn⟩ := hM
  have hcell := hE.cell ha
  unfold cellOK at hcell
  rw [if_pos hci] at hcell
  obtain ⟨r, h1, -, cell, q1, q2, q3, q4⟩ := hcell
  have hz := z H locs hE hlo
  obtain ⟨hS, hfc, kC, hkC, hkind⟩ := hEn.1.1 ci _ hc
  obtain ⟨cf, kf, fi, f, hi, hsl⟩ := hS k hk
  show W p E.1 e R s m args below meth c H locs cells slots Z (F0 m pc lsA (eR E a :: eS E st))
  rw [eR_pos E (sh_pos ha).1]
  rcases hlink with hlink | ⟨host, hlink⟩
  · exact W.getf hx hb hown (hts _ (lg_mem hlink rfl)) hi (u_facts hfc hkC (u_lays hts hin hk) hi).1 q1 (by rw [q3]; exact fun h => by cases h) (v := eV E (vtag ci k, σ.1 a k)) (by rw [hsl, q4 k hk]) rfl rfl hd hz
  · exact va_Wgetf hx hb hown (va_Nw.use rfl (hEn.2.2.1 _ (nest_mem hlink rfl))) hi (u_facts hfc hkC (u_lays hts hin hk) hi).1 q1 (by rw [q3]; exact fun h => by cases h) (v := eV E (vtag ci k, σ.1 a k)) (by rw [hsl, q4 k hk]) rfl rfl hd hz
theorem bool01 {v : Int} (h : v = 0 ∨ v = 1) : narrow .boolean (.int (Int32.ofInt v)) = .int (Int32.ofInt v) := by
  rcases h with rfl | rfl <;> rfl
theorem fitsV (E : EV) (ty : FieldType) (v : Int) (hty : ty = .int ∨ ty = .long ∨ ty = .boolean ∨ (∃ n, ty = .object n) ∨ ∃ t, ty = .array t) (hb : ty = .boolean → v = 0 ∨ v = 1) : narrow ty (eV E (tagT ty, v)) = eV E (tagT ty, v) ∧ fits ty (eV E (tagT ty, v)) = true := by
  rcases hty with rfl | rfl | rfl | ⟨n, rfl⟩ | ⟨t, rfl⟩
  · exact ⟨rfl, rfl⟩
  · exact ⟨rfl, rfl⟩
  · refine ⟨bool01 (hb rfl), ?_⟩
    rcases hb rfl with rfl | rfl <;> rfl
  · show narrow _ (eR E v) = eR E v ∧ fits _ (eR E v) = true
    rcases eR_cases E v with ⟨-, e0⟩ | ⟨-, a, e0⟩ <;> rw [e0] <;> exact ⟨rfl, rfl⟩
  · show narrow _ (eR E v) = eR E v ∧ fits _ (eR E v) = true
    rcases eR_cases E v with ⟨-, e0⟩ | ⟨-, a, e0⟩ <;> rw [e0] <;> exact ⟨rfl, rfl⟩
theorem updV_eV (E : EV) {ci k : Nat} (f : Int → Int) (v : Int) : updV (fun j => eV E (vtag ci j, f j)) k (eV E (vtag ci k, v)) = fun j : Nat => eV E (vtag ci j, if (j : Int) = (k : Int) then v else f j) := by
  funext j
  unfold updV
  by_cases h : j = k
  · subst h; simp
  · have : ¬ ((j : Int) = (k : Int)) := by omega
    rw [if_neg h, if_neg this]
theorem s_putfield {ci N k t idx : Nat} {a v : Int} (hd : decode M.2.1 pc = .ok (.putfield idx, 3)) (hf : FL M.1.cls idx ci N k) (hfin : ∀ C T, vwCl[ci]? = some (C, T, N) → (T k).2.2.2 = false ∨ ((T k).2.2.2 = true ∧ M.1.name = "<init>" ∧ (T k).1 = M.1.cls ∧ Cond.fieldLink M.1.cls idx (T k).1 (T k).2.1 (T k).2.2.1 ∈ lw_tbl)) (ht : vtag ci k = t)
    (hty : tyX ci k = .int ∨ tyX ci k = .long ∨ tyX ci k = .boolean ∨ (∃ n, tyX ci k = .object n) ∨ ∃ t, tyX ci k = .array t) (hbo : tyX ci k = .boolean → v = 0 ∨ v = 1) (ha : sh σ a = some (ci, N)) (kk : WP E M d (pc + 3) ls st (wr σ a k v) Q) : WP E M d pc ls ((t, v) :: aP a :: st) σ Q := by
  subst ht
  obtain ⟨hci, hk, C, T, hc, hin, htys, hnm, hlink⟩ := hf
  refine run_mem (σ1 := wr σ a k v) rfl (fun p e R s m args below meth c H locs cells slots Z lsA hM hE hlo hl z => ?_) kk
  obtain ⟨hx, hb, hml, hr, hown, hts, hlk, hnam, hEn⟩ := hM
  have hcell := hE.cell ha
  have hcell0 := hcell
  unfold cellOK at hcell
  rw [if_pos hci] at hcell
  obtain ⟨r, h1, hrn, cell, q1, q2, q3, q4⟩ := hcell
  have hap := va_apart (own := M.1.cls) hts hin (tyX ci) htys hnm hEn.1 hc
  obtain ⟨hS, hfc, kC, hkC, hkind⟩ := hEn.1.1 ci _ hc
  obtain ⟨cf, kf, fi, f, hi, hsl⟩ := hS k hk
  have hvt : vtag ci k = tagT (tyX ci k) := by unfold vtag; rw [if_pos hci]
  have hnf : narrow (tyX ci k) (eV E (vtag ci k, v)) = eV E (vtag ci k, v) ∧ fits (tyX ci k) (eV E (vtag ci k, v)) = true := by
    rw [hvt]; exact fitsV E _ v hty hbo
  show W p E.1 e R s m args below meth c H locs cells slots Z (F0 m pc lsA (eV E (vtag ci k, v) :: eR E a :: eS E st))
  rw [eR_pos E (sh_pos ha).1]
  have hst := (u_facts hfc hkC (u_lays hts hin hk) hi).1
  have fin : ∀ H' : Heap, H'[eA E a]? = some (cell.setSlot f.slot (eV E (vtag ci k, v))) → H'.size = H.size → (∀ q, q ≠ eA E a → H'[q]? = H[q]?) → W p E.1 e R s m args below meth c H' (locs ++ [⟨eA E a, f.slot⟩]) cells slots Z (F0 m (pc + 3) lsA (eS E st)) := by
    intro H' e1 e2 e3
    refine z H' _ (Enc_wr hE ha e2 e3 ?_) (fun q hq => ?_)
    · unfold cellOK
      rw [if_pos hci]
      rw [hsl] at e1
      refine ⟨r, h1, hrn, ?_⟩
      have := t_set q4 hap hk (eV E (vtag ci k, v))
      rw [updV_eV] at this
      exact ⟨_, e1, q2, q3, this⟩
    · rcases List.mem_append.mp hq with h | h
      · exact hlo q h
      · rw [List.mem_singleton] at h
        subst h
        exact Nat.le_add_right _ _
  rcases hfin C T hc with hff | ⟨hff, hin2, hdecl, hfl⟩
  · have hlay := hts _ (hin _ (u_in_lay hk))
    unfold u_lay at hlay
    rw [if_neg (by rw [hff]; decide)] at hlay
    have h6 := u_store hfc hkC hkind hlay hi (htys k hk) hnf.1 hnf.2
    rcases hlink with hlink | ⟨host, hlink⟩
    · exact W.putK hx hb (f := f) ⟨hown, hts _ (lg_mem hlink rfl), ⟨_, _, _, hi⟩, hst⟩ (by rw [q2]; exact h6) q1 q3 (by rw [hsl]; exact k2_hasslot (q4 k hk)) rfl rfl hd fin
    · exact va_WputK hx hb (f := f) hown (va_Nw.use rfl (hEn.2.2.1 _ (nest_mem hlink rfl))) hi hst (by rw [q2]; exact h6) q1 q3 (by rw [hsl]; exact k2_hasslot (q4 k hk)) rfl rfl hd fin
  · have hlay := hts _ (hin _ (u_in_lay hk))
    unfold u_lay at hlay
    rw [if_pos hff] at hlay
    have hcf : m.cls = cf := by
      obtain ⟨_, _, c', _, _, _, -, -, hf', -, -, -, hown2, -⟩ := Cond.laysFinal_spec hlay
      have e1 : c' = cf := by have := hi.symm.trans hf'; simp at this; exact this.1.symm
      rw [hdecl] at hown2
      rw [← e1]; exact Option.some.inj (hown.symm.trans hown2)
    have h6 := u_fits hfc hkC hkind (Or.inr hlay) hi (htys k hk) hnf.1 hnf.2
    exact W.putFinK hx hb hown (hts _ (lg_mem hfl rfl)) hi hst hcf (hnam.trans hin2) (by rw [q2]; exact h6) q1 q3 (by rw [hsl]; exact k2_hasslot (q4 k hk)) rfl rfl hd fin
end Heap
