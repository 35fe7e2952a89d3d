/-! THE CLASS: frames where cells are made (n cells, m slots at most), cells that are never changed -/
def Cf (n m : Nat) (X : List (Int × Int)) (σ τ : St) : Prop := σ.2 <+: τ.2 ∧ (τ.2.length ≤ σ.2.length + n ∧ tot τ ≤ tot σ + m) ∧ ∀ a k : Int, a ≤ σ.2.length → frO X a k = true → τ.1 a k = σ.1 a k
theorem Cf.refl (n m : Nat) (X : List (Int × Int)) (σ : St) : Cf n m X σ σ := ⟨List.prefix_refl _, ⟨by omega, by omega⟩, fun _ _ _ _ => rfl⟩
theorem Fr.cf {X : List (Int × Int)} {σ τ : St} (h : Fr X σ τ) (n m : Nat) : Cf n m X σ τ := ⟨pre_eq h.1, by unfold tot; rw [h.1]; exact ⟨by omega, by omega⟩, fun a k _ hk => h.2 a k hk⟩
theorem Cf.tr {n m n' m' : Nat} {X : List (Int × Int)} {σ τ υ : St} (h : Cf n m X σ τ) (h2 : Cf n' m' X τ υ) : Cf (n + n') (m + m') X σ υ := by
  have l := h.1.length_le
  exact ⟨h.1.trans h2.1, ⟨by have := h.2.1.1; have := h2.2.1.1; omega, by have := h.2.1.2; have := h2.2.1.2; omega⟩, fun a k ha hk => (h2.2.2 a k (by omega) hk).trans (h.2.2 a k ha hk)⟩
theorem Cf.mono {n m n' m' : Nat} {X Y : List (Int × Int)} {σ τ : St} (h : Cf n m X σ τ) (hn : n ≤ n') (hm : m ≤ m') (hXY : frL X Y = true) : Cf n' m' Y σ τ := ⟨h.1, ⟨by have := h.2.1.1; omega, by have := h.2.1.2; omega⟩, fun a k ha hk => h.2.2 a k ha (frO_mono hXY hk)⟩
theorem sh_pre {σ τ : St} (hp : σ.2 <+: τ.2) {a : Int} {q : Nat × Nat} (h : sh σ a = some q) : sh τ a = some q := by
  obtain ⟨h1, h2⟩ := sh_pos h
  unfold sh
  rw [if_pos h1]
  obtain ⟨L, hL⟩ := hp
  rw [← hL, List.getElem?_append_left (List.getElem?_eq_some_iff.mp h2).1]
  exact h2
theorem sh_len {σ : St} {a : Int} {q : Nat × Nat} (h : sh σ a = some q) : 0 < a ∧ a ≤ σ.2.length := by
  obtain ⟨h1, h2⟩ := sh_pos h
  have := (List.getElem?_eq_some_iff.mp h2).1
  exact ⟨h1, by omega⟩
theorem ln_of {σ : St} {a : Int} {k n : Nat} (h : sh σ a = some (k, n)) : ln σ a = n := by unfold ln; rw [h]
theorem Cf.fix {n m : Nat} {X : List (Int × Int)} {σ τ : St} (h : Cf n m X σ τ) (hF : Fix σ) (hX : FF.all (fun q => frO X q.1 q.2.1) = true) : Fix τ := by
  have hl := hF.len
  have h92 : FF.all (fun q => decide (q.1 ≤ 92)) = true := by decide
  exact hF.of h.1 (fun q hq => h.2.2 _ _ (by have := of_decide_eq_true (List.all_eq_true.mp h92 q hq); omega) (List.all_eq_true.mp hX q hq))
theorem Cf.al_ (σ : St) (k n : Nat) (X : List (Int × Int)) : Cf 1 n X σ (al σ k n) := ⟨List.prefix_append _ _, ⟨by simp [al], by rw [tot_al]; omega⟩, fun a j ha _ => if_neg (by unfold nx; omega)⟩
/-- writing into what was made since -/
theorem Cf.new {n m : Nat} {X : List (Int × Int)} {σ τ : St} (h : Cf n m X σ τ) {a k v : Int} (ha : σ.2.length < a) : Cf n m X σ (wr τ a k v) := ⟨h.1, h.2.1, fun b j hb hj => (wr_na _ (by omega)).trans (h.2.2 b j hb hj)⟩
theorem Cf.wr_ {n m : Nat} {X : List (Int × Int)} {σ τ : St} (h : Cf n m X σ τ) {a k v : Int} (ha : ∀ b j, frO X b j = true → ¬ (b = a ∧ j = k)) : Cf n m X σ (wr τ a k v) := ⟨h.1, h.2.1, fun b j hb hj => (if_neg (ha b j hj)).trans (h.2.2 b j hb hj)⟩
theorem sh_al {σ : St} {k n : Nat} {a : Int} {q : Nat × Nat} (h : sh σ a = some q) : sh (al σ k n) a = some q := sh_pre (List.prefix_append _ _) h
theorem sh_nx (σ : St) (k n : Nat) : sh (al σ k n) (nx σ) = some (k, n) := by
  unfold sh nx
  rw [if_pos (by omega)]
  simp [al]
theorem nx_pos (σ : St) : 0 < nx σ := by unfold nx; omega
theorem al_nx (σ : St) (k n : Nat) (i : Int) : (al σ k n).1 (nx σ) i = 0 := if_pos rfl
theorem al_old {σ : St} {k n : Nat} {a i : Int} (h : a ≤ σ.2.length) : (al σ k n).1 a i = σ.1 a i := if_neg (by unfold nx; omega)
theorem sh_wr (σ : St) (a k v b : Int) : sh (wr σ a k v) b = sh σ b := rfl
theorem ln_wr (σ : St) (a k v b : Int) : ln (wr σ a k v) b = ln σ b := rfl
/-- addresses of what is never changed -/
def imA (a : Int) : Prop := (2 ≤ a ∧ a ≤ 8) ∨ 92 < a
def imX (X : List (Int × Int)) : Bool := X.all (fun p => p.1 == 1 || (decide (8 < p.1) && decide (p.1 ≤ 92)))
def ltX (b : Int) (X : List (Int × Int)) : Prop := ∀ p ∈ X, p.1 ≤ b
theorem imX_o {X : List (Int × Int)} (h : imX X = true) {a : Int} (ha : imA a) (k : Int) : frO X a k = true := by
  unfold frO
  rw [List.all_eq_true]
  intro p hp
  have h1 := List.all_eq_true.mp h p hp
  simp only [Bool.or_eq_true, Bool.and_eq_true, beq_iff_eq, decide_eq_true_eq, bne_iff_ne] at h1 ⊢
  left
  rcases ha with ha | ha <;> omega
theorem ltX_o {X : List (Int × Int)} {b : Int} (h : ltX b X) {a : Int} (ha : b < a) (k : Int) : frO X a k = true := by
  unfold frO
  rw [List.all_eq_true]
  intro p hp
  have h1 := h p hp
  simp only [Bool.or_eq_true, bne_iff_ne]
  left
  omega
theorem imX_lt {X : List (Int × Int)} (h : imX X = true) {b : Int} (hb : 92 ≤ b) : ltX b X := by
  intro p hp
  have h1 := List.all_eq_true.mp h p hp
  simp only [Bool.or_eq_true, Bool.and_eq_true, beq_iff_eq, decide_eq_true_eq] at h1
  omega
/-- a square's cell with its code; a square, a line, a moment behind b; a table -/
def Cd (σ : St) (a : Int) (L : List Int) : Prop := sh σ a = some (7, 1) ∧ sh σ (σ.1 a 0) = some (21, L.length) ∧ At (σ.1 (σ.1 a 0)) 0 L
def SqC (b : Int) (σ : St) (a : Int) (t : Tr) : Prop := (b < a ∧ b < σ.1 a 0) ∧ Cd σ a (cC t)
def LnC (b : Int) (σ : St) (a : Int) (L : Ln) : Prop := (b < a ∧ b < σ.1 a 0) ∧ sh σ a = some (3, 2) ∧ sh σ (σ.1 a 0) = some (24, L.2.length) ∧ σ.1 a 1 = (if L.1 then 1 else 0) ∧ ∀ (s : Nat) (t : Tr), L.2[s]? = some t → SqC b σ (σ.1 (σ.1 a 0) s) t
def MoC (b : Int) (σ : St) (a : Int) (M : Mo) : Prop := (imA a ∧ imA (σ.1 a 0)) ∧ sh σ a = some (4, 3) ∧ sh σ (σ.1 a 0) = some (25, M.2.2.length) ∧ (σ.1 a 1 = M.1 ∧ σ.1 a 2 = M.2.1) ∧ ∀ (l : Nat) (L : Ln), M.2.2[l]? = some L → LnC b σ (σ.1 (σ.1 a 0) l) L
def TabC (σ : St) (a : Int) (T : Tb) : Prop := (imA a ∧ imA (σ.1 a 0) ∧ imA (σ.1 a 1) ∧ imA (σ.1 a 2) ∧ imA (σ.1 a 3)) ∧ sh σ a = some (8, 4) ∧ (sh σ (σ.1 a 0) = some (21, 26) ∧ sh σ (σ.1 a 1) = some (21, 26) ∧ sh σ (σ.1 a 2) = some (21, 26) ∧ sh σ (σ.1 a 3) = some (21, 26)) ∧ ∀ l : Nat, l < 26 → σ.1 (σ.1 a 0) l = (T l).1 ∧ σ.1 (σ.1 a 1) l = (T l).2.1 ∧ σ.1 (σ.1 a 2) l = (T l).2.2.1 ∧ σ.1 (σ.1 a 3) l = (T l).2.2.2
section CFrame
variable {n m : Nat} {X : List (Int × Int)} {σ τ : St} {b a : Int}
/-- what a frame leaves where b bounds what it names -/
theorem Cf.old (h : Cf n m X σ τ) (hX : ltX b X) (ha : b < a) {q : Nat × Nat} (hs : sh σ a = some q) : τ.1 a = σ.1 a := funext fun k => h.2.2 a k (sh_len hs).2 (ltX_o hX ha k)
theorem Cf.oldI (h : Cf n m X σ τ) (hX : imX X = true) (ha : imA a) {q : Nat × Nat} (hs : sh σ a = some q) : τ.1 a = σ.1 a := funext fun k => h.2.2 a k (sh_len hs).2 (imX_o hX ha k)
theorem SqC.cf {t : Tr} (hc : SqC b σ a t) (h : Cf n m X σ τ) (hX : ltX b X) : SqC b τ a t := by
  obtain ⟨⟨h1, h2⟩, h3, h4, h5⟩ := hc
  have e1 := h.old hX h1 h3
  have e2 := h.old hX h2 h4
  exact ⟨⟨h1, by rw [e1]; exact h2⟩, sh_pre h.1 h3, by rw [e1]; exact sh_pre h.1 h4, by rw [e1, e2]; exact h5⟩
theorem LnC.cf {L : Ln} (hc : LnC b σ a L) (h : Cf n m X σ τ) (hX : ltX b X) : LnC b τ a L := by
  obtain ⟨⟨h1, h2⟩, h3, h4, h5, h6⟩ := hc
  have e1 := h.old hX h1 h3
  have e2 := h.old hX h2 h4
  exact ⟨⟨h1, by rw [e1]; exact h2⟩, sh_pre h.1 h3, by rw [e1]; exact sh_pre h.1 h4, by rw [e1]; exact h5, fun s t hs => by rw [e1, e2]; exact (h6 s t hs).cf h hX⟩
theorem MoC.cf {M : Mo} (hc : MoC b σ a M) (h : Cf n m X σ τ) (hX : imX X = true) (hb : 92 ≤ b) : MoC b τ a M := by
  obtain ⟨⟨h1, h2⟩, h3, h4, h5, h6⟩ := hc
  have e1 := h.oldI hX h1 h3
  have e2 := h.oldI hX h2 h4
  exact ⟨⟨h1, by rw [e1]; exact h2⟩, sh_pre h.1 h3, by rw [e1]; exact sh_pre h.1 h4, by rw [e1]; exact h5, fun s t hs => by rw [e1, e2]; exact (h6 s t hs).cf h (imX_lt hX hb)⟩
theorem TabC.cf {T : Tb} (hc : TabC σ a T) (h : Cf n m X σ τ) (hX : imX X = true) : TabC τ a T := by
  obtain ⟨⟨i0, i1, i2, i3, i4⟩, h3, ⟨s1, s2, s3, s4⟩, h6⟩ := hc
  have e0 := h.oldI hX i0 h3
  have e1 := h.oldI hX i1 s1
  have e2 := h.oldI hX i2 s2
  have e3 := h.oldI hX i3 s3
  have e4 := h.oldI hX i4 s4
  refine ⟨by rw [e0]; exact ⟨i0, i1, i2, i3, i4⟩, sh_pre h.1 h3, by rw [e0]; exact ⟨sh_pre h.1 s1, sh_pre h.1 s2, sh_pre h.1 s3, sh_pre h.1 s4⟩, fun l hl => ?_⟩
  rw [e0, e1, e2, e3, e4]
  exact h6 l hl
/-- what lies behind one bound lies behind a smaller one -/
theorem SqC.lo {c : Int} {t : Tr} (h : SqC b σ a t) (hc : c ≤ b) : SqC c σ a t := ⟨⟨by have := h.1.1; omega, by have := h.1.2; omega⟩, h.2⟩
theorem MoC.ln {M : Mo} {l : Int} {L : Ln} (h : MoC b σ a M) (hl : lnAt M l = some L) : (0 ≤ l ∧ l < M.2.2.length) ∧ LnC b σ (σ.1 (σ.1 a 0) l) L := by
  obtain ⟨h1, h2, h3⟩ := lnAt_some hl
  have := h.2.2.2.2 _ _ h2
  rw [show ((l.toNat : Nat) : Int) = l by omega] at this
  exact ⟨⟨h1, h3⟩, this⟩
theorem LnC.sq {L : Ln} {s : Int} {t : Tr} (h : LnC b σ a L) (hs : sqIn L s = some t) : (0 ≤ s ∧ s < L.2.length) ∧ SqC b σ (σ.1 (σ.1 a 0) s) t := by
  obtain ⟨h1, h2, h3⟩ := sqIn_some hs
  have := h.2.2.2.2 _ _ h2
  rw [show ((s.toNat : Nat) : Int) = s by omega] at this
  exact ⟨⟨h1, h3⟩, this⟩
end CFrame
section CTab
variable {E : EV} {d : Nat} {σ : St} {T : Tb} {a l : Int}
/-- what a table says of a letter, 0 where there is none -/
def tW (e : Int × Int × Int × Int) : Int := e.1
def tH (e : Int × Int × Int × Int) : Int := e.2.1
def tU (e : Int × Int × Int × Int) : Int := e.2.2.1
def tV (e : Int × Int × Int × Int) : Int := e.2.2.2
def tb (f : Int × Int × Int × Int → Int) (T : Tb) (l : Int) : Int := if 0 ≤ l ∧ l < 26 then f (T l.toNat) else 0
theorem okTab.r (h : okTab T) (l : Nat) (hl : l < 26) : (0 ≤ (T l).1 ∧ (T l).1 ≤ 12) ∧ (0 ≤ (T l).2.1 ∧ (T l).2.1 ≤ 12) ∧ (0 ≤ (T l).2.2.1 ∧ (T l).2.2.1 ≤ 12) ∧ 0 ≤ (T l).2.2.2 ∧ (T l).2.2.2 ≤ 12 := by
  have := h l hl
  omega
theorem c_Table_sizeIn (hs : sh σ a = some (21, 26)) (h1 : rI l) : WMi E m_Table_sizeIn d [aP a, aI l] σ (fun r τ => r = (if 0 ≤ l ∧ l < 26 then σ.1 a l else 0) ∧ τ = σ) := by
  refine e_Table_sizeIn _ _ ⟨h1, fun c => ri_p (if_neg (by omega)).symm, fun c => ⟨⟨26, hs⟩, h1, by rw [ln_of hs]; decide, fun c2 => ri_p ?_, fun c2 => ⟨?_, ri_p ?_⟩⟩⟩
  · rw [ln_of hs] at c2; rw [if_neg (by omega)]
  · rw [ln_of hs] at c2; exact ⟨26, hs, by omega, by omega, by omega⟩
  · rw [ln_of hs] at c2; rw [if_pos (by omega)]
theorem sizeIn_tb {f : Int × Int × Int × Int → Int} {c : Int} (hf : ∀ l : Nat, l < 26 → σ.1 c l = f (T l)) : (if 0 ≤ l ∧ l < 26 then σ.1 c l else 0) = tb f T l := by
  unfold tb
  split
  · have := hf l.toNat (by omega)
    rw [show ((l.toNat : Nat) : Int) = l by omega] at this
    exact this
  · rfl
theorem tb_r {f : Int × Int × Int × Int → Int} (hf : ∀ l : Nat, l < 26 → 0 ≤ f (T l) ∧ f (T l) ≤ 12) : 0 ≤ tb f T l ∧ tb f T l ≤ 12 := by
  unfold tb
  split
  · exact hf _ (by omega)
  · omega
theorem c_Table_has (h : TabC σ a T) (hk : okTab T) (h1 : rI l) : WMi E m_Table_has (d + 1) [aP a, aI l] σ (fun r τ => r = b2i (0 < tb tW T l) ∧ τ = σ) := by
  have hr := tb_r (l := l) (f := tW) (fun l hl => (hk.r l hl).1)
  refine e_Table_has _ _ ⟨h.2.1, wmi_p (c_Table_sizeIn h.2.2.1.1 h1) ?_⟩
  rw [sizeIn_tb (f := tW) (fun l hl => (h.2.2.2 l hl).1)]
  exact ⟨by omega, fun c => ri_p (b2i_f (by omega)).symm, fun c => ri_p (b2i_t (by omega)).symm⟩
theorem c_Table_hasCore (h : TabC σ a T) (hk : okTab T) (h1 : rI l) : WMi E m_Table_hasCore (d + 1) [aP a, aI l] σ (fun r τ => r = b2i (0 < tb tU T l) ∧ τ = σ) := by
  have hr := tb_r (l := l) (f := tU) (fun l hl => (hk.r l hl).2.2.1)
  refine e_Table_hasCore _ _ ⟨h.2.1, wmi_p (c_Table_sizeIn h.2.2.1.2.2.1 h1) ?_⟩
  rw [sizeIn_tb (f := tU) (fun l hl => (h.2.2.2 l hl).2.2.1)]
  exact ⟨by omega, fun c => ri_p (b2i_f (by omega)).symm, fun c => ri_p (b2i_t (by omega)).symm⟩
theorem c_Table_wideOf (h : TabC σ a T) (h1 : rI l) : WMi E m_Table_wideOf (d + 1) [aP a, aI l] σ (fun r τ => r = tb tW T l ∧ τ = σ) := by
  refine e_Table_wideOf _ _ ⟨h.2.1, wmi_p (c_Table_sizeIn h.2.2.1.1 h1) ?_⟩
  rw [sizeIn_tb (f := tW) (fun l hl => (h.2.2.2 l hl).1)]
  exact ri_p rfl
theorem c_Table_highOf (h : TabC σ a T) (h1 : rI l) : WMi E m_Table_highOf (d + 1) [aP a, aI l] σ (fun r τ => r = tb tH T l ∧ τ = σ) := by
  refine e_Table_highOf _ _ ⟨h.2.1, wmi_p (c_Table_sizeIn h.2.2.1.2.1 h1) ?_⟩
  rw [sizeIn_tb (f := tH) (fun l hl => (h.2.2.2 l hl).2.1)]
  exact ri_p rfl
theorem c_Table_coreWideOf (h : TabC σ a T) (h1 : rI l) : WMi E m_Table_coreWideOf (d + 1) [aP a, aI l] σ (fun r τ => r = tb tU T l ∧ τ = σ) := by
  refine e_Table_coreWideOf _ _ ⟨h.2.1, wmi_p (c_Table_sizeIn h.2.2.1.2.2.1 h1) ?_⟩
  rw [sizeIn_tb (f := tU) (fun l hl => (h.2.2.2 l hl).2.2.1)]
  exact ri_p rfl
theorem c_Table_coreHighOf (h : TabC σ a T) (h1 : rI l) : WMi E m_Table_coreHighOf (d + 1) [aP a, aI l] σ (fun r τ => r = tb tV T l ∧ τ = σ) := by
  refine e_Table_coreHighOf _ _ ⟨h.2.1, wmi_p (c_Table_sizeIn h.2.2.1.2.2.2 h1) ?_⟩
  rw [sizeIn_tb (f := tV) (fun l hl => (h.2.2.2 l hl).2.2.2)]
  exact ri_p rfl
theorem c_Table_filled {p : Nat → Bool} (hs : sh σ a = some (21, 26)) (hp : ∀ l : Nat, l < 26 → rI (σ.1 a l) ∧ (p l = true ↔ 0 < σ.1 a l)) : WMi E m_Table_filled d [aP a] σ (fun r τ => r = nL p 26 ∧ τ = σ) := by
  refine e_Table_filled _ ⟨⟨26, hs⟩, ?_⟩
  rw [ln_of hs]
  refine lpu 26 (fun k τ => ∀ n : Nat, n = nL p k.toNat → WP E m_Table_filled d 10 [(1, aI n), (2, aP a), (3, aI (26 : Nat)), (4, aI k)] [] τ _) (fun k τ => (0 ≤ k ∧ k ≤ 26) ∧ τ = σ) (fun k τ hI ih n hn => ?_) 0 σ ⟨by omega, rfl⟩ 0 rfl
  obtain ⟨i1, rfl⟩ := hI
  refine b_Table_filled_10 _ _ _ _ ⟨by omega, by decide, fun c => ri_p ?_, fun c => ?_⟩
  · rw [hn, show k.toNat = 26 by omega]
  · have h1 := hp k.toNat (by omega)
    rw [show ((k.toNat : Nat) : Int) = k by omega] at h1
    have e : nL p (k + 1).toNat = nL p k.toNat + (if p k.toNat then 1 else 0) := by rw [show (k + 1).toNat = k.toNat + 1 by omega]; rfl
    refine ⟨⟨26, hs, by omega, by omega, by omega⟩, h1.1, fun c2 => ?_, fun c2 => ?_⟩
    · refine b_Table_filled_33 _ _ _ _ _ ?_
      have hq : ¬ p k.toNat = true := fun q => by have := h1.2.mp q; omega
      rw [if_neg hq] at e
      have := ih (by omega) _ ⟨by omega, rfl⟩ n (by omega)
      rw [show (n : Int) + 0 = n by omega]
      exact this
    · refine b_Table_filled_33 _ _ _ _ _ ?_
      rw [if_pos (h1.2.mpr (by omega))] at e
      have := ih (by omega) _ ⟨by omega, rfl⟩ (n + 1) (by omega)
      rw [show (n : Int) + 1 = ((n + 1 : Nat) : Int) by omega]
      exact this
theorem c_Table_told (h : TabC σ a T) (hk : okTab T) : WMi E m_Table_told (d + 1) [aP a] σ (fun r τ => r = nL (fun l => decide (0 < (T l).1)) 26 ∧ τ = σ) := by
  refine e_Table_told _ ⟨h.2.1, wmi_p (c_Table_filled (p := fun l => decide (0 < (T l).1)) h.2.2.1.1 (fun l hl => ?_)) (ri_p rfl)⟩
  rw [(h.2.2.2 l hl).1]
  have := (hk.r l hl).1
  exact ⟨by omega, by simp⟩
theorem c_Table_cores (h : TabC σ a T) (hk : okTab T) : WMi E m_Table_cores (d + 1) [aP a] σ (fun r τ => r = nL (fun l => decide (0 < (T l).2.2.1)) 26 ∧ τ = σ) := by
  refine e_Table_cores _ ⟨h.2.1, wmi_p (c_Table_filled (p := fun l => decide (0 < (T l).2.2.1)) h.2.2.1.2.2.1 (fun l hl => ?_)) (ri_p rfl)⟩
  rw [(h.2.2.2 l hl).2.2.1]
  have := (hk.r l hl).2.2.1
  exact ⟨by omega, by simp⟩
end CTab
