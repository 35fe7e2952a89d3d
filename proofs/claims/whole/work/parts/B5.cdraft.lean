/-! THE DRAFT -/
def CdB (b : Int) (σ : St) (a : Int) (L : List Int) : Prop := (b < a ∧ b < σ.1 a 0) ∧ Cd σ a L
def dX (a c : Int) : List (Int × Int) := [(c, -1), (a, 1)]
def DrS (σ : St) (a c : Int) : Prop := (a ≤ 92 ∧ c ≤ 92 ∧ a ≠ c) ∧ sh σ a = some (1, 2) ∧ σ.1 a 0 = c ∧ sh σ c = some (21, 24)
def Sy (K : List Int) : Prop := ∀ x ∈ K, 0 ≤ x ∧ x ≤ 65
def DrIs (σ : St) (a c : Int) (K : List Int) : Prop := DrS σ a c ∧ σ.1 a 1 = K.length ∧ At (σ.1 c) 0 K ∧ K.length ≤ 24 ∧ Sy K
theorem dX_lt {a c : Int} (h : a ≤ 92 ∧ c ≤ 92 ∧ a ≠ c) : ltX 92 (dX a c) := by
  intro p hp
  simp [dX] at hp
  rcases hp with rfl | rfl
  · exact h.2.1
  · exact h.1
theorem CdB.cf {n m : Nat} {X : List (Int × Int)} {σ τ : St} {b s : Int} {L : List Int} (hc : CdB b σ s L) (h : Cf n m X σ τ) (hX : ltX b X) : CdB b τ s L := by
  obtain ⟨⟨h1, h2⟩, h3, h4, h5⟩ := hc
  have e1 := h.old hX h1 h3
  have e2 := h.old hX h2 h4
  exact ⟨⟨h1, by rw [e1]; exact h2⟩, sh_pre h.1 h3, by rw [e1]; exact sh_pre h.1 h4, by rw [e1, e2]; exact h5⟩
theorem bmod_sy {x : Int} (h : 0 ≤ x ∧ x ≤ 65) : Int.bmod x 256 = x := by apply Int.bmod_eq_of_le <;> omega
section CDraft
variable {E : EV} {d : Nat} {σ : St} {a c : Int} {K : List Int}
theorem fr_wc {v k : Int} : Fr (dX a c) σ (wr σ c k v) := Fr.wr (frO_a (by simp [dX]) _)
theorem fr_wa {v : Int} : Fr (dX a c) σ (wr σ a 1 v) := Fr.wr (frO_k (by simp [dX]))
theorem DrS.fr {τ : St} (h : DrS σ a c) (hf : Fr (dX a c) σ τ) : DrS τ a c := by
  obtain ⟨h1, h2, h3, h4⟩ := h
  have e : sh τ = sh σ := by funext b; unfold sh; rw [hf.1]
  refine ⟨h1, by rw [e]; exact h2, ?_, by rw [e]; exact h4⟩
  rw [hf.2 a 0 (by simp [dX, frO]; exact h1.2.2)]
  exact h3
theorem c_Draft_clear (h : DrS σ a c) : WMv E m_Draft_clear d [aP a] σ (fun τ => Fr (dX a c) σ τ ∧ DrIs τ a c []) :=
  e_Draft_clear _ ⟨h.2.1, rfl, List.prefix_refl _, fr_wa, h.fr fr_wa, wr_same _ _ _ _, At.nil _ _, by simp, by simp [Sy]⟩
theorem Sy.app {A B : List Int} (h : Sy A) (h2 : Sy B) : Sy (A ++ B) := fun x hx => (List.mem_append.mp hx).elim (h x) (h2 x)
theorem Sy.of {A B : List Int} (h : Sy (A ++ B)) : Sy A ∧ Sy B := ⟨fun x hx => h x (List.mem_append_left _ hx), fun x hx => h x (List.mem_append_right _ hx)⟩
theorem Sy.cons {x : Int} {B : List Int} (h : 0 ≤ x ∧ x ≤ 65) (h2 : Sy B) : Sy (x :: B) := fun y hy => (List.mem_cons.mp hy).elim (fun q => q ▸ h) (h2 y)
theorem c_Draft_putAhead {A B : List Int} {x p : Int} (h : DrIs σ a c (A ++ B)) (hp : p = A.length) (hn : (A ++ B).length < 24) (hx : 0 ≤ x ∧ x ≤ 65) : WMv E m_Draft_putAhead d [aP a, aI p, aI x] σ (fun τ => Fr (dX a c) σ τ ∧ DrIs τ a c (A ++ x :: B)) := by
  obtain ⟨hs, h1, h2, h3, h4⟩ := h
  have hl : (A ++ B).length = A.length + B.length := by simp
  have hb := bmod_sy hx
  subst hp
  refine e_Draft_putAhead _ _ _ ⟨by omega, fun q => by omega, fun _ => ⟨hs.2.1, by omega, by omega, fun q => by omega, fun _ => ⟨hs.2.1, by omega, fun _ => ⟨hs.2.1, ?_⟩, fun q => by omega⟩⟩⟩
  rw [h1]
  refine lpd (A.length : Int) (fun k τ => WP E m_Draft_putAhead d 27 [(0, aP a), (1, aI A.length), (2, aI x), (3, aI k)] [] τ _) (fun k τ => (A.length ≤ k ∧ k ≤ (A ++ B).length) ∧ Fr [(c, -1)] σ τ ∧ (∀ j : Int, j ≤ k → τ.1 c j = σ.1 c j) ∧ ∀ j : Int, k < j → j ≤ (A ++ B).length → τ.1 c j = σ.1 c (j - 1)) (fun k τ hI ih => ?_) _ σ ⟨by omega, Fr.refl _ _, fun _ _ => rfl, fun j q1 q2 => by omega⟩
  obtain ⟨i1, i2, i3, i4⟩ := hI
  have i2' : Fr (dX a c) σ τ := i2.mono (by simp [frL, dX])
  have hsT := hs.fr i2'
  have e1 : τ.1 a 1 = (A ++ B).length := by rw [i2.2 a 1 (by simp [frO]; exact hs.1.2.2)]; exact h1
  refine b_Draft_putAhead_27 _ _ _ _ ⟨by omega, by omega, fun q => ?_, fun q => ?_⟩
  · rw [hb, hsT.2.2.1]
    refine ⟨hsT.2.1, ⟨_, hsT.2.2.2, by omega, by omega, by omega⟩, by omega, hsT.2.1, hsT.2.1, rfl, pre_eq i2.1, ?_⟩
    have hf : Fr (dX a c) σ (wr (wr τ c A.length x) a 1 ((wr τ c A.length x).1 a 1 + 1)) := (i2'.tr fr_wc).tr fr_wa
    refine ⟨hf, hs.fr hf, ?_, ?_, by simp; omega, ?_⟩
    · rw [wr_same, wr_na _ hs.1.2.2, e1]; simp; omega
    · have e2 : ∀ j, (wr (wr τ c A.length x) a 1 ((wr τ c A.length x).1 a 1 + 1)).1 c j = if j = A.length then x else τ.1 c j := by
        intro j
        rw [wr_na _ (Ne.symm hs.1.2.2), wr_at]
        by_cases q : j = A.length <;> simp [q]
      rw [At.app, At.cons]
      have h2' := At.app.mp h2
      refine ⟨h2'.1.congr (fun i hi => ?_), ?_, h2'.2.move (fun i hi => ?_)⟩
      · rw [e2, if_neg (by omega), i3 _ (by omega)]
      · rw [e2, if_pos (by omega)]
      · rw [e2, if_neg (by omega), i4 _ (by omega) (by omega)]
        rw [show (0 : Int) + A.length + 1 + i - 1 = 0 + A.length + i by omega]
    · exact (Sy.of h4).1.app (Sy.cons hx (Sy.of h4).2)
  · have hv : σ.1 c (k - 1) = (A ++ B).getD (k - 1).toNat 0 := h2.r (by omega) (by omega)
    have hr := h4 _ (getD_mem (L := A ++ B) (k := (k - 1).toNat) (by omega))
    rw [hsT.2.2.1]
    refine ⟨hsT.2.1, hsT.2.1, ⟨_, hsT.2.2.2, by omega, by omega, by omega⟩, ⟨_, hsT.2.2.2, by omega, by omega, by omega⟩, by rw [i3 _ (by omega)]; omega, ih (by omega) _ ⟨by omega, i2.tr (Fr.wr (frO_a (by simp) _)), fun j q1 => ?_, fun j q1 q2 => ?_⟩⟩
    · rw [wr_nk _ (by omega)]; exact i3 j (by omega)
    · rw [wr_at]
      by_cases q3 : j = k
      · rw [if_pos ⟨rfl, q3⟩, i3 _ (by omega), q3]
      · rw [if_neg (fun z => q3 z.2)]; exact i4 j (by omega) q2
theorem c_Draft_put {x : Int} (h : DrIs σ a c K) (hn : K.length < 24) (hx : 0 ≤ x ∧ x ≤ 65) : WMv E m_Draft_put (d + 1) [aP a, aI x] σ (fun τ => Fr (dX a c) σ τ ∧ DrIs τ a c (K ++ [x])) := by
  have h0 : DrIs σ a c (K ++ []) := by rw [List.append_nil]; exact h
  refine e_Draft_put _ _ ⟨h.1.2.1, h.1.2.1, WMv.mono (c_Draft_putAhead (B := []) h0 h.2.1 (by simpa using hn) hx) (fun τ hp hq => ⟨rfl, hp, hq⟩)⟩
theorem c_Draft_putAll {s from_ to : Int} {A D B : List Int} (h : DrIs σ a c K) (hc : CdB 92 σ s (A ++ (D ++ B))) (hS : Sy D) (hL : (A ++ (D ++ B)).length ≤ 1000) (h1 : from_ = A.length) (h2 : to = A.length + D.length) (hn : K.length + D.length ≤ 24) : WMv E m_Draft_putAll (d + 2) [aP a, aP s, aI from_, aI to] σ (fun τ => Fr (dX a c) σ τ ∧ DrIs τ a c (K ++ D)) := by
  have hl : (A ++ (D ++ B)).length = A.length + (D.length + B.length) := by simp
  subst h1; subst h2
  refine e_Draft_putAll _ _ _ _ ?_
  refine lpu ((A.length : Int) + D.length) (fun k τ => WP E m_Draft_putAll (d + 2) 3 [(0, aP a), (1, aP s), (3, aI ((A.length : Int) + D.length)), (4, aI k)] [] τ _) (fun k τ => (A.length ≤ k ∧ k ≤ (A.length : Int) + D.length) ∧ Fr (dX a c) σ τ ∧ DrIs τ a c (K ++ D.take (k - A.length).toNat)) (fun k τ hI ih => ?_) _ σ ⟨by omega, Fr.refl _ _, by simpa using h⟩
  obtain ⟨i1, i2, i3⟩ := hI
  have hcT := hc.cf (i2.cf 0 0) (dX_lt h.1.1)
  refine b_Draft_putAll_3 _ _ _ _ ⟨by omega, by omega, fun q => ⟨rfl, pre_eq i2.1, i2, ?_⟩, fun q => ⟨hcT.2.1, wmi_p (c_Sq_length hcT.2) ⟨by omega, by omega, fun q2 => by omega, fun q2 => ⟨hcT.2.1, wmi_p (c_Sq_symbol hcT.2 hL (by omega)) ?_⟩⟩⟩⟩
  · rw [List.take_of_length_le (by omega)] at i3; exact i3
  · rw [if_pos (by omega)]
    have e : (A ++ (D ++ B)).getD k.toNat 0 = D.getD (k - A.length).toNat 0 := by
      rw [List.getD_eq_getElem?_getD, List.getD_eq_getElem?_getD, List.getElem?_append_right (by omega), List.getElem?_append_left (by omega), show k.toNat - A.length = (k - A.length).toNat by omega]
    rw [e]
    have hm := hS _ (getD_mem (L := D) (k := (k - A.length).toNat) (by omega))
    have hlt : (D.take (k - A.length).toNat).length = (k - A.length).toNat := by rw [List.length_take]; omega
    refine ⟨i3.1.2.1, WMv.mono (c_Draft_put i3 (by rw [List.length_append, hlt]; omega) hm) (fun υ hp hq => ih (by omega) υ ⟨by omega, i2.tr hq.1, ?_⟩)⟩
    have e2 : K ++ D.take (k + 1 - A.length).toNat = K ++ D.take (k - A.length).toNat ++ [D.getD (k - A.length).toNat 0] := by
      rw [show (k + 1 - A.length).toNat = (k - A.length).toNat + 1 by omega, List.take_succ, List.getElem?_eq_getElem (by omega), List.getD_eq_getElem?_getD, List.getElem?_eq_getElem (by omega)]
      simp
    rw [e2]
    exact hq.2
theorem c_Draft_take {s : Int} {L : List Int} (h : DrS σ a c) (hc : CdB 92 σ s L) (hS : Sy L) (hL : L.length ≤ 24) : WMv E m_Draft_take (d + 3) [aP a, aP s] σ (fun τ => Fr (dX a c) σ τ ∧ DrIs τ a c L) := by
  refine e_Draft_take _ _ ⟨h.2.1, WMv.mono (c_Draft_clear h) (fun τ hp hq => ?_)⟩
  have hcT := hc.cf (hq.1.cf 0 0) (dX_lt h.1)
  have hcT' : CdB 92 τ s ([] ++ (L ++ [])) := by simpa using hcT
  refine ⟨hcT.2.1, wmi_p (c_Sq_length hcT.2) ⟨hq.2.1.2.1, WMv.mono (c_Draft_putAll hq.2 hcT' hS (by simp; omega) rfl (by simp) (by simpa using hL)) (fun υ hp2 hq2 => ⟨rfl, hp.trans hp2, hq.1.tr hq2.1, by simpa using hq2.2⟩)⟩⟩
theorem c_Draft_change {p : Nat} {x : Int} (h : DrIs σ a c K) (hp : p < K.length) (hx : 0 ≤ x ∧ x ≤ 65) : WMv E m_Draft_change d [aP a, aI p, aI x] σ (fun τ => Fr (dX a c) σ τ ∧ DrIs τ a c (K.set p x)) := by
  obtain ⟨hs, h1, h2, h3, h4⟩ := h
  have hb := bmod_sy hx
  refine e_Draft_change _ _ _ ⟨by omega, fun q => by omega, fun _ => ⟨hs.2.1, by omega, by omega, fun q => by omega, fun _ => ?_⟩⟩
  rw [hb, hs.2.2.1]
  refine ⟨hs.2.1, ⟨_, hs.2.2.2, by omega, by omega, by omega⟩, by omega, rfl, List.prefix_refl _, fr_wc, hs.fr fr_wc, ?_, ?_, by simpa using h3, ?_⟩
  · rw [wr_na _ hs.1.2.2, h1]; simp
  · intro i hi
    rw [List.length_set] at hi
    rw [wr_at, List.getD_eq_getElem?_getD, List.getElem?_set]
    by_cases q : p = i
    · subst q; rw [if_pos ⟨rfl, by omega⟩, if_pos rfl, if_pos hi]; rfl
    · rw [if_neg (fun z => q (by omega)), if_neg q, h2 i hi, List.getD_eq_getElem?_getD]
  · intro y hy
    rcases List.mem_or_eq_of_mem_set hy with q | rfl
    · exact h4 y q
    · exact hx
theorem c_Draft_made (h : DrIs σ a c K) (hn : K.length < 24) : WMr E m_Draft_made (d + 2) [aP a] σ (fun r τ => r = nx σ ∧ Cf 2 (1 + K.length) [] σ τ ∧ CdB σ.2.length τ r K) := by
  obtain ⟨hs, h1, h2, h3, h4⟩ := h
  have la := sh_len hs.2.1
  have lc := sh_len hs.2.2.2
  have ea : (al σ 7 1).1 a 0 = c := by rw [al_old (by omega)]; exact hs.2.2.1
  have ea1 : (al σ 7 1).1 a 1 = K.length := by rw [al_old (by omega)]; exact h1
  have hv : ∀ i : Nat, i < K.length → (al σ 7 1).1 c i = K.getD i 0 := fun i hi => by rw [al_old (by omega), h2.r (by omega) (by omega)]; rfl
  refine e_Draft_made _ ⟨sh_al hs.2.1, sh_al hs.2.1, ?_⟩
  rw [ea, ea1]
  refine WMr.mono (c_Arrays_copyOf (sh_al hs.2.2.2) hn (by omega) (fun i hi => ?_)) (fun r τ hp hq => ?_)
  · rw [hv i hi]
    have := h4 _ (getD_mem hi)
    omega
  · obtain ⟨rfl, rfl⟩ := hq
    have hnx : nx (al σ 7 1) = nx σ + 1 := by simp [nx, al]
    have hnx0 : nx σ = σ.2.length + 1 := rfl
    refine ⟨nx_pos _, e_Sq_init _ _ ⟨nx_pos _, ?_, rfl, List.prefix_refl _, ?_⟩⟩
    · show sh (al (al σ 7 1) 21 K.length) (nx σ) = _
      exact sh_al (sh_nx _ _ _)
    · have hpre : σ.2 <+: (al (al σ 7 1) 21 K.length).2 := (List.prefix_append _ _).trans (List.prefix_append _ _)
      refine ⟨_, rfl, hpre, rfl, ⟨hpre, ⟨by show (al (al σ 7 1) 21 K.length).2.length ≤ _; simp [al], by show tot (al (al σ 7 1) 21 K.length) ≤ _; rw [tot_al, tot_al]; omega⟩, fun b k hb _ => ?_⟩, ⟨by omega, by rw [wr_same]; omega⟩, ?_, ?_, ?_⟩
      · rw [wr_na _ (by omega)]
        show (if b = nx (al σ 7 1) then _ else (al (al σ 7 1) 21 K.length).1 b k) = _
        rw [if_neg (by omega), al_old (by simp [al]; omega), al_old hb]
      · show sh (al (al σ 7 1) 21 K.length) (nx σ) = _
        exact sh_al (sh_nx _ _ _)
      · rw [wr_same]
        exact sh_nx (al σ 7 1) 21 K.length
      · rw [wr_same]
        intro i hi
        rw [wr_na _ (by omega)]
        show (if nx (al σ 7 1) = nx (al σ 7 1) then (if 0 ≤ (0 : Int) + i ∧ (0 : Int) + i < K.length then (al (al σ 7 1) 21 K.length).1 c (0 + i) else _) else _) = _
        rw [if_pos rfl, if_pos (by omega), al_old (by simp [al]; omega), show (0 : Int) + i = i by omega, hv i hi]
end CDraft
