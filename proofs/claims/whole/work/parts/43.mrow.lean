theorem lpx {S : Type} (m : S → Nat) (W I : S → Prop) (h : ∀ s, I s → (∀ s', m s' < m s → I s' → W s') → W s) : ∀ s, I s → W s := by
  intro s
  generalize hn : m s = n
  induction n using Nat.strongRecOn generalizing s with
  | _ n ih => exact fun hI => h s hI (fun s' hs' => ih _ (by omega) s' rfl)
/-- a loop that counts up to n -/
theorem lpu (n : Int) (W I : Int → St → Prop) (h : ∀ k τ, I k τ → (k < n → ∀ τ', I (k + 1) τ' → W (k + 1) τ') → W k τ) : ∀ k τ, I k τ → W k τ := by
  intro k τ hI
  refine lpx (S := Int × St) (fun s => (n - s.1).toNat) (fun s => W s.1 s.2) (fun s => I s.1 s.2) (fun s hs ih => ?_) (k, τ) hI
  exact h s.1 s.2 hs (fun hk τ' hI' => ih (s.1 + 1, τ') (by show (n - (s.1 + 1)).toNat < (n - s.1).toNat; omega) hI')
/-- a loop that counts down to n -/
theorem lpd (n : Int) (W I : Int → St → Prop) (h : ∀ k τ, I k τ → (n ≤ k → ∀ τ', I (k + -1) τ' → W (k + -1) τ') → W k τ) : ∀ k τ, I k τ → W k τ := by
  intro k τ hI
  refine lpx (S := Int × St) (fun s => (s.1 - n + 1).toNat) (fun s => W s.1 s.2) (fun s => I s.1 s.2) (fun s hs ih => ?_) (k, τ) hI
  exact h s.1 s.2 hs (fun hk τ' hI' => ih (s.1 + -1, τ') (by show (s.1 + -1 - n + 1).toNat < (s.1 - n + 1).toNat; omega) hI')
abbrev RowIs (σ : St) (K : List Int) : Prop := σ.1 42 10 = K.length ∧ At (σ.1 50) 0 K
abbrev OwnIs (σ : St) (K : List Int) : Prop := σ.1 42 12 = K.length ∧ At (σ.1 51) 0 K
/-- numbers that nodes can be -/
def Nod (K : List Int) : Prop := ∀ x ∈ K, 1 ≤ x ∧ x ≤ 400
theorem Nod.at {f : Int → Int} {o : Int} {K : List Int} (h : Nod K) (ha : At f o K) {i : Int} (h0 : o ≤ i) (h1 : i < o + K.length) : 1 ≤ f i ∧ f i ≤ 400 := by
  have h2 := ha (i - o).toNat (by omega)
  rw [show o + (((i - o).toNat : Nat) : Int) = i by omega] at h2
  rw [h2]
  have h3 : (i - o).toNat < K.length := by omega
  rw [List.getD_eq_getElem?_getD, List.getElem?_eq_getElem h3]
  exact h _ (List.getElem_mem h3)
section MRow
variable {E : EV} {d : Nat} {σ : St}
theorem c_M_takes {l s : Int} {K : List Int} (hF : Fix σ) (h1 : 0 ≤ l ∧ l < 4) (h2 : 0 ≤ s ∧ s < 8) (h3 : σ.1 47 (plc l s) = K.length) (h4 : K.length ≤ 20) (h5 : At (σ.1 47) (plc l s + 1) K) :
    WMv E m_M_takes (d + 1) [aP 42, aI l, aI s] σ (fun τ => Fr [(50, -1), (42, 10)] σ τ ∧ RowIs τ K) := by
  have hpl : plc l s = 5 + 170 * l + 21 * s := rfl
  refine e_M_takes _ _ hF (wmi_p c_M_placeOf ⟨hF, by omega, ?_⟩)
  refine lpu K.length (fun k τ => WP E m_M_takes (d + 1) 19 [(0, aP 42), (3, aI (plc l s)), (4, aI k)] [] τ _) (fun k τ => 0 ≤ k ∧ k ≤ K.length ∧ Fr [(50, -1), (42, 10)] σ τ ∧ τ.1 42 10 = K.length ∧ At (τ.1 50) 0 (K.take k.toNat)) (fun k τ hI ih => ?_) _ _ ?_
  · obtain ⟨i1, i2, i3, i4, i5⟩ := hI
    have hT := i3.fix hF (by decide)
    refine b_M_takes_19 _ _ hT ⟨by omega, by omega, fun c => ⟨rfl, pre_eq i3.1, i3, i4, ?_⟩, fun c => ⟨by omega, by omega, ih (by omega) _ ⟨by omega, by omega, ?_, ?_, ?_⟩⟩⟩
    · rw [show k.toNat = K.length by omega, List.take_length] at i5
      exact i5
    · exact i3.tr (Fr.wr (frO_a (by decide) _))
    · rw [wr_na _ (by decide)]; exact i4
    · intro i hi
      rw [List.length_take] at hi
      rw [wr_at]
      by_cases hik : (0 : Int) + i = k
      · rw [if_pos ⟨rfl, hik⟩, i3.2 _ _ rfl]
        have h6 := h5 i (by omega)
        rw [show plc l s + 1 + (i : Int) = plc l s + 1 + k by omega] at h6
        rw [h6, List.getD_eq_getElem?_getD, List.getD_eq_getElem?_getD, List.getElem?_take, if_pos (by omega)]
      · rw [if_neg (fun q => hik q.2), i5 i (by rw [List.length_take]; omega)]
        rw [List.getD_eq_getElem?_getD, List.getD_eq_getElem?_getD, List.getElem?_take, List.getElem?_take, if_pos (by omega), if_pos (by omega)]
  · exact ⟨by omega, by omega, Fr.wr (frO_k (by decide)), by rw [wr_same]; exact h3, At.nil _ _⟩
theorem c_M_opens (hF : Fix σ) : WMv E m_M_opens d [aP 42] σ (fun τ => Fr [(42, 12)] σ τ ∧ OwnIs τ []) :=
  e_M_opens hF ⟨rfl, List.prefix_refl _, Fr.wr (frO_k (by decide)), wr_same _ _ _ _, At.nil _ _⟩
theorem At.push {f g : Int → Int} {K : List Int} {x : Int} (h : At f 0 K) (hx : g K.length = x) (hg : ∀ i : Int, i ≠ K.length → g i = f i) : At g 0 (K ++ [x]) := by
  rw [At.app]
  refine ⟨h.congr (fun i hi => hg _ (by omega)), ?_⟩
  rw [At.cons]
  exact ⟨by simpa using hx, At.nil _ _⟩
theorem c_M_adds {x : Int} {K : List Int} (hF : Fix σ) (h : OwnIs σ K) (hn : K.length < 48) : WMv E m_M_adds d [aP 42, aI x] σ (fun τ => Fr [(51, -1), (42, 12)] σ τ ∧ OwnIs τ (K ++ [x])) := by
  refine e_M_adds _ hF ⟨by omega, rfl, List.prefix_refl _, (Fr.wr (frO_a (by decide) _)).tr (Fr.wr (frO_k (by decide))), ?_, ?_⟩
  · rw [wr_same, h.1, List.length_append]; simp
  · refine h.2.push ?_ (fun i hi => ?_)
    · rw [wr_na _ (by decide), h.1, wr_same]
    · rw [wr_na _ (by decide), wr_nk _ (by rw [h.1]; exact hi)]
theorem c_M_addsAll {a o p : Int} {K L : List Int} (hF : Fix σ) (h : OwnIs σ K) (hn : K.length + L.length ≤ 48) (hL : At (σ.1 a) o L) (hp : p = o + L.length) (ho : 0 ≤ o ∧ o ≤ 100000) (ha : a ≠ 51 ∧ a ≠ 42) (hs : ∃ n : Nat, sh σ a = some (20, n) ∧ p ≤ n) :
    WMv E m_M_addsAll (d + 1) [aP 42, aP a, aI o, aI p] σ (fun τ => Fr [(51, -1), (42, 12)] σ τ ∧ OwnIs τ (K ++ L)) := by
  subst hp
  obtain ⟨n, hs, hle⟩ := hs
  refine e_M_addsAll _ _ _ ?_
  refine lpu (o + L.length) (fun k τ => WP E m_M_addsAll (d + 1) 3 [(0, aP 42), (1, aP a), (3, aI (o + L.length)), (4, aI k)] [] τ _) (fun k τ => o ≤ k ∧ k ≤ o + L.length ∧ Fr [(51, -1), (42, 12)] σ τ ∧ OwnIs τ (K ++ L.take (k - o).toNat)) (fun k τ hI ih => ?_) _ _ ?_
  · obtain ⟨i1, i2, i3, i4⟩ := hI
    have hT := i3.fix hF (by decide)
    refine b_M_addsAll_3 _ _ _ hT ⟨by omega, by omega, fun c => ⟨rfl, pre_eq i3.1, i3, ?_⟩, fun c => ⟨⟨n, ?_, by omega, by omega, by omega⟩, ?_⟩⟩
    · rw [show (k - o).toNat = L.length by omega, List.take_length] at i4
      exact i4
    · unfold sh at hs ⊢
      rw [i3.1]; exact hs
    · refine WMv.mono (c_M_adds hT i4 (by rw [List.length_append, List.length_take]; omega)) (fun υ _ hq => ih (by omega) υ ⟨by omega, by omega, i3.tr hq.1, ?_⟩)
      have h6 := hL (k - o).toNat (by omega)
      have e1 : τ.1 a k = L.getD (k - o).toNat 0 := by
        rw [← h6, show o + (((k - o).toNat : Nat) : Int) = k by omega]
        refine i3.2 a k ?_
        simp [frO, ha.1, ha.2]
      have h7 := hq.2
      rw [e1, List.append_assoc] at h7
      rw [show (k + 1 - o).toNat = (k - o).toNat + 1 by omega, List.take_add_one, show L[(k - o).toNat]?.toList = [L.getD (k - o).toNat 0] by rw [List.getD_eq_getElem?_getD, List.getElem?_eq_getElem (by omega)]; rfl]
      exact h7
  · refine ⟨by omega, by omega, Fr.refl _ _, ?_⟩
    rw [show (o - o).toNat = 0 by omega, List.take_zero, List.append_nil]
    exact h
end MRow
section MRow2
variable {E : EV} {d : Nat} {σ : St}
theorem c_M_lays {l s : Int} {K : List Int} (hF : Fix σ) (h1 : 0 ≤ l ∧ l < 4) (h2 : 0 ≤ s ∧ s < 8) (h : OwnIs σ K) (h4 : K.length ≤ 20) :
    WMv E m_M_lays (d + 1) [aP 42, aI l, aI s] σ (fun τ => Fr [(47, -1)] σ τ ∧ τ.1 47 (plc l s) = K.length ∧ At (τ.1 47) (plc l s + 1) K ∧ ∀ k, k < plc l s ∨ plc l s + 20 < k → τ.1 47 k = σ.1 47 k) := by
  have hpl : plc l s = 5 + 170 * l + 21 * s := rfl
  refine e_M_lays _ _ hF (wmi_p c_M_placeOf ⟨hF, by omega, ?_⟩)
  refine lpu K.length (fun k τ => WP E m_M_lays (d + 1) 19 [(0, aP 42), (3, aI (plc l s)), (4, aI k)] [] τ _) (fun k τ => 0 ≤ k ∧ k ≤ K.length ∧ Fr [(47, -1)] σ τ ∧ τ.1 47 (plc l s) = K.length ∧ At (τ.1 47) (plc l s + 1) (K.take k.toNat) ∧ ∀ k, k < plc l s ∨ plc l s + 20 < k → τ.1 47 k = σ.1 47 k) (fun k τ hI ih => ?_) _ _ ?_
  · obtain ⟨i1, i2, i3, i4, i5, i6⟩ := hI
    have hT := i3.fix hF (by decide)
    have e0 : τ.1 42 12 = K.length := (i3.2 _ _ rfl).trans h.1
    refine b_M_lays_19 _ _ hT ⟨by omega, by omega, fun c => ⟨rfl, pre_eq i3.1, i3, i4, ?_, i6⟩, fun c => ⟨by omega, by omega, ih (by omega) _ ⟨by omega, by omega, ?_, ?_, ?_, ?_⟩⟩⟩
    · rw [show k.toNat = K.length by omega, List.take_length] at i5
      exact i5
    · exact i3.tr (Fr.wr (frO_a (by decide) _))
    · rw [wr_nk _ (by omega)]; exact i4
    · intro i hi
      rw [List.length_take] at hi
      rw [wr_at]
      by_cases hik : (i : Int) = k
      · rw [if_pos ⟨rfl, by omega⟩, i3.2 _ _ rfl]
        have h6 := h.2 i (by omega)
        rw [show (0 : Int) + (i : Int) = k by omega] at h6
        rw [h6, List.getD_eq_getElem?_getD, List.getD_eq_getElem?_getD, List.getElem?_take, if_pos (by omega)]
      · rw [if_neg (fun q => hik (by omega)), i5 i (by rw [List.length_take]; omega)]
        rw [List.getD_eq_getElem?_getD, List.getD_eq_getElem?_getD, List.getElem?_take, List.getElem?_take, if_pos (by omega), if_pos (by omega)]
    · intro q hq
      rw [wr_nk _ (by omega)]
      exact i6 q hq
  · exact ⟨by omega, by omega, Fr.wr (frO_a (by decide) _), by rw [wr_same]; exact h.1, At.nil _ _, fun k hk => wr_nk _ (by omega)⟩
/-- how many signs stand in a row of nodes -/
def cnt : List Int → Nat
  | [] => 0
  | x :: K => (if x < 200 then 1 else 0) + cnt K
theorem cnt_app (K L : List Int) : cnt (K ++ L) = cnt K + cnt L := by
  induction K with
  | nil => simp [cnt]
  | cons x K ih => simp [cnt, ih]; omega
theorem cnt_le (K : List Int) : cnt K ≤ K.length := by
  induction K with
  | nil => simp [cnt]
  | cons x K ih => simp [cnt]; split <;> omega
theorem rc_cnt {t : Tr} (h : ok t) : ∀ k, cnt (rc k t) = sg t := by
  induction t with
  | var l => intro k; have h2 : vN l < 26 := h; have h3 : (vN l : Int) + 1 < 200 := by omega
             simp [rc, cnt, sg, h3]
  | pow t l ih => intro k; have h2 : l < 26 := h.2; have h3 : (l : Int) + 101 < 200 := by omega
                  simp [rc, cnt, sg, ih h.1, h3]; omega
  | mul a b iha ihb =>
    intro k
    simp only [rc, sg]
    split <;> simp [cnt, cnt_app, iha h.1, ihb h.2.1] <;> omega
  | add a b iha ihb =>
    intro k
    simp only [rc, sg]
    split <;> simp [cnt, cnt_app, iha h.1, ihb h.2.1] <;> omega
  | _ => exact absurd h (by simp [ok])
theorem rc_nod {t : Tr} (h : ok t) (h10 : sg t ≤ 50) : ∀ k, Nod (rc k t) := by
  induction t with
  | var l => intro k x hx; have h2 : vN l < 26 := h; simp [rc] at hx; omega
  | pow t l ih =>
    intro k x hx
    have h2 : l < 26 := h.2
    simp [rc] at hx
    rcases hx with hx | hx
    · omega
    · exact ih h.1 (by simp [sg] at h10; omega) 0 x hx
  | mul a b iha ihb =>
    intro k x hx
    have h3 := nM_le h.2.1
    have h4 := nM_pos b
    simp only [sg] at h10
    have ia := iha h.1 (by omega) 0
    have ib := ihb h.2.1 (by omega) 1
    simp only [rc] at hx
    split at hx
    · rcases List.mem_append.mp hx with h5 | h5
      · exact ia x h5
      · exact ib x h5
    · rcases List.mem_cons.mp hx with h5 | h5
      · omega
      · rcases List.mem_append.mp h5 with h5 | h5
        · exact ia x h5
        · exact ib x h5
  | add a b iha ihb =>
    intro k x hx
    have h3 := nA_le h.2.1
    have h4 := nA_pos b
    simp only [sg] at h10
    have ia := iha h.1 (by omega) 0
    have ib := ihb h.2.1 (by omega) 2
    simp only [rc] at hx
    split at hx
    · rcases List.mem_append.mp hx with h5 | h5
      · exact ia x h5
      · exact ib x h5
    · rcases List.mem_cons.mp hx with h5 | h5
      · omega
      · rcases List.mem_append.mp h5 with h5 | h5
        · exact ia x h5
        · exact ib x h5
  | _ => exact absurd h (by simp [ok])
theorem At.get {f : Int → Int} {o k : Int} {K : List Int} (h : At f o K) (h0 : o ≤ k) (h1 : k < o + K.length) : f k = K.getD (k - o).toNat 0 := by
  rw [← h (k - o).toNat (by omega), show o + (((k - o).toNat : Nat) : Int) = k by omega]
theorem take_succ_getD {K : List Int} {n : Nat} (h : n < K.length) : K.take (n + 1) = K.take n ++ [K.getD n 0] := by
  rw [List.take_add_one, List.getD_eq_getElem?_getD, List.getElem?_eq_getElem h]; rfl
theorem c_M_signsIn {a o p : Int} {K : List Int} (hK : At (σ.1 a) o K) (hN : Nod K) (hp : p = o + K.length) (ho : 0 ≤ o ∧ o ≤ 100000 ∧ K.length ≤ 100000) (hs : ∃ n : Nat, sh σ a = some (20, n) ∧ p ≤ n) :
    WMi E m_M_signsIn (d + 1) [aP a, aI o, aI p] σ (fun r τ => r = cnt K ∧ τ = σ) := by
  subst hp
  obtain ⟨n, hs, hle⟩ := hs
  refine e_M_signsIn _ _ _ ?_
  have key : ∀ (s : Int × Int), (o ≤ s.1 ∧ s.1 ≤ o + K.length ∧ s.2 = cnt (K.take (s.1 - o).toNat)) → WP E m_M_signsIn (d + 1) 5 [(0, aP a), (2, aI (o + K.length)), (3, aI s.2), (4, aI s.1)] [] σ (fun r τ => ∃ v, r = some (aI v) ∧ σ.2 <+: τ.2 ∧ v = cnt K ∧ τ = σ) := by
    refine lpx (fun s => (o + K.length - s.1).toNat) _ _ (fun s hI ih => ?_)
    obtain ⟨k, v⟩ := s
    obtain ⟨i1, i2, i3⟩ := hI
    simp only at i1 i2 i3 ih ⊢
    refine b_M_signsIn_5 _ _ _ _ ⟨by omega, by omega, fun c => ri_p ?_, fun c => ⟨⟨n, hs, by omega, by omega, by omega⟩, ?_⟩⟩
    · rw [i3, show (k - o).toNat = K.length by omega, List.take_length]
    · have h1 := hN.at hK i1 (by omega)
      have h2 := hK.get i1 (by omega)
      have h3 := take_succ_getD (K := K) (n := (k - o).toNat) (by omega)
      have h4 : cnt (K.take (k + 1 - o).toNat) = cnt (K.take (k - o).toNat) + (if σ.1 a k < 200 then 1 else 0) := by
        rw [show (k + 1 - o).toNat = (k - o).toNat + 1 by omega, h3, cnt_app, ← h2]
        simp [cnt]
      refine wmi_p (c_M_isSign (by omega)) ⟨b2i_r _, fun c2 => ?_, fun c2 => ?_⟩
      · rw [b2i_0] at c2
        refine b_M_signsIn_24 _ _ _ _ (ih (k + 1, v) (by show (o + K.length - (k + 1)).toNat < (o + K.length - k).toNat; omega) ⟨by show o ≤ k + 1; omega, by show k + 1 ≤ o + (K.length : Int); omega, ?_⟩)
        show v = cnt (K.take (k + 1 - o).toNat)
        rw [h4, if_neg c2, i3]; simp
      · rw [b2i_n0] at c2
        refine b_M_signsIn_24 _ _ _ _ (ih (k + 1, v + 1) (by show (o + K.length - (k + 1)).toNat < (o + K.length - k).toNat; omega) ⟨by show o ≤ k + 1; omega, by show k + 1 ≤ o + (K.length : Int); omega, ?_⟩)
        show v + 1 = cnt (K.take (k + 1 - o).toNat)
        rw [h4, if_pos c2, i3]; simp
  exact key (o, 0) ⟨Int.le_refl o, by show o ≤ o + (K.length : Int); omega, by show (0 : Int) = _; rw [show ((o, (0 : Int)).1 - o).toNat = 0 by show (o - o).toNat = 0; omega]; simp [cnt]⟩
theorem c_M_signsOf {l s : Int} {K : List Int} (hF : Fix σ) (h1 : 0 ≤ l ∧ l < 4) (h2 : 0 ≤ s ∧ s < 8) (h3 : σ.1 47 (plc l s) = K.length) (h4 : K.length ≤ 20) (h5 : At (σ.1 47) (plc l s + 1) K) (h6 : Nod K) :
    WMi E m_M_signsOf (d + 2) [aP 42, aI l, aI s] σ (fun r τ => r = cnt K ∧ τ = σ) := by
  have hpl : plc l s = 5 + 170 * l + 21 * s := rfl
  refine e_M_signsOf _ _ hF (wmi_p c_M_placeOf ⟨hF, by omega, ?_⟩)
  refine wmi_p (c_M_signsIn (K := K) h5 h6 ?_ ⟨by omega, by omega, by omega⟩ ⟨683, sf_47 hF, ?_⟩) (ri_p rfl)
  · rw [show 5 + 170 * l + 21 * s + 1 - 1 = plc l s by omega, h3]
  · rw [show 5 + 170 * l + 21 * s + 1 - 1 = plc l s by omega, h3]; omega
end MRow2
