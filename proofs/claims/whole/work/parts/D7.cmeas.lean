/-! THE LAYOUT: sizes -/
/-- what begins at each place of the code, with the numbers of its place -/
def zC (T : Tb) (g : Int) : Qd → Tr → List (Tr × Qd)
  | q, .pow t l => (.pow t l, q) :: zC T g (insQ T g l t q) t
  | q, .mul a b => (.mul a b, q) :: (zC T g (qMa T g a b q) a ++ zC T g (qMb T g a b q) b)
  | q, .add a b => (.add a b, q) :: (zC T g (qAa T g a b q) a ++ zC T g (qAb T g a b q) b)
  | q, t => [(t, q)]
theorem zC_fst (T : Tb) (g : Int) (t : Tr) : ∀ q, (zC T g q t).map Prod.fst = sbC t := by
  induction t with
  | pow t l ih => intro q; simp [zC, sbC, ih]
  | mul a b iha ihb => intro q; simp [zC, sbC, iha, ihb]
  | add a b iha ihb => intro q; simp [zC, sbC, iha, ihb]
  | _ => intro q; simp [zC, sbC]
theorem zC_len {T : Tb} {g : Int} {t : Tr} (h : okw t) (q : Qd) : (zC T g q t).length = (cC t).length := by
  rw [← sbC_len h, ← zC_fst T g t q, List.length_map]
theorem zC_seg {T : Tb} {g : Int} (t : Tr) : ∀ (q : Qd) (i : Nat) (u : Tr) (p : Qd), (zC T g q t)[i]? = some (u, p) → ∃ A B, zC T g q t = A ++ (zC T g p u ++ B) ∧ A.length = i := by
  have two : ∀ (t a b : Tr) (q qa qb : Qd) (i : Nat) (u : Tr) (p : Qd), zC T g q t = (t, q) :: (zC T g qa a ++ zC T g qb b) → (∀ (i : Nat) (u : Tr) (p : Qd), (zC T g qa a)[i]? = some (u, p) → ∃ A B, zC T g qa a = A ++ (zC T g p u ++ B) ∧ A.length = i) → (∀ (i : Nat) (u : Tr) (p : Qd), (zC T g qb b)[i]? = some (u, p) → ∃ A B, zC T g qb b = A ++ (zC T g p u ++ B) ∧ A.length = i) → (zC T g q t)[i]? = some (u, p) → ∃ A B, zC T g q t = A ++ (zC T g p u ++ B) ∧ A.length = i := by
    intro t a b q qa qb i u p e ha hb hi
    cases i with
    | zero =>
      rw [e] at hi
      simp only [List.getElem?_cons_zero, Option.some.injEq, Prod.mk.injEq] at hi
      obtain ⟨rfl, rfl⟩ := hi
      exact ⟨[], [], by simp, rfl⟩
    | succ i =>
      rw [e, List.getElem?_cons_succ] at hi
      by_cases c : i < (zC T g qa a).length
      · rw [List.getElem?_append_left c] at hi
        obtain ⟨A, B, e1, e2⟩ := ha _ _ _ hi
        exact ⟨(t, q) :: A, B ++ zC T g qb b, by rw [e, e1]; simp, by simp [e2]⟩
      · rw [List.getElem?_append_right (by omega)] at hi
        obtain ⟨A, B, e1, e2⟩ := hb _ _ _ hi
        exact ⟨(t, q) :: (zC T g qa a ++ A), B, by rw [e, e1]; simp, by simp [e2]; omega⟩
  have one : ∀ (t : Tr) (q : Qd) (i : Nat) (u : Tr) (p : Qd), zC T g q t = [(t, q)] → (zC T g q t)[i]? = some (u, p) → ∃ A B, zC T g q t = A ++ (zC T g p u ++ B) ∧ A.length = i := by
    intro t q i u p e hi
    cases i with
    | zero =>
      rw [e] at hi
      simp only [List.getElem?_cons_zero, Option.some.injEq, Prod.mk.injEq] at hi
      obtain ⟨rfl, rfl⟩ := hi
      exact ⟨[], [], by simp, rfl⟩
    | succ i => rw [e] at hi; simp at hi
  induction t with
  | pow t l ih =>
    intro q i u p hi
    cases i with
    | zero =>
      simp only [zC, List.getElem?_cons_zero, Option.some.injEq, Prod.mk.injEq] at hi
      obtain ⟨rfl, rfl⟩ := hi
      exact ⟨[], [], by simp, rfl⟩
    | succ i =>
      simp only [zC, List.getElem?_cons_succ] at hi
      obtain ⟨A, B, e1, e2⟩ := ih _ _ _ _ hi
      exact ⟨(.pow t l, q) :: A, B, by simp only [zC]; rw [e1]; simp, by simp [e2]⟩
  | mul a b iha ihb => intro q i u p hi; exact two _ a b q _ _ i u p rfl (iha _) (ihb _) hi
  | add a b iha ihb => intro q i u p hi; exact two _ a b q _ _ i u p rfl (iha _) (ihb _) hi
  | _ => intro q i u p hi; exact one _ q i u p rfl hi
theorem sbC_seg {t : Tr} {i : Nat} {u : Tr} (hi : (sbC t)[i]? = some u) : ∃ A B, sbC t = A ++ (sbC u ++ B) ∧ A.length = i := by
  have e := zC_fst (fun _ => (0, 0, 0, 0)) 0 t (0, 0, 0, 0)
  rw [← e, List.getElem?_map] at hi
  obtain ⟨z, hz, rfl⟩ := Option.map_eq_some_iff.mp hi
  obtain ⟨A, B, e1, e2⟩ := zC_seg _ _ _ z.1 z.2 hz
  refine ⟨A.map Prod.fst, B.map Prod.fst, ?_, by simp [e2]⟩
  rw [← e, e1, List.map_append, List.map_append, zC_fst]
/-- the two parts of a joint, what is inside a sign -/
theorem sbC_two {t u x z : Tr} {i : Nat} (hx : okw x) (hz : okw z) (hi : (sbC t)[i]? = some u) (hu : sbC u = u :: (sbC x ++ sbC z)) : (sbC t)[i + 1]? = some x ∧ (sbC t)[i + 1 + (cC x).length]? = some z := by
  obtain ⟨A, B, e1, e2⟩ := sbC_seg hi
  have hd : ∀ {y : Tr}, okw y → ∃ R, sbC y = y :: R := by
    intro y hy
    cases y <;> first | exact ⟨_, rfl⟩
  obtain ⟨Rx, hRx⟩ := hd hx
  obtain ⟨Rz, hRz⟩ := hd hz
  have lx := sbC_len hx
  constructor
  · rw [e1, hu, hRx, List.getElem?_append_right (by omega), show i + 1 - A.length = 1 by omega]
    rfl
  · rw [e1, hu, List.getElem?_append_right (by omega), show i + 1 + (cC x).length - A.length = (cC x).length + 1 by omega, List.cons_append, List.getElem?_cons_succ, List.append_assoc, List.getElem?_append_right (by omega), lx, Nat.sub_self, hRz]
    rfl
theorem sbC_in {t u x : Tr} {i : Nat} (hi : (sbC t)[i]? = some u) (hu : sbC u = u :: sbC x) (hx : okw x) : (sbC t)[i + 1]? = some x := by
  obtain ⟨A, B, e1, e2⟩ := sbC_seg hi
  have hd : ∃ R, sbC x = x :: R := by
    cases x <;> first | exact ⟨_, rfl⟩
  obtain ⟨R, hR⟩ := hd
  rw [e1, hu, hR, List.getElem?_append_right (by omega), show i + 1 - A.length = 1 by omega]
  rfl
theorem size_w {T : Tb} {g : Int} (hT : okTab T) (hg : 0 ≤ g ∧ g ≤ 3) {t : Tr} (h : okw t) : (0 ≤ wid T g t ∧ wid T g t ≤ 15 * (cC t).length) ∧ 0 ≤ hei T g t ∧ hei T g t ≤ 15 * (cC t).length := by
  induction t with
  | var l => have h1 := hT.r (vN l) h; simp only [wid, hei, cC, List.length_cons, List.length_nil]; omega
  | pow t l ih => have h1 := hT.r l h.2; simp only [wid, hei, cC, List.length_cons]; omega
  | mul a b iha ihb => have h1 := iha h.1; have h2 := ihb h.2; simp only [wid, hei, cC, List.length_cons, List.length_append]; omega
  | add a b iha ihb => have h1 := iha h.1; have h2 := ihb h.2; simp only [wid, hei, cC, List.length_cons, List.length_append]; omega
  | _ => exact absurd h (by simp [okw])
def mlX : List (Int × Int) := [(23, 7), (24, -1), (25, -1), (26, -1)]
/-- sizes and ends of all behind a place -/
def LMs (σ : St) (T : Tb) (g : Int) (t : Tr) (lo : Int) : Prop := ∀ (i : Nat) (u : Tr), lo < i → (sbC t)[i]? = some u → σ.1 24 i = i + (cC u).length ∧ σ.1 25 i = wid T g u ∧ σ.1 26 i = hei T g u
section CMeas
variable {E : EV} {d : Nat} {σ : St} {T : Tb} {g a c : Int} {t : Tr} {n : Nat}
theorem c_Layout_endAt {p : Int} (hF : Fix σ) (hn : σ.1 23 7 = n) (h24 : n ≤ 24) (hp : rI p) : WMi E m_Layout_endAt d [aP 23, aI p] σ (fun r τ => r = (if 0 ≤ p ∧ p < n then σ.1 24 p else n) ∧ τ = σ) := by
  refine e_Layout_endAt _ hF ⟨hp, fun q => ri_p ?_, fun q => ⟨hp, by omega, fun q2 => ri_p ?_, fun q2 => ⟨by omega, ri_p ?_⟩⟩⟩
  · rw [if_neg (by omega), hn]
  · rw [if_neg (by omega), hn]
  · rw [if_pos (by omega)]
theorem c_Layout_wideAt {p : Int} (hF : Fix σ) (hn : σ.1 23 7 = n) (h24 : n ≤ 24) (hp : rI p) : WMi E m_Layout_wideAt d [aP 23, aI p] σ (fun r τ => r = (if 0 ≤ p ∧ p < n then σ.1 25 p else 0) ∧ τ = σ) := by
  refine e_Layout_wideAt _ hF ⟨hp, fun q => ri_p ?_, fun q => ⟨hp, by omega, fun q2 => ri_p ?_, fun q2 => ⟨by omega, ri_p ?_⟩⟩⟩
  · rw [if_neg (by omega)]
  · rw [if_neg (by omega)]
  · rw [if_pos (by omega)]
theorem c_Layout_highAt {p : Int} (hF : Fix σ) (hn : σ.1 23 7 = n) (h24 : n ≤ 24) (hp : rI p) : WMi E m_Layout_highAt d [aP 23, aI p] σ (fun r τ => r = (if 0 ≤ p ∧ p < n then σ.1 26 p else 0) ∧ τ = σ) := by
  refine e_Layout_highAt _ hF ⟨hp, fun q => ri_p ?_, fun q => ⟨hp, by omega, fun q2 => ri_p ?_, fun q2 => ⟨by omega, ri_p ?_⟩⟩⟩
  · rw [if_neg (by omega)]
  · rw [if_neg (by omega)]
  · rw [if_pos (by omega)]
theorem c_Layout_measureBoth {k lx lz : Nat} {y wx wz hx hz : Int} (hF : Fix σ) (hn : σ.1 23 7 = n) (h24 : n ≤ 24) (hk : k + 1 + lx + lz ≤ n) (plx : 1 ≤ lx) (plz : 1 ≤ lz) (hy : y = 64 ∨ y = 65) (hg : 0 ≤ g ∧ g ≤ 3)
    (x1 : σ.1 24 (k + 1) = k + 1 + lx ∧ σ.1 25 (k + 1) = wx ∧ σ.1 26 (k + 1) = hx) (z1 : σ.1 24 (k + 1 + lx) = k + 1 + lx + lz ∧ σ.1 25 (k + 1 + lx) = wz ∧ σ.1 26 (k + 1 + lx) = hz) (b1 : (0 ≤ wx ∧ wx ≤ 1000) ∧ 0 ≤ wz ∧ wz ≤ 1000) (b2 : (0 ≤ hx ∧ hx ≤ 1000) ∧ 0 ≤ hz ∧ hz ≤ 1000) :
    WMv E m_Layout_measureBoth (d + 1) [aP 23, aI k, aI y, aI g] σ (fun τ => τ = wr (wr (wr σ 24 k (k + 1 + lx + lz)) 25 k (if y = 64 then wx + g + wz else max wx wz)) 26 k (if y = 64 then max hx hz else hx + g + hz)) := by
  have e23 : σ.1 23 2 = 26 := hF.2 (23, 2, 26) (by decide)
  have s26 := sf_26 hF
  have s25 := sf_25 hF
  have tail : ∀ s : Int, (s = 0 ∧ y ≠ 64) ∨ (s = 1 ∧ y = 64) → WP E m_Layout_measureBoth (d + 1) 24 [(0, aP 23), (1, aI k), (3, aI g), (4, aI ((k : Int) + 1)), (5, aI ((k : Int) + 1 + lx))] [aI s] σ (fun r τ => r = none ∧ σ.2 <+: τ.2 ∧ τ = wr (wr (wr σ 24 k (k + 1 + lx + lz)) 25 k (if y = 64 then wx + g + wz else max wx wz)) 26 k (if y = 64 then max hx hz else hx + g + hz)) := by
    intro s hs
    refine b_Layout_measureBoth_24 _ _ _ _ _ hF (wmi_p (c_Layout_endAt hF hn h24 (by omega)) ?_)
    rw [if_pos (by omega), z1.1]
    have F1 : Fix (wr σ 24 k ((k : Int) + 1 + lx + lz)) := hF.wa (by decide)
    have n1 : (wr σ 24 k ((k : Int) + 1 + lx + lz)).1 23 7 = n := (wr_na _ (by decide)).trans hn
    have w1 : ∀ p, (wr σ 24 k ((k : Int) + 1 + lx + lz)).1 25 p = σ.1 25 p := fun p => wr_na _ (by decide)
    have key : ∀ wv : Int, wv = (if y = 64 then wx + g + wz else max wx wz) → WP E m_Layout_measureBoth (d + 1) 81 [(0, aP 23), (1, aI k), (3, aI g), (4, aI ((k : Int) + 1)), (5, aI ((k : Int) + 1 + lx)), (6, aI s)] [aI wv, aI k, aP 25] (wr σ 24 k ((k : Int) + 1 + lx + lz)) (fun r τ => r = none ∧ σ.2 <+: τ.2 ∧ τ = wr (wr (wr σ 24 k (k + 1 + lx + lz)) 25 k (if y = 64 then wx + g + wz else max wx wz)) 26 k (if y = 64 then max hx hz else hx + g + hz)) := by
      intro wv hwv
      have F2 : Fix (wr (wr σ 24 k ((k : Int) + 1 + lx + lz)) 25 k wv) := F1.wa (by decide)
      have n2 : (wr (wr σ 24 k ((k : Int) + 1 + lx + lz)) 25 k wv).1 23 7 = n := (wr_na _ (by decide)).trans n1
      have w2 : ∀ p, (wr (wr σ 24 k ((k : Int) + 1 + lx + lz)) 25 k wv).1 26 p = σ.1 26 p := fun p => (wr_na _ (by decide)).trans (wr_na _ (by decide))
      have e26 : (wr (wr σ 24 k ((k : Int) + 1 + lx + lz)) 25 k wv).1 23 2 = 26 := ((wr_na _ (by decide)).trans (wr_na _ (by decide))).trans e23
      refine b_Layout_measureBoth_81 _ _ _ _ _ _ _ _ ⟨⟨_, s25, by omega, by omega, by omega⟩, sf_23 F2, by omega, fun q => ⟨sf_23 F2, wmi_p (c_Layout_highAt F2 n2 h24 (by omega)) ⟨sf_23 F2, wmi_p (c_Layout_highAt F2 n2 h24 (by omega)) ?_⟩⟩, fun q => ⟨sf_23 F2, wmi_p (c_Layout_highAt F2 n2 h24 (by omega)) ⟨sf_23 F2, wmi_p (c_Layout_highAt F2 n2 h24 (by omega)) ?_⟩⟩⟩
      · rw [if_pos (by omega), if_pos (by omega), w2, w2, e26, x1.2.2, z1.2.2]
        refine b_Layout_measureBoth_125 _ _ _ ⟨⟨_, s26, by omega, by omega, by omega⟩, rfl, List.prefix_refl _, ?_⟩
        rw [hwv, if_neg (show ¬ y = 64 by omega)]
        rw [if_neg (show ¬ y = 64 by omega)]
      · rw [if_pos (by omega), if_pos (by omega), w2, w2, e26, x1.2.2, z1.2.2]
        refine ⟨by omega, by omega, b_Layout_measureBoth_125 _ _ _ ⟨⟨_, s26, by omega, by omega, by omega⟩, rfl, List.prefix_refl _, ?_⟩⟩
        rw [hwv, if_pos (show y = 64 by omega)]
        rw [if_pos (show y = 64 by omega)]
    refine ⟨hF, by omega, by omega, fun q => wmi_p (c_Layout_wideAt F1 n1 h24 (by omega)) ⟨F1, wmi_p (c_Layout_wideAt F1 n1 h24 (by omega)) ?_⟩, fun q => wmi_p (c_Layout_wideAt F1 n1 h24 (by omega)) ⟨F1, wmi_p (c_Layout_wideAt F1 n1 h24 (by omega)) ?_⟩⟩
    · rw [if_pos (by omega), if_pos (by omega), w1, w1, x1.2.1, z1.2.1]
      exact ⟨by omega, by omega, key _ (by rw [if_neg (by omega)])⟩
    · rw [if_pos (by omega), if_pos (by omega), w1, w1, x1.2.1, z1.2.1]
      exact key _ (by rw [if_pos (by omega)])
  refine e_Layout_measureBoth _ _ _ hF (wmi_p (c_Layout_endAt hF hn h24 (by omega)) ?_)
  rw [if_pos (by omega), x1.1]
  exact ⟨by omega, fun q => tail 0 (Or.inl ⟨rfl, q⟩), fun q => tail 1 (Or.inr ⟨rfl, q⟩)⟩
theorem LMs.put (h : LMs σ T g t n) {u : Tr} (hu : (sbC t)[n]? = some u) {e w z : Int} (he : e = n + (cC u).length) (hw : w = wid T g u) (hz : z = hei T g u) : LMs (wr (wr (wr σ 24 n e) 25 n w) 26 n z) T g t ((n : Int) + -1) := by
  intro i v hi hv
  have e24 : ∀ j, (wr (wr (wr σ 24 n e) 25 n w) 26 n z).1 24 j = if j = n then e else σ.1 24 j := fun j => by rw [wr_na _ (by decide), wr_na _ (by decide), wr_at]; simp
  have e25 : ∀ j, (wr (wr (wr σ 24 n e) 25 n w) 26 n z).1 25 j = if j = n then w else σ.1 25 j := fun j => by rw [wr_na _ (by decide), wr_at, wr_na _ (by decide)]; simp
  have e26 : ∀ j, (wr (wr (wr σ 24 n e) 25 n w) 26 n z).1 26 j = if j = n then z else σ.1 26 j := fun j => by rw [wr_at, wr_na _ (by decide), wr_na _ (by decide)]; simp
  rw [e24, e25, e26]
  by_cases q : i = n
  · subst q
    rw [hu] at hv
    cases hv
    rw [if_pos rfl, if_pos rfl, if_pos rfl]
    exact ⟨he, hw, hz⟩
  · rw [if_neg (by omega), if_neg (by omega), if_neg (by omega)]
    exact h i v (by omega) hv
theorem fr_ml3 {k e w z : Int} : Fr mlX σ (wr (wr (wr σ 24 k e) 25 k w) 26 k z) := ((Fr.wr (frO_a (by decide) _)).tr (Fr.wr (frO_a (by decide) _))).tr (Fr.wr (frO_a (by decide) _))
theorem wr_swap3 (σ : St) (k e w z : Int) : wr (wr (wr σ 25 k w) 26 k z) 24 k e = wr (wr (wr σ 24 k e) 25 k w) 26 k z := by
  unfold wr
  refine Prod.ext ?_ rfl
  funext b j
  show (if b = 24 ∧ j = k then e else if b = 26 ∧ j = k then z else if b = 25 ∧ j = k then w else σ.1 b j) = (if b = 26 ∧ j = k then z else if b = 25 ∧ j = k then w else if b = 24 ∧ j = k then e else σ.1 b j)
  by_cases q : b = 24 ∧ j = k
  · rw [if_pos q, if_neg (by omega), if_neg (by omega), if_pos q]
  · rw [if_neg q, if_neg q]
theorem wid_sign {u : Tr} (hs : isS u = true) : wid T g u = (T (lett u)).1 ∧ hei T g u = (T (lett u)).2.1 := by
  cases u with
  | var l => exact ⟨rfl, rfl⟩
  | pow t l => exact ⟨rfl, rfl⟩
  | _ => simp [isS] at hs
theorem c_Layout_measure (hF : Fix σ) (hc : CdB 92 σ a (cC t)) (ht : TabC σ c T) (hT : okTab T) (hg : 0 ≤ g ∧ g ≤ 3) (hk : okw t) (h24 : (cC t).length ≤ 24) : WMv E m_Layout_measure (d + 3) [aP 23, aP a, aP c, aI g] σ (fun τ => Fr mlX σ τ ∧ τ.1 23 7 = (cC t).length ∧ LMs τ T g t (-1)) := by
  refine e_Layout_measure _ _ _ hF ⟨hc.2.1, wmi_p (c_Sq_length hc.2) ⟨hF, by omega, ?_⟩⟩
  rw [show min ((cC t).length : Int) 24 = (cC t).length by omega]
  have f0 : Fr mlX σ (wr σ 23 7 (cC t).length) := Fr.wr (frO_k (by decide))
  refine lpd 0 (fun k τ => WP E m_Layout_measure (d + 3) 21 [(0, aP 23), (1, aP a), (2, aP c), (3, aI g), (4, aI k)] [] τ (fun r τ => r = none ∧ σ.2 <+: τ.2 ∧ Fr mlX σ τ ∧ τ.1 23 7 = (cC t).length ∧ LMs τ T g t (-1))) (fun k τ => (-1 ≤ k ∧ k < (cC t).length) ∧ Fr mlX σ τ ∧ τ.1 23 7 = (cC t).length ∧ LMs τ T g t k) (fun k τ hI ih => ?_) _ _ ⟨by have := cC_pos hk; omega, f0, wr_same _ _ _ _, fun i u q1 q2 => ?_⟩
  · obtain ⟨i1, i2, i3, i4⟩ := hI
    have F1 := i2.fix hF (by decide)
    have c1 := hc.cf (i2.cf 0 0) (imX_lt rfl (by omega))
    have t1 := ht.cf (i2.cf 0 0) rfl
    refine b_Layout_measure_21 _ _ _ _ F1 ⟨by omega, fun q => ?_, fun q => ⟨c1.2.1, wmi_p (c_Sq_symbol c1.2 (by omega) (by omega)) ⟨F1, ?_⟩⟩⟩
    · obtain rfl : k = -1 := by omega
      exact ⟨rfl, pre_eq i2.1, i2, i3, i4⟩
    · obtain ⟨m, rfl⟩ : ∃ m : Nat, k = m := ⟨k.toNat, by omega⟩
      obtain ⟨u, hu⟩ : ∃ u, (sbC t)[m]? = some u := ⟨_, List.getElem?_eq_getElem (by rw [sbC_len hk]; omega)⟩
      have hsy := sbC_sy hk hu
      obtain ⟨uok, A, B, eA, lA⟩ := sbC_at hk hu
      have hul := congrArg List.length eA
      simp only [List.length_append] at hul
      have hr := sy_r uok
      rw [if_pos (by omega), show ((m : Nat) : Int).toNat = m by omega, List.getD_eq_getElem?_getD, hsy, Option.getD_some]
      have nxt : ∀ υ : St, υ = wr (wr (wr τ 24 m ((m : Int) + (cC u).length)) 25 m (wid T g u)) 26 m (hei T g u) → WP E m_Layout_measure (d + 3) 116 [(0, aP 23), (1, aP a), (2, aP c), (3, aI g), (4, aI m)] [] υ (fun r τ => r = none ∧ σ.2 <+: τ.2 ∧ Fr mlX σ τ ∧ τ.1 23 7 = (cC t).length ∧ LMs τ T g t (-1)) := by
        intro υ hυ
        refine b_Layout_measure_116 _ _ _ _ (ih (by omega) υ ⟨by omega, ?_, ?_, ?_⟩)
        · rw [hυ]; exact i2.tr fr_ml3
        · rw [hυ, wr_na _ (by decide), wr_na _ (by decide), wr_na _ (by decide)]; exact i3
        · rw [hυ]; exact i4.put hu rfl rfl rfl
      refine wmi_p (c_S_isJoint (by omega)) ⟨F1, b2i_r _, fun q2 => ?_, fun q2 => ?_⟩
      · rw [b2i_0, jt_isS uok] at q2
        have hS : isS u = true := by simpa using q2
        obtain ⟨s1, s2, s3, s4⟩ := sy_sign uok hS
        obtain ⟨ew, eh⟩ := wid_sign (T := T) (g := g) hS
        refine wmi_p (c_S_letterOf (by omega)) ⟨F1, t1.2.1, ?_⟩
        rw [s2]
        refine wmi_p (c_Table_wideOf t1 (by omega)) ?_
        rw [show tb tW T (lett u : Int) = (T (lett u)).1 from tb_nat s4, ← ew]
        have F2 : Fix (wr τ 25 m (wid T g u)) := F1.wa (by decide)
        have t2 : TabC (wr τ 25 m (wid T g u)) c T := t1.cf ((Fr.wr (X := mlX) (frO_a (by decide) _)).cf 0 0) rfl
        refine ⟨F1, by omega, wmi_p (c_S_letterOf (by omega)) ⟨F2, t2.2.1, ?_⟩⟩
        rw [s2]
        refine wmi_p (c_Table_highOf t2 (by omega)) ?_
        rw [show tb tH T (lett u : Int) = (T (lett u)).2.1 from tb_nat s4, ← eh]
        have F3 : Fix (wr (wr τ 25 m (wid T g u)) 26 m (hei T g u)) := F2.wa (by decide)
        have n3 : (wr (wr τ 25 m (wid T g u)) 26 m (hei T g u)).1 23 7 = (cC t).length := ((wr_na _ (by decide)).trans (wr_na _ (by decide))).trans i3
        have e24 : ∀ p, (wr (wr τ 25 m (wid T g u)) 26 m (hei T g u)).1 24 p = τ.1 24 p := fun p => (wr_na _ (by decide)).trans (wr_na _ (by decide))
        have s24 : sh (wr (wr τ 25 m (wid T g u)) 26 m (hei T g u)) 24 = some (20, 24) := sf_24 F3
        refine ⟨F2, by omega, wmi_p (c_S_holds (by omega)) ⟨F3, b2i_r _, fun q3 => ?_, fun q3 => ?_⟩⟩
        · rw [b2i_0, s3] at q3
          have hl1 : (cC u).length = 1 := by rw [(cC_bare hS q3).1]; rfl
          refine b_Layout_measure_115 _ _ _ _ _ _ _ ⟨⟨_, s24, by omega, by omega, by omega⟩, nxt _ ?_⟩
          rw [wr_swap3, hl1]; rfl
        · rw [b2i_n0, s3] at q3
          cases u with
          | pow w l =>
            have hw := sbC_in hu rfl uok.1
            have hlw : (cC (.pow w l)).length = (cC w).length + 1 := by simp [cC]
            have g1 := i4 (m + 1) w (by omega) hw
            have pw1 := cC_pos uok.1
            refine wmi_p (c_Layout_endAt F3 n3 h24 (by omega)) ?_
            rw [if_pos (by omega), e24, show ((m : Nat) : Int) + 1 = ((m + 1 : Nat) : Int) by omega, g1.1]
            refine b_Layout_measure_115 _ _ _ _ _ _ _ ⟨⟨_, s24, by omega, by omega, by omega⟩, nxt _ ?_⟩
            rw [wr_swap3, hlw]
            congr 3
            omega
          | _ => simp [holdsT] at q3
      · rw [b2i_n0, jt_isS uok] at q2
        have joint : ∀ (x z : Tr) (y : Int), okw x → okw z → sbC u = u :: (sbC x ++ sbC z) → sy u = y → (y = 64 ∨ y = 65) → (cC u).length = (cC x).length + (cC z).length + 1 → wid T g u = (if y = 64 then wid T g x + g + wid T g z else max (wid T g x) (wid T g z)) → hei T g u = (if y = 64 then max (hei T g x) (hei T g z) else hei T g x + g + hei T g z) → WMv E m_Layout_measureBoth (d + 2) [aP 23, aI m, aI (sy u), aI g] τ (fun σ17 => WP E m_Layout_measure (d + 3) 116 [(0, aP 23), (1, aP a), (2, aP c), (3, aI g), (4, aI m)] [] σ17 (fun r τ => r = none ∧ σ.2 <+: τ.2 ∧ Fr mlX σ τ ∧ τ.1 23 7 = (cC t).length ∧ LMs τ T g t (-1))) := by
          intro x z y hx hz e1 e2 hy e3 e4 e5
          obtain ⟨k1, k2⟩ := sbC_two hx hz hu e1
          have g1 := i4 (m + 1) x (by omega) k1
          have g2 := i4 (m + 1 + (cC x).length) z (by omega) k2
          have w1 := size_w hT hg hx
          have w2 := size_w hT hg hz
          have p1 := cC_pos hx
          have p2 := cC_pos hz
          rw [show (((m + 1 : Nat)) : Int) = (m : Int) + 1 by omega] at g1
          rw [show (((m + 1 + (cC x).length : Nat)) : Int) = (m : Int) + 1 + (cC x).length by omega] at g2
          rw [e2]
          refine WMv.mono (c_Layout_measureBoth F1 i3 h24 (lx := (cC x).length) (lz := (cC z).length) (by omega) p1 p2 hy hg g1 g2 (by omega) (by omega)) (fun υ hp hq => nxt υ ?_)
          rw [hq, e3, e4, e5]
          congr 3
          omega
        cases u with
        | mul x z => exact joint x z 64 uok.1 uok.2 rfl rfl (Or.inl rfl) (by simp [cC]) rfl rfl
        | add x z => exact joint x z 65 uok.1 uok.2 rfl rfl (Or.inr rfl) (by simp [cC]) rfl rfl
        | var l => exact absurd q2 (by simp [isS])
        | pow w l => exact absurd q2 (by simp [isS])
        | _ => exact absurd uok (by simp [okw])
  · have := (List.getElem?_eq_some_iff.mp q2).1
    rw [sbC_len hk] at this
    omega
end CMeas
