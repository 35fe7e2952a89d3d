/-- a row (1) or rows (2) in the making -/
def mny (s : Nat) (t : Tr) : Nat := if s = 1 then nM t else nA t
def jS (s : Nat) : Tr → Tr → Tr := if s = 1 then jn else ja
def RowN (σ : St) (s n hi : Nat) : Option Tr → Prop
  | none => σ.1 82 n = s ∧ σ.1 88 n = 0
  | some t => σ.1 82 n = s ∧ σ.1 88 n = mny s t ∧ ∃ c e : Nat, σ.1 85 n = c ∧ σ.1 86 n = e ∧ ND σ s (n + 1) hi c e t
/-- a node stays as it is -/
def A7 (σ τ : St) (j : Nat) : Prop := A6 σ τ j ∧ τ.1 87 j = σ.1 87 j
def ndArr : List (Int × Int) := [(82, -1), (83, -1), (84, -1), (85, -1), (86, -1), (87, -1), (88, -1)]
theorem A7.refl (σ : St) (j : Nat) : A7 σ σ j := ⟨⟨rfl, rfl, rfl, rfl, rfl, rfl⟩, rfl⟩
theorem A7.tr {σ τ υ : St} {j : Nat} (h : A7 σ τ j) (h2 : A7 τ υ j) : A7 σ υ j := by
  obtain ⟨⟨a1, a2, a3, a4, a5, a6⟩, a7⟩ := h
  obtain ⟨⟨b1, b2, b3, b4, b5, b6⟩, b7⟩ := h2
  exact ⟨⟨b1.trans a1, b2.trans a2, b3.trans a3, b4.trans a4, b5.trans a5, b6.trans a6⟩, b7.trans a7⟩
theorem A7.fr {σ τ : St} {X : List (Int × Int)} (hf : Fr X σ τ) (h : ∀ j, frO X 82 j = true ∧ frO X 83 j = true ∧ frO X 84 j = true ∧ frO X 85 j = true ∧ frO X 86 j = true ∧ frO X 87 j = true ∧ frO X 88 j = true) (j : Nat) : A7 σ τ j := by
  obtain ⟨h1, h2, h3, h4, h5, h6, h7⟩ := h j
  exact ⟨⟨hf.2 _ _ h1, hf.2 _ _ h2, hf.2 _ _ h3, hf.2 _ _ h4, hf.2 _ _ h5, hf.2 _ _ h7⟩, hf.2 _ _ h6⟩
theorem ND.a7 {σ τ : St} {k lo hi n e : Nat} {t : Tr} (h : ND σ k lo hi n e t) (ha : ∀ j, lo ≤ j → j < hi → A7 σ τ j) : ND τ k lo hi n e t := ND_keep h (fun j a b => (ha j a b).1) (fun j a b _ => (ha j a b).2)
theorem RowN.a7 {σ τ : St} {s n hi : Nat} {o : Option Tr} (h : RowN σ s n hi o) (hn : n < hi) (ha : ∀ j, n ≤ j → j < hi → A7 σ τ j) : RowN τ s n hi o := by
  obtain ⟨⟨a1, a2, a3, a4, a5, a6⟩, a7⟩ := ha n (Nat.le_refl _) hn
  cases o with
  | none => exact ⟨a1.trans h.1, a6.trans h.2⟩
  | some t =>
    obtain ⟨b1, b2, c, e, b3, b4, b5⟩ := h
    exact ⟨a1.trans b1, a6.trans b2, c, e, a4.trans b3, a5.trans b4, b5.a7 (fun j q1 q2 => ha j (by omega) q2)⟩
theorem RowN.up {σ : St} {s n hi hi' : Nat} {o : Option Tr} (h : RowN σ s n hi o) (hh : hi ≤ hi') : RowN σ s n hi' o := by
  cases o with
  | none => exact h
  | some t =>
    obtain ⟨b1, b2, c, e, b3, b4, b5⟩ := h
    exact ⟨b1, b2, c, e, b3, b4, ND_mono b5 (Nat.le_refl _) hh⟩
theorem ND_sort {σ : St} {t : Tr} {lo hi n : Nat} (h : ND σ 0 lo hi n 0 t) : (σ.1 82 n = 0 ∧ isS t = true) ∨ (σ.1 82 n = 1 ∧ isM t = true) ∨ (σ.1 82 n = 2 ∧ isA t = true) := by
  cases t with
  | var l => exact Or.inl ⟨h.2.1.1, rfl⟩
  | pow t l => exact Or.inl ⟨h.2.1.1, rfl⟩
  | mul a b => rw [ND_Mk (by decide)] at h; exact Or.inr (Or.inl ⟨h.2.1.1, rfl⟩)
  | add a b => rw [ND_Ak (by decide)] at h; exact Or.inr (Or.inr ⟨h.2.1.1, rfl⟩)
  | _ => exact h.elim
theorem mny_1 {s : Nat} {t : Tr} (h : s = 1 ∧ isM t = false ∨ s = 2 ∧ isA t = false) : mny s t = 1 := by
  unfold mny
  rcases h with ⟨rfl, h⟩ | ⟨rfl, h⟩
  · rw [if_pos rfl]; cases t <;> simp_all [isM, nM]
  · rw [if_neg (by decide)]; cases t <;> simp_all [isA, nA]
/-- a node as parts that can come behind others -/
theorem chain_of {σ : St} {t : Tr} {s lo hi n : Nat} (h : ND σ 0 lo hi n 0 t) (hs : s = 1 ∨ s = 2) : ∃ c e : Nat, ND σ s lo hi c e t ∧ ((σ.1 82 n = s ∧ σ.1 85 n = c ∧ σ.1 86 n = e ∧ σ.1 88 n = mny s t) ∨ (σ.1 82 n ≠ s ∧ c = n ∧ e = n ∧ mny s t = 1)) := by
  have hso := ND_sort h
  have other : ∀ (hk : s = 1 ∧ isM t = false ∨ s = 2 ∧ isA t = false), σ.1 82 n ≠ (s : Int) → ∃ c e : Nat, ND σ s lo hi c e t ∧ ((σ.1 82 n = s ∧ σ.1 85 n = c ∧ σ.1 86 n = e ∧ σ.1 88 n = mny s t) ∨ (σ.1 82 n ≠ s ∧ c = n ∧ e = n ∧ mny s t = 1)) := fun hk hne => ⟨n, n, ND_of h hk, Or.inr ⟨hne, rfl, rfl, mny_1 hk⟩⟩
  cases t with
  | var l => exact other (by rcases hs with q | q; exact Or.inl ⟨q, rfl⟩; exact Or.inr ⟨q, rfl⟩) (by rw [h.2.1.1]; omega)
  | pow t l => exact other (by rcases hs with q | q; exact Or.inl ⟨q, rfl⟩; exact Or.inr ⟨q, rfl⟩) (by rw [h.2.1.1]; omega)
  | mul a b =>
    have h' := h
    rw [ND_Mk (by decide)] at h'
    obtain ⟨a1, ⟨a2, a3, c, e2, mid, c2, a4, a5, a6, a7, a8⟩, -⟩ := h'
    rcases hs with rfl | rfl
    · refine ⟨c, e2, by rw [ND_M1]; exact ⟨mid, c2, ND_mono a6 (by omega) (Nat.le_refl _), a7, a8⟩, Or.inl ⟨a2, a4, a5, ?_⟩⟩
      rw [a3]
      show ((nM b : Int) + 1) = ((if (1 : Nat) = 1 then nM (.mul a b) else nA (.mul a b) : Nat) : Int)
      rw [if_pos rfl]
      simp [nM]
    · exact other (Or.inr ⟨rfl, rfl⟩) (by rw [a2]; decide)
  | add a b =>
    have h' := h
    rw [ND_Ak (by decide)] at h'
    obtain ⟨a1, ⟨a2, a3, c, e2, mid, c2, a4, a5, a6, a7, a8⟩, -⟩ := h'
    rcases hs with rfl | rfl
    · exact other (Or.inl ⟨rfl, rfl⟩) (by rw [a2]; decide)
    · refine ⟨c, e2, by rw [ND_A2]; exact ⟨mid, c2, ND_mono a6 (by omega) (Nat.le_refl _), a7, a8⟩, Or.inl ⟨a2, a4, a5, ?_⟩⟩
      rw [a3]
      show ((nA b : Int) + 1) = ((if (2 : Nat) = 1 then nM (.add a b) else nA (.add a b) : Nat) : Int)
      rw [if_neg (by decide)]
      simp [nA]
  | _ => exact h.elim
/-- a row that is through, as a node -/
theorem only_ND {σ : St} {s n hi : Nat} {t : Tr} (h : RowN σ s n hi (some t)) (hs : s = 1 ∨ s = 2) (hn : n < hi) : ∃ v : Nat, (if σ.1 88 n = 1 then σ.1 85 n else (n : Int)) = v ∧ ND σ 0 n hi v 0 t := by
  obtain ⟨b1, b2, c, e, b3, b4, b5⟩ := h
  have one : (s = 1 ∧ isM t = false ∨ s = 2 ∧ isA t = false) → ∃ v : Nat, (if σ.1 88 n = 1 then σ.1 85 n else (n : Int)) = v ∧ ND σ 0 n hi v 0 t := by
    intro hk
    rw [b2, mny_1 hk, if_pos (by rfl), b3]
    exact ⟨c, rfl, ND_mono (ND_1 b5 hk).1 (by omega) (Nat.le_refl _)⟩
  rcases hs with rfl | rfl
  · cases hM : isM t with
    | false => exact one (Or.inl ⟨rfl, hM⟩)
    | true =>
      cases t with
      | mul a b =>
        have e1 : mny 1 (.mul a b) = nM b + 1 := rfl
        have hp := nM_pos b
        rw [b2, e1, if_neg (by omega)]
        refine ⟨n, rfl, ?_⟩
        rw [ND_M1] at b5
        obtain ⟨mid, c2, a1, a2, a3⟩ := b5
        rw [ND_Mk (by decide)]
        exact ⟨⟨Nat.le_refl _, hn⟩, ⟨b1, by rw [b2, e1]; omega, c, e, mid, c2, b3, b4, a1, a2, a3⟩, fun q => absurd rfl q⟩
      | _ => simp [isM] at hM
  · cases hA : isA t with
    | false => exact one (Or.inr ⟨rfl, hA⟩)
    | true =>
      cases t with
      | add a b =>
        have e1 : mny 2 (.add a b) = nA b + 1 := rfl
        have hp := nA_pos b
        rw [b2, e1, if_neg (by omega)]
        refine ⟨n, rfl, ?_⟩
        rw [ND_A2] at b5
        obtain ⟨mid, c2, a1, a2, a3⟩ := b5
        rw [ND_Ak (by decide)]
        exact ⟨⟨Nat.le_refl _, hn⟩, ⟨b1, by rw [b2, e1]; omega, c, e, mid, c2, b3, b4, a1, a2, a3⟩, fun q => absurd rfl q⟩
      | _ => simp [isA] at hA
theorem jS_mny {s : Nat} (hs : s = 1 ∨ s = 2) (t u : Tr) : mny s (jS s t u) = mny s t + mny s u := by
  rcases hs with rfl | rfl
  · exact jn_nM t u
  · exact ja_nA t u
theorem ND_app {σ : St} {s : Nat} (hs : s = 1 ∨ s = 2) {u : Tr} {mid hi c2 e2 : Nat} (hu : ND σ s mid hi c2 e2 u) {t : Tr} {lo c e : Nat} (ht : ND σ s lo mid c e t) (hn : σ.1 87 e = c2) : ND σ s lo hi c e2 (jS s t u) := by
  rcases hs with rfl | rfl
  · exact ND_app1 hu ht hn
  · exact ND_app2 hu ht hn
def apX : List (Int × Int) := [(85, -1), (86, -1), (87, -1), (88, -1)]
section MGroup
variable {E : EV} {d : Nat} {σ : St}
theorem c_M_appends {s to x hi lo hi2 : Nat} {o : Option Tr} {u : Tr} (hF : Fix σ) (hs : s = 1 ∨ s = 2) (hR : RowN σ s to hi o) (hto : to < hi) (hm : rI (σ.1 88 to)) (hx : ND σ 0 lo hi2 x 0 u) (hle : hi ≤ lo) (h200 : hi2 ≤ 200) :
    WMv E m_M_appends d [aP 42, aI to, aI x] σ (fun τ => Fr apX σ τ ∧ RowN τ s to hi2 (some (jo (jS s) o u)) ∧ ∀ j : Nat, j < to ∨ hi2 ≤ j → A7 σ τ j) := by
  have hxr := (ND_rng hx).1
  have hxb : (0 : Int) ≤ x ∧ (x : Int) < 200 := by omega
  have htb : (0 : Int) ≤ to ∧ (to : Int) < 200 := by omega
  have hsx : 0 ≤ σ.1 82 x ∧ σ.1 82 x ≤ 2 := by rcases ND_sort hx with q | q | q <;> omega
  have hst : σ.1 82 to = s := by cases o with | none => exact hR.1 | some t => exact hR.1
  obtain ⟨c2, e2, hch, hal⟩ := chain_of hx hs
  have rch := ND_rng hch
  have re2 := rch.2 (by omega)
  -- the last writes
  have fin : ∀ (υ : St) (al : Int), Fr apX σ υ → (al = 1 ∧ σ.1 82 x = s ∨ al = 0 ∧ σ.1 82 x ≠ s) → υ.1 85 x = σ.1 85 x → υ.1 86 x = σ.1 86 x → υ.1 88 = σ.1 88 →
      (∀ τ : St, Fr apX υ τ → τ.1 86 to = e2 → τ.1 88 to = σ.1 88 to + mny s u → (∀ j : Nat, j ≠ to → τ.1 86 j = υ.1 86 j ∧ τ.1 88 j = υ.1 88 j) → (∀ j, τ.1 85 j = υ.1 85 j ∧ τ.1 87 j = υ.1 87 j) → (none : Option AV) = none ∧ σ.2 <+: τ.2 ∧ Fr apX σ τ ∧ RowN τ s to hi2 (some (jo (jS s) o u)) ∧ ∀ j : Nat, j < to ∨ hi2 ≤ j → A7 σ τ j) →
      WP E m_M_appends d 70 [(0, aP 42), (1, aI to), (2, aI x), (3, aI al)] [] υ (fun r τ => r = none ∧ σ.2 <+: τ.2 ∧ Fr apX σ τ ∧ RowN τ s to hi2 (some (jo (jS s) o u)) ∧ ∀ j : Nat, j < to ∨ hi2 ≤ j → A7 σ τ j) := by
    intro υ al f1 hal2 g1 g2 g3 kont
    have hU := f1.fix hF (by decide)
    have last : ∀ v : Int, v = e2 → (if al = 0 then (1 : Int) else υ.1 88 x) = mny s u → WP E m_M_appends d 89 [(0, aP 42), (1, aI to), (2, aI x), (3, aI al)] [aI v, aI to, aP 86] υ (fun r τ => r = none ∧ σ.2 <+: τ.2 ∧ Fr apX σ τ ∧ RowN τ s to hi2 (some (jo (jS s) o u)) ∧ ∀ j : Nat, j < to ∨ hi2 ≤ j → A7 σ τ j) := by
      intro v hv hmm
      subst hv
      have fw : Fr apX υ (wr υ 86 to e2) := Fr.wr (frO_a (by decide) _)
      have F1 := fw.fix hU (by decide)
      have y1 : (wr υ 86 to e2).1 42 65 = 88 := ff_73 F1
      have tail : ∀ m : Int, m = mny s u → WP E m_M_appends d 111 [] [aI m, aI ((wr υ 86 to e2).1 88 to), aI to, aP 88] (wr υ 86 to e2) (fun r τ => r = none ∧ σ.2 <+: τ.2 ∧ Fr apX σ τ ∧ RowN τ s to hi2 (some (jo (jS s) o u)) ∧ ∀ j : Nat, j < to ∨ hi2 ≤ j → A7 σ τ j) := by
        intro m hmm2
        refine b_M_appends_111 _ _ _ _ ⟨⟨200, sf_88 F1, by omega, by omega, by omega⟩, kont _ (fw.tr (Fr.wr (frO_a (by decide) _))) ?_ ?_ (fun j hj => ⟨?_, ?_⟩) (fun j => ⟨?_, ?_⟩)⟩
        · rw [wr_na _ (by decide), wr_same]
        · rw [wr_same, wr_na _ (by decide), g3, hmm2]
        · rw [wr_na _ (by decide), wr_nk _ (by omega)]
        · rw [wr_nk _ (by omega), wr_na _ (by decide)]
        · rw [wr_na _ (by decide), wr_na _ (by decide)]
        · rw [wr_na _ (by decide), wr_na _ (by decide)]
      refine b_M_appends_89 _ _ _ _ _ _ ⟨⟨200, sf_86 hU, by omega, by omega, by omega⟩, sf_42 F1, ?_, by omega, fun c => ?_, fun c => ⟨sf_42 F1, ?_, ?_⟩⟩
      · rw [y1]; exact ⟨200, sf_88 F1, by omega, by omega, by omega⟩
      · rw [y1]
        refine tail 1 ?_
        rw [if_pos c] at hmm
        exact hmm
      · rw [y1]; exact ⟨200, sf_88 F1, by omega, by omega, by omega⟩
      · rw [y1]
        refine tail _ ?_
        rw [if_neg c] at hmm
        rw [wr_na _ (by decide)]
        exact hmm
    refine b_M_appends_70 _ _ _ hU ⟨by omega, fun c => last _ ?_ ?_, fun c => ⟨hxb, last _ ?_ ?_⟩⟩
    · rcases hal with q | q
      · rcases hal2 with q2 | q2
        · omega
        · exact absurd q.1 q2.2
      · exact congrArg _ q.2.2.1.symm
    · rw [if_pos c]
      rcases hal with q | q
      · rcases hal2 with q2 | q2
        · omega
        · exact absurd q.1 q2.2
      · rw [q.2.2.2]; rfl
    · rcases hal with q | q
      · rw [g2]; exact q.2.2.1
      · rcases hal2 with q2 | q2
        · exact absurd q2.2 q.1
        · omega
    · rw [if_neg c]
      rcases hal with q | q
      · rw [g3]; exact q.2.2.2
      · rcases hal2 with q2 | q2
        · exact absurd q2.2 q.1
        · omega
  -- where it comes
  have link : ∀ (al : Int), (al = 1 ∧ σ.1 82 x = s ∨ al = 0 ∧ σ.1 82 x ≠ s) → ∀ f0 : Int, f0 = c2 → WP E m_M_appends d 35 [(0, aP 42), (1, aI to), (2, aI x), (3, aI al)] [aI f0] σ (fun r τ => r = none ∧ σ.2 <+: τ.2 ∧ Fr apX σ τ ∧ RowN τ s to hi2 (some (jo (jS s) o u)) ∧ ∀ j : Nat, j < to ∨ hi2 ≤ j → A7 σ τ j) := by
    intro al hal2 f0 hf0
    subst hf0
    cases o with
    | none =>
      have m0 : σ.1 88 to = 0 := hR.2
      refine b_M_appends_35 _ _ _ _ hF ⟨htb, hm, fun c => absurd m0 c, fun _ => ⟨htb, fin _ al (Fr.wr (frO_a (by decide) _)) hal2 (wr_nk _ (by omega)) (wr_na _ (by decide)) (funext (fun j => wr_na _ (by decide))) (fun τ f1 t1 t2 t3 t4 => ?_)⟩⟩
      have f2 : Fr apX σ τ := (Fr.wr (frO_a (by decide) _)).tr f1
      have ag : ∀ j : Nat, j ≠ to → A7 σ τ j := fun j hj => ⟨⟨f2.2 _ _ rfl, f2.2 _ _ rfl, f2.2 _ _ rfl, (t4 j).1.trans (wr_nk _ (by omega)), (t3 j hj).1.trans (wr_na _ (by decide)), (t3 j hj).2.trans (wr_na _ (by decide))⟩, (t4 j).2.trans (wr_na _ (by decide))⟩
      refine ⟨rfl, pre_eq f2.1, f2, ⟨(f2.2 _ _ rfl).trans hst, by rw [t2, m0]; simp [jo], c2, e2, (t4 to).1.trans (wr_same _ _ _ _), t1, ?_⟩, fun j hj => ag j (by omega)⟩
      exact (ND_mono hch (by omega) (Nat.le_refl _) : ND σ s (to + 1) hi2 c2 e2 u).a7 (fun j a b => ag j (by omega))
    | some t =>
      obtain ⟨r1, r2, c, e, r3, r4, r5⟩ := hR
      have rr := ND_rng r5
      have rre := rr.2 (by omega)
      have mp : 1 ≤ mny s t := by unfold mny; split; exact nM_pos t; exact nA_pos t
      refine b_M_appends_35 _ _ _ _ hF ⟨htb, hm, fun _ => ⟨htb, by omega, ?_⟩, fun q => by omega⟩
      rw [r4]
      refine fin _ al (Fr.wr (frO_a (by decide) _)) hal2 (wr_na _ (by decide)) (wr_na _ (by decide)) (funext (fun j => wr_na _ (by decide))) (fun τ f1 t1 t2 t3 t4 => ?_)
      have f2 : Fr apX σ τ := (Fr.wr (frO_a (by decide) _)).tr f1
      have a6 : ∀ j : Nat, j ≠ to → A6 σ τ j := fun j hj => ⟨f2.2 _ _ rfl, f2.2 _ _ rfl, f2.2 _ _ rfl, (t4 j).1.trans (wr_na _ (by decide)), (t3 j hj).1.trans (wr_na _ (by decide)), (t3 j hj).2.trans (wr_na _ (by decide))⟩
      have an : ∀ j : Nat, j ≠ e → τ.1 87 j = σ.1 87 j := fun j hj => (t4 j).2.trans (wr_nk _ (by omega))
      refine ⟨rfl, pre_eq f2.1, f2, ⟨(f2.2 _ _ rfl).trans hst, ?_, c, e2, ((t4 to).1.trans (wr_na _ (by decide))).trans r3, t1, ?_⟩, fun j hj => ⟨a6 j (by omega), an j (by omega)⟩⟩
      · rw [t2, r2]
        show _ = ((mny s (jS s t u) : Nat) : Int)
        rw [jS_mny hs]; omega
      · refine ND_app hs (mid := hi) (ND_keep (ND_mono hch hle (Nat.le_refl _)) (fun j a b => a6 j (by omega)) (fun j a b _ => an j (by omega))) (ND_keep r5 (fun j a b => a6 j (by omega)) (fun j a b q => an j (by rw [if_neg (by omega)] at q; exact q))) ?_
        exact (t4 e).2.trans (wr_same _ _ _ _)
  refine e_M_appends _ _ hF ⟨hxb, htb, by omega, by rw [hst]; omega, fun c => b_M_appends_20 _ _ _ hF ⟨by decide, fun _ => link 0 (Or.inr ⟨rfl, by rw [hst] at c; exact c⟩) _ ?_, fun q => absurd rfl q⟩, fun c => b_M_appends_20 _ _ _ hF ⟨by decide, fun q => absurd q (by decide), fun _ => ⟨hxb, link 1 (Or.inl ⟨rfl, by rw [hst] at c; exact c⟩) _ ?_⟩⟩⟩
  · rw [hst] at c
    rcases hal with q | q
    · exact absurd q.1 c
    · exact congrArg _ q.2.1.symm
  · rw [hst] at c
    rcases hal with q | q
    · exact q.2.1
    · exact absurd c q.1
theorem c_M_node {n : Nat} {s : Int} (hF : Fix σ) (hn : σ.1 42 66 = n) (h200 : n < 200) : WMi E m_M_node d [aP 42, aI s] σ (fun r τ => r = n ∧ Fr ((42, 66) :: ndArr) σ τ ∧ τ.1 42 66 = n + 1 ∧ (τ.1 82 n = s ∧ τ.1 84 n = -1 ∧ τ.1 88 n = 0) ∧ ∀ j : Nat, j ≠ n → A7 σ τ j) := by
  have hnb : (0 : Int) ≤ n ∧ (n : Int) < 200 := by omega
  refine e_M_node _ hF ?_
  rw [hn]
  refine ⟨hnb, hnb, hnb, hnb, hnb, hnb, ⟨_, rfl, List.prefix_refl _, by omega, ((((((Fr.wr (frO_a (by decide) _)).tr (Fr.wr (frO_a (by decide) _))).tr (Fr.wr (frO_a (by decide) _))).tr (Fr.wr (frO_a (by decide) _))).tr (Fr.wr (frO_a (by decide) _))).tr (Fr.wr (frO_a (by decide) _))).tr (Fr.wr (frO_k (by decide))), ?_, ⟨?_, ?_, ?_⟩, fun j hj => ?_⟩⟩
  · rw [wr_same]
  · rw [wr_na _ (by decide), wr_na _ (by decide), wr_na _ (by decide), wr_na _ (by decide), wr_na _ (by decide), wr_na _ (by decide), wr_same]
  · rw [wr_na _ (by decide), wr_na _ (by decide), wr_na _ (by decide), wr_na _ (by decide), wr_na _ (by decide), wr_same]
  · rw [wr_na _ (by decide), wr_same]
  · have hj' : (j : Int) ≠ n := by omega
    refine ⟨⟨?_, ?_, ?_, ?_, ?_, ?_⟩, ?_⟩ <;> simp only [wr_at] <;> simp [hj']
end MGroup
