/-! TEXT -/
def tqX : List (Int × Int) := [(12, 1), (12, 5), (12, 6), (12, 7), (12, 8), (12, 9), (12, 10), (12, 11), (14, 1), (15, -1), (16, -1), (17, -1)]
def tqY : List (Int × Int) := (1, 0) :: (1, 1) :: (1, 3) :: (9, -1) :: tqX
section CRText
variable {E : EV} {d : Nat} {σ : St} {T : Tb} {M : Mo} {b : Int} {P : List Mo} {tp : List Int}
theorem c_S_forgetActs (hF : Fix σ) : WMv E m_S_forgetActs d [aP 1] σ (fun τ => Fr [(9, -1), (1, 3)] σ τ ∧ τ.1 1 3 = 0) := by
  refine e_S_forgetActs ?_
  refine lpu 12 (fun k τ => WP E m_S_forgetActs d 2 [(0, aP 1), (1, aI k)] [] τ _) (fun k τ => (0 ≤ k ∧ k ≤ 12) ∧ Fr [(9, -1), (1, 3)] σ τ) (fun k τ hI ih => ?_) 0 _ ⟨by omega, Fr.refl _ _⟩
  obtain ⟨i1, i2⟩ := hI
  have hT := i2.fix hF (by decide)
  refine b_S_forgetActs_2 _ hT ⟨by omega, fun c => ?_, fun c => ⟨by omega, ih (by omega) _ ⟨by omega, i2.tr (Fr.wr (frO_a (by decide) _))⟩⟩⟩
  have f1 : Fr [(9, -1), (1, 3)] σ (wr τ 1 3 0) := i2.tr (Fr.wr (frO_k (by decide)))
  exact ⟨rfl, pre_eq f1.1, f1, wr_same _ _ _ _⟩
theorem c_Reader_told {m : Mo} {B : Int} (hF : Fix σ) (h8 : σ.1 12 8 = (m.2.2.length : Int)) (h4 : m.2.2.length ≤ 4) (h9 : σ.1 12 9 = m.1) (h10 : σ.1 12 10 = m.2.1) (hln : ∀ (i : Nat) (L : Ln), m.2.2[i]? = some L → LnC B σ (σ.1 17 i) L) : WMr E m_Reader_told (d + 2) [aP 12] σ (fun r τ => Cf 2 7 [] σ τ ∧ MoC B τ r m ∧ sh τ r = some (4, 3)) := by
  have hl := hF.len
  refine e_Reader_told hF ⟨by omega, by omega, by omega, ?_⟩
  rw [h8, show (max 0 (min ((m.2.2.length : Nat) : Int) 4)).toNat = m.2.2.length by omega]
  refine lpu m.2.2.length (fun k τ => WP E m_Reader_told (d + 2) 22 [(0, aP 12), (1, aP (nx σ)), (2, aI k)] [] τ _) (fun k τ => (0 ≤ k ∧ k ≤ m.2.2.length) ∧ Nw 25 σ m.2.2.length (fun j => σ.1 17 j) k τ) (fun k τ hI ih => ?_) 0 _ ⟨by omega, Nw.start _ _ _ _⟩
  obtain ⟨i1, i2⟩ := hI
  have hc := i2.cf []
  have hT := hc.fix hF rfl
  have eo : ∀ b j, b ≤ 92 → τ.1 b j = σ.1 b j := fun b j hb => i2.2.1 b j (by unfold nx; omega)
  have fin : k = m.2.2.length → WP E m_Reader_told (d + 2) 52 [(0, aP 12), (1, aP (nx σ))] [] τ (fun r τ => ∃ v, r = some (aP v) ∧ σ.2 <+: τ.2 ∧ Cf 2 7 [] σ τ ∧ MoC B τ v m ∧ sh τ v = some (4, 3)) := by
    intro hk
    subst hk
    have hs1 : sh (al τ 4 3) (nx τ) = some (4, 3) := sh_nx τ 4 3
    have hlt := hc.1.length_le
    have e9 : (al τ 4 3).1 12 9 = m.1 := by rw [al_old (by omega), eo 12 9 (by omega)]; exact h9
    have e10 : (al τ 4 3).1 12 10 = m.2.1 := by rw [al_old (by omega), eo 12 10 (by omega)]; exact h10
    have n2 : New2 25 4 3 σ m.2.2.length (fun j => σ.1 17 j) (nx τ) (wr (wr (wr (al τ 4 3) (nx τ) 0 (nx σ)) (nx τ) 1 m.1) (nx τ) 2 m.2.1) := by
      refine i2.new2 (ci := 4) (N := 3) ?_ (fun b j hb => ?_) ?_
      · rw [wr_2, wr_2, wr_2]
      · rw [wr_na _ hb, wr_na _ hb, wr_na _ hb]; exact if_neg hb
      · rw [wr_nk _ (by decide), wr_nk _ (by decide), wr_same]
    have hmo := n2.mo (b := B) (M := m) ⟨by rw [wr_nk _ (by decide), wr_same], wr_same _ _ _ _⟩ hl hln
    refine b_Reader_told_52 _ hT ⟨nx_pos _, ?_⟩
    rw [e9, e10]
    exact e_Moment_init _ _ _ _ ⟨nx_pos τ, hs1, hs1, hs1, rfl, List.prefix_refl _, _, rfl, n2.1.1, n2.1.mono (Nat.le_refl _) (by omega) rfl, hmo, n2.2.2.1⟩
  refine b_Reader_told_22 _ _ hT ⟨⟨_, i2.sh_⟩, by omega, by rw [ln_of i2.sh_]; omega, fun c => fin (by rw [ln_of i2.sh_] at c; omega), fun c => ?_⟩
  rw [ln_of i2.sh_] at c
  obtain ⟨L, hL⟩ : ∃ L, m.2.2[k.toNat]? = some L := ⟨_, List.getElem?_eq_getElem (by omega)⟩
  have hs := hln _ L hL
  rw [show ((k.toNat : Nat) : Int) = k by omega] at hs
  refine ⟨by omega, fun c2 => by omega, fun c2 => ⟨by omega, ⟨_, i2.sh_, by omega, by omega, by omega⟩, Or.inr ?_, ih (by omega) _ ⟨by omega, i2.step ?_⟩⟩⟩
  · rw [eo 17 k (by omega)]; exact sh_pre hc.1 hs.2.1
  · rw [eo 17 k (by omega)]
/-- the state is kept where a text is wrong -/
theorem CS.tx {n m : Nat} {τ : St} (h : CS σ b T M P tp) (hf : Cf n m tqX σ τ) (h1 : τ.1 12 1 = 0) : CS τ b T M P [] := by
  obtain ⟨⟨h1', h2, h2'⟩, ⟨h3, h4⟩, ⟨h5, h6⟩, -, h9⟩ := h
  have hl := h1'.len
  have e : ∀ a k : Int, a ≤ 92 → frO tqX a k = true → τ.1 a k = σ.1 a k := fun a k ha hk => hf.2.2 a k (by omega) hk
  have e9 : ∀ k, τ.1 9 k = σ.1 9 k := fun k => e 9 k (by omega) rfl
  refine ⟨⟨hf.fix h1' (by decide), h2, by have := hf.1.length_le; omega⟩, ⟨?_, ?_⟩, ⟨?_, fun i m hm => ?_⟩, ⟨by rw [h1]; rfl, fun i x hx => by simp at hx⟩, h9.cf hf rfl (fun k q1 q2 => e 32 k (by omega) rfl)⟩
  · rw [e 1 0 (by omega) rfl]; exact h3.cf hf rfl
  · rw [e 1 1 (by omega) rfl]; exact h4.cf hf rfl h2
  · rw [e 1 3 (by omega) rfl]; exact h5
  · rw [e9]; exact (h6 i m hm).cf hf rfl h2
theorem alX_o {a b j : Int} (ha : b < a + 1) (h : frO tqX b j = true) : frO (alX a) b j = true := by
  unfold frO at h ⊢
  rw [List.all_eq_true] at h ⊢
  intro p hp
  by_cases q : p ∈ tqX
  · exact h p q
  · have : p = (a + 1, -1) ∨ p = (a + 2, -1) ∨ p = (a + 3, -1) ∨ p = (a + 4, -1) := by
      simp [alX, tqX] at hp q
      rcases hp with rfl | rfl | rfl | rfl | rfl | rfl | rfl | rfl | rfl | h9 | h9 | h9 | h9 <;> simp_all
    rw [Bool.or_eq_true]
    left
    rw [bne_iff_ne]
    rcases this with rfl | rfl | rfl | rfl <;> simp <;> omega
theorem c_S_text (hS : StrE E) (h : CS σ b T M P tp) (hk : okD T M P tp) : WMi E m_S_text (d + 41) [aP 1] σ (fun r τ => Cf 100 2000 tqY σ τ ∧ match rdText tp with
    | .error f => r = -4 - (f : Int) ∧ CS τ b T M P []
    | .ok s => r = (s.2.2.2.length : Int) ∧ CS τ (σ.2.length + 5) s.1 s.2 [] []) := by
  have hF := h.1.1
  have hl := hF.len
  have hnx : nx σ = (σ.2.length : Int) + 1 := rfl
  refine e_S_text hF (WMv.mono (c_Reader_begin (d := d + 38) hF) (fun τ1 p1 q1 => ?_))
  obtain ⟨c1, R1, l1, e5, e1, e6, e8, e9, e10⟩ := q1
  have F1 := c1.fix hF (by decide)
  have rt1 : RT τ1 tp := by
    refine ⟨e5.trans h.2.2.2.1.1, fun i x hx => (c1.2.2 13 i (by omega) rfl).trans (h.2.2.2.1.2 i x hx), hk.2.2.2.1, hk.2.2.2.2⟩
  have Q1 : RQ τ1 tp 0 := ⟨F1, rt1, e6, Nat.zero_le _⟩
  have A1 : RAI τ1 (nx σ) (T00, 12, 1, []) τ1 := ⟨Cf.refl _ _ _ _, R1, ⟨e8, e9, e10⟩, fun i L hL => by simp at hL⟩
  refine ⟨F1, WMi.mono (c_Reader_readAll (d := d) hS Q1 A1 okR_0 (by omega)) (fun v2 τ2 p2 q2 => ?_)⟩
  obtain ⟨F2, c2, hr⟩ := q2
  have l2 := c2.1.length_le
  -- what the reading has left
  have c12 : Cf 95 1708 tqX σ τ2 := by
    refine ⟨p1.trans p2, ⟨by have := c1.2.1.1; have := c2.2.1.1; omega, by have := c1.2.1.2; have := c2.2.1.2; omega⟩, fun x k hx hk => ?_⟩
    rw [c2.2.2 x k (by omega) (alX_o (by omega) hk)]
    exact c1.2.2 x k hx (frO_mono (by decide) hk)
  have t1 : τ2.1 12 1 = 0 := (c2.2.2 12 1 (by omega) (by simp [frO, alX]; omega)).trans e1
  unfold rdText
  rcases hr with ⟨rfl, f, k1, k2⟩ | ⟨rfl, s, k1, k2, k3⟩
  · refine ⟨F2, by decide, fun q => absurd rfl q, fun _ => ⟨_, rfl, c12.1, c12.mono (by omega) (by omega) (by decide), ?_⟩⟩
    rw [k1]
    exact ⟨by rw [k2], h.tx c12 t1⟩
  · refine ⟨F2, by decide, fun _ => ?_, fun q => absurd q (by decide)⟩
    obtain ⟨c3, R3, ⟨a8, a9, a10⟩, aL⟩ := k3
    have h4 : s.2.2.2.length ≤ 4 := k2.2.2.2.2.1
    rw [R3.2.1]
    have fw : Fr [(1, 0)] τ2 (wr τ2 1 0 (nx σ)) := Fr.wr (frO_k (by decide))
    have F3 := fw.fix F2 (by decide)
    have g8 := (fw.2 12 8 rfl).trans a8
    have g9 := (fw.2 12 9 rfl).trans a9
    have g10 := (fw.2 12 10 rfl).trans a10
    have gL : ∀ (i : Nat) (L : Ln), s.2.2.2[i]? = some L → LnC (nx σ + 4) (wr τ2 1 0 (nx σ)) ((wr τ2 1 0 (nx σ)).1 17 i) L := fun i L hL => by
      rw [fw.2 17 i rfl]; exact (aL i L hL).cf (fw.cf 0 0) (imX_lt rfl (by omega))
    have R4 : TabC (wr τ2 1 0 (nx σ)) (nx σ) s.1 := R3.2.2.2.cf (fw.cf 0 0) rfl
    have g10v : (wr τ2 1 0 (nx σ)).1 1 0 = nx σ := wr_same _ _ _ _
    have t3 : (wr τ2 1 0 (nx σ)).1 12 1 = 0 := (fw.2 12 1 rfl).trans t1
    have c13 : Cf 95 1708 tqY σ (wr τ2 1 0 (nx σ)) := ((c12.mono (Y := tqY) (Nat.le_refl _) (Nat.le_refl _) (by decide)).tr ((fw.mono (Y := tqY) (by decide)).cf 0 0))
    generalize wr τ2 1 0 (nx σ) = τ3 at *
    have l3 := c13.1.length_le
    have l3' : τ1.2.length ≤ τ3.2.length := by rw [fw.1]; exact l2
    refine WMr.mono (c_Reader_told (d := d + 38) (m := s.2) (B := nx σ + 4) F3 g8 h4 g9 g10 gL) (fun v4 τ4 p4 q4 => ?_)
    obtain ⟨c4, m4, s4⟩ := q4
    have F4 := c4.fix F3 rfl
    have fw4 : Fr [(1, 1)] τ4 (wr τ4 1 1 v4) := Fr.wr (frO_k (by decide))
    refine ⟨F4, WMv.mono (c_S_forgetActs (fw4.fix F4 (by decide))) (fun τ5 p5 q5 => ?_)⟩
    have f5 : Fr [(1, 1), (9, -1), (1, 3)] τ4 τ5 := (fw4.mono (by decide)).tr (q5.1.mono (by decide))
    have F5 := f5.fix F4 (by decide)
    have m5 := m4.cf (f5.cf 0 0) rfl (by omega)
    have e11 : τ5.1 1 1 = v4 := (q5.1.2 1 1 rfl).trans (wr_same _ _ _ _)
    have c5 : Cf 97 1715 tqY σ τ5 := (c13.tr (c4.mono (Y := tqY) (Nat.le_refl _) (Nat.le_refl _) rfl)).tr ((f5.mono (Y := tqY) (by decide)).cf 0 0)
    have l4 := c4.1.length_le
    have l5 : τ5.2.length = τ4.2.length := by rw [f5.1]
    rw [e11]
    refine ⟨F5, m5.2.1, ⟨_, m5.2.2.1⟩, _, rfl, c5.1, c5.mono (by omega) (by omega) (by decide), ?_⟩
    rw [k1]
    refine ⟨by rw [ln_of m5.2.2.1], ?_⟩
    have eb : ((σ.2.length : Int) + 5) = nx σ + 4 := by omega
    rw [eb]
    have e10' : τ5.1 1 0 = nx σ := (f5.2 1 0 rfl).trans ((c4.2.2 1 0 (by omega) rfl).trans g10v)
    refine ⟨⟨F5, by omega, by omega⟩, ⟨?_, ?_⟩, ⟨by rw [q5.2]; rfl, fun i m hm => by simp at hm⟩, ⟨?_, fun i x hx => by simp at hx⟩, ?_⟩
    · rw [e10']
      exact (R4.cf c4 rfl).cf (f5.cf 0 0) rfl
    · rw [e11]; exact m5
    · rw [f5.2 12 1 rfl, c4.2.2 12 1 (by omega) rfl]; exact t3
    · have e32 : ∀ k, τ5.1 32 k = σ.1 32 k := fun k => c5.2.2 32 k (by omega) rfl
      unfold CK
      rw [e32 10, e32 13]
      rcases h.2.2.2.2 with k0 | ⟨t, u, ⟨x1, x2⟩, -⟩
      · exact Or.inl k0
      · refine Or.inr ⟨t, u, ⟨x1.cf c5 (imX_lt rfl (by omega)), x2.cf c5 (imX_lt rfl (by omega))⟩, fun q => ?_⟩
        have := (sh_len x1.2.1).2
        omega
end CRText
