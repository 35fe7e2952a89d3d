/-- a square is being read -/
def RdT (σ : St) (T : Tb) : Prop := ∀ l : Nat, l < 26 → σ.1 78 l = (T l).1 ∧ σ.1 80 l = (T l).2.2.1
def SQ (σ : St) (tp : List Int) (T : Tb) (fs : List Fm2) (s hi n : Nat) : Prop := (Fix σ ∧ Tp σ tp ∧ RdT σ T) ∧ FSk σ hi fs ∧ (σ.1 42 70 = (fs.length : Int) - 1 ∧ σ.1 42 71 = crs fs ∧ σ.1 42 72 = s ∧ σ.1 42 66 = n)
def sqX : List (Int × Int) := (42, 70) :: (42, 71) :: (42, 72) :: (42, 53) :: (42, 49) :: (42, 50) :: (42, 51) :: (42, 52) :: ogX
theorem RdT.keep {σ τ : St} {T : Tb} {X : List (Int × Int)} (h : RdT σ T) (hf : Fr X σ τ) (h1 : ∀ j, frO X 78 j = true ∧ frO X 80 j = true) : RdT τ T := fun l hl => ⟨(hf.2 _ _ (h1 _).1).trans (h l hl).1, (hf.2 _ _ (h1 _).2).trans (h l hl).2⟩
/-- reading on keeps all this -/
theorem SQ.go {σ τ : St} {tp : List Int} {T : Tb} {fs : List Fm2} {s hi n : Nat} (h : SQ σ tp T fs s hi n) (hf : Fr goX σ τ) : SQ τ tp T fs s hi n :=
  ⟨⟨hf.fix h.1.1 (by decide), h.1.2.1.keep hf rfl (fun _ => ⟨rfl, rfl⟩), h.1.2.2.keep hf (fun _ => ⟨rfl, rfl⟩)⟩, h.2.1.keep (fun j _ => A7.fr hf (fun _ => ⟨rfl, rfl, rfl, rfl, rfl, rfl, rfl⟩) j) (fun i _ => ⟨hf.2 _ _ rfl, hf.2 _ _ rfl, hf.2 _ _ rfl⟩), (hf.2 _ _ rfl).trans h.2.2.1, (hf.2 _ _ rfl).trans h.2.2.2.1, (hf.2 _ _ rfl).trans h.2.2.2.2.1, (hf.2 _ _ rfl).trans h.2.2.2.2.2⟩
theorem okFs_crs {T : Tb} {fs : List Fm2} {s : Nat} (h : okFs T fs s) : crs fs ≤ 3 := by
  cases fs with
  | nil => simp [crs]
  | cons f fs => exact h.2.2.1
def BgRes (tp : List Int) (T : Tb) (fs : List Fm2) (s n : Nat) (o : Except Nat ((Fm2 × Nat × Nat) ⊕ (Tr × Nat))) (r : Int) (τ : St) : Prop := match o with
  | .error f => r = -1 ∧ τ.1 42 53 = 1 ∧ τ.1 42 51 = f
  | .ok (.inl (g, p1, s1)) => r = -1 ∧ τ.1 42 53 = 0 ∧ LA τ tp p1 ∧ ∃ n', SQ τ tp T (g :: fs) s1 n' n' ∧ n' ≤ n + 3 ∧ (s1 = s → n' ≤ n + 2)
  | .ok (.inr (t, p1)) => r = n ∧ τ.1 42 53 = 0 ∧ LA τ tp p1 ∧ SQ τ tp T fs (s + 1) n (n + 1) ∧ ND τ 0 n (n + 1) n 0 t
section MPart
variable {E : EV} {d : Nat} {σ : St} {tp : List Int} {T : Tb} {fs : List Fm2} {s n p : Nat}
theorem mark_go {c : Int} (hF : Fix σ) (hTp : Tp σ tp) (hla : LA σ tp p) (hc : 33 ≤ c ∧ c ≤ 255) (h1 : isL c = false) (h2 : isDg c = false) (hb : byt tp (nbk tp p) = c) : WMv E m_M_goesOn (d + 1) [aP 42] σ (fun τ => Fr goX σ τ ∧ LA τ tp (nbk tp p + 1)) := by
  have hl : nbk tp p < tp.length := by
    refine Nat.not_le.mp (fun q2 => ?_)
    unfold byt at hb
    rw [if_neg (by omega)] at hb
    omega
  have ht3 := tk_3.mpr ⟨hl, by rw [hb]; exact h1, by rw [hb]; exact h2⟩
  rw [← te_3 ht3]
  exact LA.go hF hTp hla ht3 (by omega)
theorem c_M_beginsPart (hS : SQ σ tp T fs s n n) (hw : σ.1 42 53 = 0) (hla : LA σ tp p) (hT : okTab T) (hok : okFs T fs s) (hl : 1 ≤ fs.length ∧ fs.length ≤ 7) (hs : s ≤ 10) (hn : n ≤ 190) :
    WMi E m_M_beginsPart (d + 3) [aP 42] σ (fun r τ => Fr sqX σ τ ∧ BgRes tp T fs s n (bgP tp T fs p s) r τ) := by
  obtain ⟨⟨hF, hTp, hRd⟩, hFS, hop, hwi, hsr, hno⟩ := hS
  have hcr := okFs_crs hok
  -- no bracket
  have let_ : ¬ (byt tp (nbk tp p) = 40 ∧ fs.length < 7) → WP E m_M_beginsPart (d + 3) 39 [(0, aP 42)] [] σ (fun r τ => ∃ v, r = some (aI v) ∧ σ.2 <+: τ.2 ∧ Fr sqX σ τ ∧ BgRes tp T fs s n (bgP tp T fs p s) v τ) := by
    intro hnb
    have hlb := letN_b (tp := tp) (p := p)
    have bad : (letN tp p = -1 ∨ (T (letN tp p).toNat).1 = 0 ∨ 10 ≤ s) → WP E m_M_beginsPart (d + 3) 67 [(0, aP 42)] [] σ (fun r τ => ∃ v, r = some (aI v) ∧ σ.2 <+: τ.2 ∧ Fr sqX σ τ ∧ BgRes tp T fs s n (bgP tp T fs p s) v τ) := by
      intro hb
      have e : bgP tp T fs p s = .error (nbk tp p) := by unfold bgP; rw [if_neg hnb, if_pos hb]
      rw [e]
      exact b_M_beginsPart_67 hF ⟨_, rfl, List.prefix_refl _, Fr.wr (frO_k (by decide)), rfl, wr_same _ _ _ _, by rw [wr_nk _ (by decide)]; exact hla.2.1⟩
    refine b_M_beginsPart_39 hF (wmi_p (c_M_letterHere hF hTp hla) ⟨hF, by omega, fun c => bad (Or.inl c), fun c => ?_⟩)
    have hl2 : 0 ≤ letN tp p ∧ letN tp p < 26 ∧ tk tp p = 1 ∧ te tp p = nbk tp p + 1 := by rcases hlb with q | q; exact absurd q c; exact q
    have hc : ((letN tp p).toNat : Int) = letN tp p := by omega
    have hL26 : (letN tp p).toNat < 26 := by omega
    have rd := hRd _ hL26
    rw [hc] at rd
    have tb := hT _ hL26
    rw [rd.1, hsr]
    refine ⟨by omega, by omega, fun c2 => bad (Or.inr (Or.inl c2)), fun c2 => ⟨by omega, fun c3 => ?_, fun c3 => bad (Or.inr (Or.inr (by omega)))⟩⟩
    have hgood : ¬ (letN tp p = -1 ∨ (T (letN tp p).toNat).1 = 0 ∨ 10 ≤ s) := fun q => by rcases q with q | q | q; exact c q; exact c2 q; omega
    refine WMi.mono (c_M_node hF hno (by omega)) (fun r τ1 p1 q1 => ?_)
    obtain ⟨rfl, f1, n1, ⟨s1, i1, m1⟩, ag1⟩ := q1
    have F1 := f1.fix hF (by decide)
    have sr1 : τ1.1 42 72 = s := (f1.2 _ _ rfl).trans hsr
    rw [sr1]
    have fw : Fr [(83, -1), (42, 72)] τ1 (wr (wr τ1 83 n (letN tp p)) 42 72 ((s : Int) + 1)) := (Fr.wr (frO_a (by decide) _)).tr (Fr.wr (frO_k (by decide)))
    have f2 : Fr sqX σ (wr (wr τ1 83 n (letN tp p)) 42 72 ((s : Int) + 1)) := (f1.mono (by decide)).tr (fw.mono (by decide))
    have ag2 : ∀ j : Nat, j ≠ n → A7 σ (wr (wr τ1 83 n (letN tp p)) 42 72 ((s : Int) + 1)) j := fun j hj => (ag1 j hj).tr ⟨⟨fw.2 _ _ rfl, (wr_na _ (by decide)).trans (wr_nk _ (by omega)), fw.2 _ _ rfl, fw.2 _ _ rfl, fw.2 _ _ rfl, fw.2 _ _ rfl⟩, fw.2 _ _ rfl⟩
    have nd2 : (wr (wr τ1 83 n (letN tp p)) 42 72 ((s : Int) + 1)).1 82 n = 0 ∧ (wr (wr τ1 83 n (letN tp p)) 42 72 ((s : Int) + 1)).1 83 n = (letN tp p).toNat ∧ (wr (wr τ1 83 n (letN tp p)) 42 72 ((s : Int) + 1)).1 84 n = -1 := ⟨(fw.2 _ _ rfl).trans s1, by rw [wr_na _ (by decide), wr_same, hc], (fw.2 _ _ rfl).trans i1⟩
    have sq2 : SQ (wr (wr τ1 83 n (letN tp p)) 42 72 ((s : Int) + 1)) tp T fs (s + 1) n (n + 1) := by
      refine ⟨⟨f2.fix hF (by decide), hTp.keep f2 rfl (fun _ => ⟨rfl, rfl⟩), hRd.keep f2 (fun _ => ⟨rfl, rfl⟩)⟩, hFS.keep (fun j hj => ag2 j (by omega)) (fun i hi => ⟨(fw.2 _ _ rfl).trans (f1.2 _ _ rfl), (fw.2 _ _ rfl).trans (f1.2 _ _ rfl), (fw.2 _ _ rfl).trans (f1.2 _ _ rfl)⟩), ((fw.2 _ _ rfl).trans (f1.2 _ _ rfl)).trans hop, ((fw.2 _ _ rfl).trans (f1.2 _ _ rfl)).trans hwi, ?_, ?_⟩
      · rw [wr_same]; omega
      · rw [fw.2 _ _ rfl, n1]; omega
    have la2 : LA (wr (wr τ1 83 n (letN tp p)) 42 72 ((s : Int) + 1)) tp p := (hla.keep f1 ⟨rfl, rfl, rfl, rfl⟩).keep fw ⟨rfl, rfl, rfl, rfl⟩
    have w2 : (wr (wr τ1 83 n (letN tp p)) 42 72 ((s : Int) + 1)).1 42 53 = 0 := ((fw.2 _ _ rfl).trans (f1.2 _ _ rfl)).trans hw
    generalize wr (wr τ1 83 n (letN tp p)) 42 72 ((s : Int) + 1) = υ at *
    refine ⟨F1, by omega, WMv.mono (LA.go sq2.1.1 sq2.1.2.1 la2 hl2.2.2.1 (Or.inl rfl)) (fun τ3 p3 q3 => ?_)⟩
    rw [hl2.2.2.2] at q3
    have sq3 := sq2.go q3.1
    have f3 : Fr sqX σ τ3 := f2.tr (q3.1.mono (by decide))
    have nd3 : τ3.1 82 n = 0 ∧ τ3.1 83 n = (letN tp p).toNat ∧ τ3.1 84 n = -1 := ⟨(q3.1.2 _ _ rfl).trans nd2.1, (q3.1.2 _ _ rfl).trans nd2.2.1, (q3.1.2 _ _ rfl).trans nd2.2.2⟩
    have w3 : τ3.1 42 53 = 0 := (q3.1.2 _ _ rfl).trans w2
    obtain ⟨⟨F3, Tp3, Rd3⟩, fs3, o3, wi3, sr3, no3⟩ := sq3
    refine ⟨F3, wmi_p (c_M_isMark F3 Tp3 q3.2 (by decide) (by decide) (by decide)) ⟨F3, b2i_r _, fun c4 => ?_, fun c4 => ?_⟩⟩
    · -- something is inside
      rw [b2i_n0] at c4
      have rd3 := Rd3 _ hL26
      rw [hc] at rd3
      rw [rd3.2, o3, wi3]
      have bad2 : ((T (letN tp p).toNat).2.2.1 = 0 ∨ 7 ≤ fs.length ∨ 3 ≤ crs fs) → WP E m_M_beginsPart (d + 3) 138 [(0, aP 42)] [] τ3 (fun r τ => ∃ v, r = some (aI v) ∧ σ.2 <+: τ.2 ∧ Fr sqX σ τ ∧ BgRes tp T fs s n (bgP tp T fs p s) v τ) := by
        intro hb
        have e : bgP tp T fs p s = .error (nbk tp (nbk tp p + 1)) := by unfold bgP; rw [if_neg hnb, if_neg hgood, if_pos c4, if_pos hb]
        rw [e]
        exact b_M_beginsPart_138 F3 ⟨_, rfl, pre_eq f3.1, f3.tr (Fr.wr (frO_k (by decide))), rfl, wr_same _ _ _ _, by rw [wr_nk _ (by decide)]; exact q3.2.2.1⟩
      refine ⟨by omega, by omega, fun c5 => bad2 (Or.inl c5), fun c5 => ⟨by omega, fun c6 => bad2 (Or.inr (Or.inl (by omega))), fun c6 => ⟨by omega, fun c7 => ?_, fun c7 => bad2 (Or.inr (Or.inr (by omega)))⟩⟩⟩
      have e : bgP tp T fs p s = .ok (.inl ((some (letN tp p).toNat, none, none), nbk tp (nbk tp p + 1) + 1, s + 1)) := by
        unfold bgP
        rw [if_neg hnb, if_neg hgood, if_pos c4, if_neg (fun q => by rcases q with q | q | q; exact c5 q; omega; omega)]
      rw [e]
      have fw4 : Fr [(42, 70), (42, 71)] τ3 (wr (wr τ3 42 70 ((fs.length : Int) - 1 + 1)) 42 71 ((crs fs : Int) + 1)) := (Fr.wr (frO_k (by decide))).tr (Fr.wr (frO_k (by decide)))
      have o4 : (wr (wr τ3 42 70 ((fs.length : Int) - 1 + 1)) 42 71 ((crs fs : Int) + 1)).1 42 70 = fs.length := by rw [wr_nk _ (by decide), wr_same]; omega
      have wi4 : (wr (wr τ3 42 70 ((fs.length : Int) - 1 + 1)) 42 71 ((crs fs : Int) + 1)).1 42 71 = (crs fs : Int) + 1 := wr_same _ _ _ _
      have fs4 : FSk (wr (wr τ3 42 70 ((fs.length : Int) - 1 + 1)) 42 71 ((crs fs : Int) + 1)) n fs := fs3.keep (fun j _ => A7.fr fw4 (fun _ => ⟨rfl, rfl, rfl, rfl, rfl, rfl, rfl⟩) j) (fun i _ => ⟨fw4.2 _ _ rfl, fw4.2 _ _ rfl, fw4.2 _ _ rfl⟩)
      generalize wr (wr τ3 42 70 ((fs.length : Int) - 1 + 1)) 42 71 ((crs fs : Int) + 1) = ψ at *
      have F4 := fw4.fix F3 (by decide)
      refine WMv.mono (c_M_opensGroup (n := n + 1) (f := some (letN tp p).toNat) (fs := fs) (hi := n) F4 o4 (by omega) ((fw4.2 _ _ rfl).trans (by rw [no3])) (by omega) fs4 ⟨n, rfl, rfl, Nat.le_refl _, (fw4.2 _ _ rfl).trans nd3.1, (fw4.2 _ _ rfl).trans nd3.2.1⟩) (fun τ5 p5 q5 => ?_)
      obtain ⟨f5, n5, fs5⟩ := q5
      have F5 := f5.fix F4 (by decide)
      have la5 : LA τ5 tp (nbk tp p + 1) := (q3.2.keep fw4 ⟨rfl, rfl, rfl, rfl⟩).keep f5 ⟨rfl, rfl, rfl, rfl⟩
      have f35 : Fr sqX τ3 τ5 := (fw4.mono (by decide)).tr (f5.mono (by decide))
      have Tp5 : Tp τ5 tp := Tp3.keep f35 rfl (fun _ => ⟨rfl, rfl⟩)
      have sq5 : SQ τ5 tp T ((some (letN tp p).toNat, none, none) :: fs) (s + 1) (n + 1 + 2) (n + 1 + 2) := by
        refine ⟨⟨F5, Tp5, Rd3.keep f35 (fun _ => ⟨rfl, rfl⟩)⟩, fs5, ?_, ?_, ?_, ?_⟩
        · rw [f5.2 _ _ rfl, o4]; simp
        · rw [f5.2 _ _ rfl, wi4]; simp [crs]; omega
        · rw [f5.2 _ _ rfl, fw4.2 _ _ rfl, sr3]
        · rw [n5]; omega
      refine ⟨F5, WMv.mono (mark_go (p := nbk tp p + 1) F5 Tp5 la5 (by decide) (by decide) (by decide) c4) (fun τ6 p6 q6 => ?_)⟩
      have f6 : Fr sqX σ τ6 := (f3.tr f35).tr (q6.1.mono (by decide))
      refine ⟨_, rfl, pre_eq f6.1, f6, rfl, ?_, q6.2, n + 1 + 2, sq5.go q6.1, by omega, fun q => by omega⟩
      rw [q6.1.2 _ _ rfl, f5.2 _ _ rfl, fw4.2 _ _ rfl]; exact w3
    · -- a sign alone
      rw [b2i_0] at c4
      have e : bgP tp T fs p s = .ok (.inr (.var (letN tp p).toNat, nbk tp p + 1)) := by unfold bgP; rw [if_neg hnb, if_neg hgood, if_neg c4]
      rw [e]
      exact ⟨_, rfl, pre_eq f3.1, f3, rfl, w3, q3.2, ⟨⟨F3, Tp3, Rd3⟩, fs3, o3, wi3, sr3, no3⟩, ⟨Nat.le_refl _, by omega⟩, nd3, fun q => absurd rfl q⟩
  refine e_M_beginsPart hF (wmi_p (c_M_isMark hF hTp hla (by decide) (by decide) (by decide)) ⟨hF, b2i_r _, fun c => let_ ?_, fun c => ?_⟩)
  · rw [b2i_0] at c
    exact fun q => c q.1
  · rw [b2i_n0] at c
    rw [hop]
    refine ⟨by omega, fun c2 => let_ (fun q => by omega), fun c2 => ?_⟩
    have e : bgP tp T fs p s = .ok (.inl ((none, none, none), nbk tp p + 1, s)) := by unfold bgP; rw [if_pos ⟨c, by omega⟩]
    rw [e]
    have fw4 : Fr [(42, 70)] σ (wr σ 42 70 ((fs.length : Int) - 1 + 1)) := Fr.wr (frO_k (by decide))
    have o4 : (wr σ 42 70 ((fs.length : Int) - 1 + 1)).1 42 70 = fs.length := by rw [wr_same]; omega
    have fs4 : FSk (wr σ 42 70 ((fs.length : Int) - 1 + 1)) n fs := hFS.keep (fun j _ => A7.fr fw4 (fun _ => ⟨rfl, rfl, rfl, rfl, rfl, rfl, rfl⟩) j) (fun i _ => ⟨fw4.2 _ _ rfl, fw4.2 _ _ rfl, fw4.2 _ _ rfl⟩)
    generalize wr σ 42 70 ((fs.length : Int) - 1 + 1) = ψ at *
    have F4 := fw4.fix hF (by decide)
    refine WMv.mono (c_M_opensGroup (n := n) (f := none) (fs := fs) (hi := n) F4 o4 (by omega) ((fw4.2 _ _ rfl).trans hno) (by omega) fs4 ⟨rfl, Nat.le_refl _⟩) (fun τ5 p5 q5 => ?_)
    obtain ⟨f5, n5, fs5⟩ := q5
    have F5 := f5.fix F4 (by decide)
    have la5 : LA τ5 tp p := (hla.keep fw4 ⟨rfl, rfl, rfl, rfl⟩).keep f5 ⟨rfl, rfl, rfl, rfl⟩
    have f35 : Fr sqX σ τ5 := (fw4.mono (by decide)).tr (f5.mono (by decide))
    have Tp5 : Tp τ5 tp := hTp.keep f35 rfl (fun _ => ⟨rfl, rfl⟩)
    have sq5 : SQ τ5 tp T ((none, none, none) :: fs) s (n + 2) (n + 2) := by
      refine ⟨⟨F5, Tp5, hRd.keep f35 (fun _ => ⟨rfl, rfl⟩)⟩, fs5, ?_, ?_, ?_, ?_⟩
      · rw [f5.2 _ _ rfl, o4]; simp
      · rw [f5.2 _ _ rfl, fw4.2 _ _ rfl, hwi]; simp [crs]
      · rw [f5.2 _ _ rfl, fw4.2 _ _ rfl, hsr]
      · rw [n5]; omega
    refine ⟨F5, WMv.mono (mark_go (p := p) F5 Tp5 la5 (by decide) (by decide) (by decide) c) (fun τ6 p6 q6 => ?_)⟩
    have f6 : Fr sqX σ τ6 := f35.tr (q6.1.mono (by decide))
    refine ⟨_, rfl, pre_eq f6.1, f6, rfl, ?_, q6.2, n + 2, sq5.go q6.1, by omega, fun q => by omega⟩
    rw [q6.1.2 _ _ rfl, f5.2 _ _ rfl, fw4.2 _ _ rfl]; exact hw
end MPart
