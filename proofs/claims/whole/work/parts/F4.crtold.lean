/-! THE READER: a sign told -/
theorem rdN_nb {tp : List Int} {a b : Nat} {lo hi : Int} (h : nbk tp a = nbk tp b) : rdN tp a lo hi = rdN tp b lo hi := by unfold rdN tk te; rw [h]
theorem isW_nb {tp : List Int} {a b : Nat} {k : Nat} (h : nbk tp a = nbk tp b) : isW tp a k = isW tp b k := by unfold isW; rw [h]
theorem te_nb {tp : List Int} {a b : Nat} (h : nbk tp a = nbk tp b) : te tp a = te tp b := by unfold te; rw [h]
theorem setT2 (T : Tb) (l : Nat) (x y : Int × Int × Int × Int) : setT (setT T l x) l y = setT T l y := by
  funext k; unfold setT; by_cases q : k = l
  · rw [if_pos q, if_pos q]
  · rw [if_neg q, if_neg q, if_neg q]
theorem nN_none {tp : List Int} {p : Nat} {lo hi : Int} (h : rdN tp p lo hi = none) : nN tp lo hi (.ok p) = (lo, .error (nbk tp p)) := by simp only [nN, h]
theorem nN_some {tp : List Int} {p : Nat} {lo hi : Int} {v : Int × Nat} (h : rdN tp p lo hi = some v) : nN tp lo hi (.ok p) = (v.1, .ok v.2) := by simp only [nN, h]
theorem rdN_b {tp : List Int} {p : Nat} {lo hi : Int} {v : Int × Nat} (hp : p ≤ tp.length) (h : rdN tp p lo hi = some v) : (lo ≤ v.1 ∧ v.1 ≤ hi) ∧ p < v.2 ∧ v.2 ≤ tp.length := by
  have h1 := nN_pos hp (q := v.2) (lo := lo) (hi := hi) (by rw [nN_some h])
  unfold rdN at h
  split at h
  · rename_i c
    cases h
    exact ⟨c.2, h1⟩
  · cases h
def RQ (σ : St) (tp : List Int) (q : Nat) : Prop := Fix σ ∧ RT σ tp ∧ σ.1 12 6 = (q : Int) ∧ q ≤ tp.length
theorem RQ.go {σ τ : St} {tp : List Int} {q q' : Nat} (h : RQ σ tp q) (hf : Fr atX σ τ) (h6 : τ.1 12 6 = (q' : Int)) (hq : q' ≤ tp.length) : RQ τ tp q' := ⟨hf.fix h.1 (by decide), h.2.1.keep hf rfl (fun _ => rfl), h6, hq⟩
theorem tbX_fix {σ τ : St} {a : Int} (hF : Fix σ) (h92 : 92 < a) (hf : Fr (tbX a) σ τ) : Fix τ := by
  refine hF.of (by rw [hf.1]; exact List.prefix_refl _) (fun q hq => hf.2 _ _ ?_)
  have h1 : FF.all (fun q => decide (q.1 ≤ 92) && (q.1 != 12 || q.2.1 != 6)) = true := by decide
  have h2 := List.all_eq_true.mp h1 q hq
  simp only [Bool.and_eq_true, Bool.or_eq_true, decide_eq_true_eq, bne_iff_ne] at h2
  unfold frO tbX
  simp only [List.all_cons, List.all_nil, Bool.and_true, Bool.and_eq_true, Bool.or_eq_true, bne_iff_ne]
  refine ⟨?_, Or.inl (by omega), Or.inl (by omega), Or.inl (by omega), Or.inl (by omega)⟩
  rcases h2.2 with q | q
  · exact Or.inl q
  · exact Or.inr ⟨by decide, q⟩
theorem at_tb {a : Int} : frL atX (tbX a) = true := by simp [frL, atX, tbX]
theorem RT.tb {σ τ : St} {tp : List Int} {a : Int} (h : RT σ tp) (h92 : 92 < a) (hf : Fr (tbX a) σ τ) : RT τ tp := h.keep hf (by simp [frO, tbX]; omega) (fun j => by simp [frO, tbX]; omega)
section CRTold
variable {E : EV} {d : Nat} {σ : St} {tp : List Int} {T : Tb} {a : Int} {p q : Nat}
theorem c_Reader_readCore {l : Nat} {w h : Int} (hl : l < 26) (hq : RQ σ tp q) (hR : RTab σ a T) (hnb : nbk tp q = nbk tp p) (hp : p ≤ tp.length) (hw : 1 ≤ w ∧ w ≤ 12) (hh : 1 ≤ h ∧ h ≤ 12) : WMi E m_Reader_readCore (d + 3) [aP 12, aI l, aI w, aI h] σ (fun r τ => Fr (tbX a) σ τ ∧ ((r = 0 ∧ ∃ f : Nat, (nN tp 1 h (nN tp 1 w (.ok p)).2).2 = .error f ∧ τ.1 12 6 = (f : Int)) ∨ (r = 1 ∧ ∃ p1 : Nat, (nN tp 1 h (nN tp 1 w (.ok p)).2).2 = .ok p1 ∧ RQ τ tp p1 ∧ RTab τ a (setT T l ((T l).1, (T l).2.1, (nN tp 1 w (.ok p)).1, (nN tp 1 h (nN tp 1 w (.ok p)).2).1))))) := by
  obtain ⟨hF, hT, h6, hql⟩ := hq
  have h92 := hR.1
  refine e_Reader_readCore _ _ _ hF (WMi.mono (c_Reader_readNumber hF hT h6 hql (by omega) (by omega)) (fun v1 τ1 p1 q1 => ?_))
  obtain ⟨f1, hr1⟩ := q1
  rw [rdN_nb hnb] at hr1
  have F1 := f1.fix hF (by decide)
  have g1 : Fr (tbX a) σ τ1 := f1.mono at_tb
  rcases hr1 with ⟨k1, rfl, k3⟩ | ⟨v, k1, rfl, k3⟩
  · refine ⟨F1, by decide, fun c => absurd rfl c, fun _ => b_Reader_readCore_24 _ _ _ F1 ⟨by decide, fun c => absurd rfl c, fun _ => ⟨_, rfl, pre_eq g1.1, g1, Or.inl ⟨rfl, nbk tp p, ?_, by rw [k3, hnb]⟩⟩⟩⟩
    rw [nN_none k1]; rfl
  · have hv := rdN_b hp k1
    have q1 : RQ τ1 tp v.2 := RQ.go ⟨hF, hT, h6, hql⟩ f1 k3 hv.2.2
    have R1 := hR.go f1
    refine ⟨F1, by omega, fun c => WMi.mono (c_Reader_readNumber F1 q1.2.1 k3 hv.2.2 (by omega) (by omega)) (fun v2 τ2 p2 q2 => ?_), fun c => by omega⟩
    obtain ⟨f2, hr2⟩ := q2
    have F2 := f2.fix F1 (by decide)
    have g2 := g1.tr (f2.mono at_tb)
    rw [nN_some k1]
    rcases hr2 with ⟨m1, rfl, m3⟩ | ⟨u, m1, rfl, m3⟩
    · refine b_Reader_readCore_24 _ _ _ F2 ⟨by decide, fun c => absurd rfl c, fun _ => ⟨_, rfl, pre_eq g2.1, g2, Or.inl ⟨rfl, nbk tp v.2, ?_, m3⟩⟩⟩
      show (nN tp 1 h (.ok v.2)).2 = _
      rw [nN_none m1]
    · have hu := rdN_b hv.2.2 m1
      have R2 := R1.go f2
      have e7 := R2.2.1
      refine b_Reader_readCore_24 _ _ _ F2 ⟨by omega, fun c => ⟨by rw [e7]; exact R2.2.2.2.2.1, ?_⟩, fun c => by omega⟩
      rw [e7]
      refine WMv.mono (c_Table_tellCore hl R2 (by omega) (by omega)) (fun τ3 p3 q3 => ?_)
      obtain ⟨f3, e3, R3⟩ := q3
      have g3 := g2.tr f3
      refine ⟨_, rfl, pre_eq g3.1, g3, Or.inr ⟨rfl, u.2, ?_, ⟨tbX_fix hF h92 g3, hT.tb h92 g3, by rw [e3]; exact m3, hu.2.2⟩, ?_⟩⟩
      · show (nN tp 1 h (.ok v.2)).2 = _
        rw [nN_some m1]
      · have : (nN tp 1 h (.ok v.2)).1 = u.1 := by rw [nN_some m1]
        show RTab τ3 a (setT T l ((T l).1, (T l).2.1, v.1, (nN tp 1 h (.ok v.2)).1))
        rw [this]
        exact R3
theorem okT0 (hT : okTab T) {l : Nat} (hl : l < 26) (h : (T l).1 = 0) : (T l).2.2 = (0, 0) := by
  have := hT l hl
  refine Prod.ext ?_ ?_
  · show (T l).2.2.1 = 0; omega
  · show (T l).2.2.2 = 0; omega
/-- what is left where a sign is told: its end -/
def sgE (tp : List Int) (T' : Tb) (p1 : Nat) : Except Nat (Tb × Nat) := match nMk tp 59 (.ok p1) with
  | .error f => .error f
  | .ok q => .ok (T', q)
theorem c_Reader_readTold (hS : StrE E) (hq : RQ σ tp q) (hR : RTab σ a T) (hT : okTab T) (htd : tdN T ≤ 12) (hnb : nbk tp q = nbk tp p) (hp : p ≤ tp.length) : WMi E m_Reader_readTold (d + 6) [aP 12] σ (fun r τ => Fr (tbX a) σ τ ∧ ((r = 0 ∧ ∃ f : Nat, rdSgn tp T p = .error f ∧ τ.1 12 6 = (f : Int)) ∨ (r = 1 ∧ ∃ (T' : Tb) (p1 q1 : Nat), rdSgn tp T p = sgE tp T' p1 ∧ (nbk tp q1 = nbk tp p1 ∧ p1 ≤ tp.length) ∧ RQ τ tp q1 ∧ RTab τ a T'))) := by
  obtain ⟨hF, hRT, h6, hql⟩ := hq
  have h92 := hR.1
  have hnp := nbk_b hp
  have hlb := letN_b (tp := tp) (p := p)
  have hri : rI (letN tp p) := by unfold rI; omega
  refine e_Reader_readTold hF (WMi.mono (c_Reader_nextLetter (d := d + 3) hF hRT h6 hql) (fun v1 τ1 p1 q1 => ?_))
  rw [letN_nb hnb, hnb] at q1
  obtain ⟨rfl, f1, e1⟩ := q1
  have F1 := f1.fix hF (by decide)
  have g1 : Fr (tbX a) σ τ1 := f1.mono at_tb
  have R1 := hR.go f1
  have Q1 : RQ τ1 tp (nbk tp p) := RQ.go ⟨hF, hRT, h6, hql⟩ f1 e1 hnp.2
  have e7 := R1.2.1
  have bad : (letN tp p = -1 ∨ 0 < (T (letN tp p).toNat).1 ∨ tdN T = 12) → ∃ v, some (aI 0) = some (aI v) ∧ σ.2 <+: τ1.2 ∧ Fr (tbX a) σ τ1 ∧ ((v = 0 ∧ ∃ f : Nat, rdSgn tp T p = .error f ∧ τ1.1 12 6 = (f : Int)) ∨ (v = 1 ∧ ∃ (T' : Tb) (p1 q1 : Nat), rdSgn tp T p = sgE tp T' p1 ∧ (nbk tp q1 = nbk tp p1 ∧ p1 ≤ tp.length) ∧ RQ τ1 tp q1 ∧ RTab τ1 a T')) := fun hb => ⟨_, rfl, pre_eq g1.1, g1, Or.inl ⟨rfl, nbk tp p, by unfold rdSgn; rw [if_pos hb], e1⟩⟩
  refine ⟨F1, hri, fun c => bad (Or.inl c), fun c => ?_⟩
  have hl : 0 ≤ letN tp p ∧ letN tp p < 26 ∧ tk tp p = 1 ∧ te tp p = nbk tp p + 1 := by rcases hlb with q | q; exact absurd q c; exact q
  obtain ⟨l, hle⟩ : ∃ l : Nat, letN tp p = (l : Int) := ⟨(letN tp p).toNat, by omega⟩
  have hl26 : l < 26 := by omega
  have hlt : nbk tp p < tp.length := (tk_1.mp hl.2.2.1).1
  have hln : (letN tp p).toNat = l := by omega
  have htw : tb tW T (l : Int) = (T l).1 := tb_nat hl26
  have hr0 := (hT.r l hl26).1
  rw [hln] at bad
  rw [e7, hle]
  refine ⟨R1.2.2.2.2.1, wmi_p (c_Table_has (d := d + 4) R1.2.2.2 hT (by omega)) ⟨F1, b2i_r _, fun c2 => bad ?_, fun c2 => ⟨by rw [e7]; exact R1.2.2.2.2.1, ?_⟩⟩⟩
  · rw [b2i_n0, htw] at c2; exact Or.inr (Or.inl c2)
  · rw [b2i_0, htw] at c2
    rw [e7]
    have etd : nL (fun l => decide (0 < (T l).1)) 26 = tdN T := rfl
    refine wmi_p (c_Table_told (d := d + 4) R1.2.2.2 hT) ⟨F1, by rw [etd]; omega, fun c3 => ?_, fun c3 => bad (Or.inr (Or.inr (by rw [etd] at c3; omega)))⟩
    rw [etd] at c3
    have hz := okT0 hT hl26 (by omega)
    rw [e1]
    have fw : Fr atX τ1 (wr τ1 12 6 ((nbk tp p : Int) + 1)) := Fr.wr (frO_k (by decide))
    have Q2 := Q1.go fw (q' := nbk tp p + 1) (by rw [wr_same]; omega) (by omega)
    have R2 := R1.go fw
    have g2 := g1.tr (fw.mono at_tb)
    generalize wr τ1 12 6 ((nbk tp p : Int) + 1) = τ2 at *
    have hng : ¬ (letN tp p = -1 ∨ 0 < (T (letN tp p).toNat).1 ∨ tdN T = 12) := by rw [hln]; omega
    have esp : rdSgn tp T p = match nMk tp 59 (rdCor tp (nN tp 1 12 (.ok (nbk tp p + 1))).1 (nN tp 1 12 (nN tp 1 12 (.ok (nbk tp p + 1))).2).1 (nN tp 1 12 (nN tp 1 12 (.ok (nbk tp p + 1))).2).2).2 with
        | .error f => .error f
        | .ok q => .ok (setT T l ((nN tp 1 12 (.ok (nbk tp p + 1))).1, (nN tp 1 12 (nN tp 1 12 (.ok (nbk tp p + 1))).2).1, (rdCor tp (nN tp 1 12 (.ok (nbk tp p + 1))).1 (nN tp 1 12 (nN tp 1 12 (.ok (nbk tp p + 1))).2).1 (nN tp 1 12 (nN tp 1 12 (.ok (nbk tp p + 1))).2).2).1), q) := by
      unfold rdSgn
      rw [if_neg hng, hln]
      rfl
    refine WMi.mono (c_Reader_readNumber (d := d + 3) Q2.1 Q2.2.1 Q2.2.2.1 Q2.2.2.2 (by omega) (by omega)) (fun v3 τ3 p3 q3 => ?_)
    obtain ⟨f3, hr3⟩ := q3
    have F3 := f3.fix Q2.1 (by decide)
    have g3 := g2.tr (f3.mono at_tb)
    rcases hr3 with ⟨k1, rfl, k3⟩ | ⟨v, k1, rfl, k3⟩
    · refine ⟨F3, by decide, fun c => absurd rfl c, fun _ => b_Reader_readTold_69 _ _ _ F3 ⟨by decide, fun c => absurd rfl c, fun _ => ⟨_, rfl, pre_eq g3.1, g3, Or.inl ⟨rfl, nbk tp (nbk tp p + 1), ?_, k3⟩⟩⟩⟩
      rw [esp, nN_none k1]
      rfl
    · have hv := rdN_b Q2.2.2.2 k1
      have Q3 := Q2.go f3 k3 hv.2.2
      have R3 := R2.go f3
      rw [nN_some k1] at esp
      refine ⟨F3, by omega, fun _ => WMi.mono (c_Reader_readNumber (d := d + 3) Q3.1 Q3.2.1 Q3.2.2.1 Q3.2.2.2 (by omega) (by omega)) (fun v4 τ4 p4 q4 => ?_), fun c => by omega⟩
      obtain ⟨f4, hr4⟩ := q4
      have F4 := f4.fix F3 (by decide)
      have g4 := g3.tr (f4.mono at_tb)
      rcases hr4 with ⟨m1, rfl, m3⟩ | ⟨u, m1, rfl, m3⟩
      · refine b_Reader_readTold_69 _ _ _ F4 ⟨by decide, fun c => absurd rfl c, fun _ => ⟨_, rfl, pre_eq g4.1, g4, Or.inl ⟨rfl, nbk tp v.2, ?_, m3⟩⟩⟩
        rw [esp]
        show (match nMk tp 59 (rdCor tp v.1 (nN tp 1 12 (.ok v.2)).1 (nN tp 1 12 (.ok v.2)).2).2 with | .error f => .error f | .ok q => _ : Except Nat (Tb × Nat)) = _
        rw [nN_none m1]
        rfl
      · have hu := rdN_b Q3.2.2.2 m1
        have Q4 := Q3.go f4 m3 hu.2.2
        have R4 := R3.go f4
        have e74 := R4.2.1
        have esp2 : rdSgn tp T p = match nMk tp 59 (rdCor tp v.1 u.1 (.ok u.2)).2 with
            | .error f => .error f
            | .ok q => .ok (setT T l (v.1, u.1, (rdCor tp v.1 u.1 (.ok u.2)).1), q) := by
          rw [esp]
          show (match nMk tp 59 (rdCor tp v.1 (nN tp 1 12 (.ok v.2)).1 (nN tp 1 12 (.ok v.2)).2).2 with | .error f => .error f | .ok q => .ok (setT T l (v.1, (nN tp 1 12 (.ok v.2)).1, (rdCor tp v.1 (nN tp 1 12 (.ok v.2)).1 (nN tp 1 12 (.ok v.2)).2).1), q) : Except Nat (Tb × Nat)) = _
          rw [nN_some m1]
        refine b_Reader_readTold_69 _ _ _ F4 ⟨by omega, fun _ => ⟨by rw [e74]; exact R4.2.2.2.2.1, ?_⟩, fun c => by omega⟩
        rw [e74]
        refine WMv.mono (c_Table_tell hl26 R4 (by omega) (by omega)) (fun τ5 p5 q5 => ?_)
        obtain ⟨f5, e5, R5⟩ := q5
        rw [hz] at R5
        have g5 := g4.tr f5
        have Q5 : RQ τ5 tp u.2 := ⟨tbX_fix hF h92 g5, hRT.tb h92 g5, by rw [e5]; exact m3, hu.2.2⟩
        refine ⟨Q5.1, hS.2.2.2.2.2.1, WMi.mono (c_Reader_takeWord (k := 3) (d := d + 1) hS Q5.1 Q5.2.1 Q5.2.2.1 Q5.2.2.2 (by decide) rfl) (fun v6 τ6 p6 q6 => ?_)⟩
        obtain ⟨rfl, f6, e6⟩ := q6
        have F6 := f6.fix Q5.1 (by decide)
        have g6 := g5.tr (f6.mono at_tb)
        have R6 := R5.go f6
        have hn2 := nbk_b hu.2.2
        refine ⟨F6, b2i_r _, fun c4 => ?_, fun c4 => ?_⟩
        · rw [b2i_0] at c4
          have c4' : isW tp u.2 3 = false := by simpa using c4
          rw [c4', if_neg (by decide)] at e6
          have ecor : rdCor tp v.1 u.1 (.ok u.2) = ((0, 0), .ok u.2) := if_neg c4
          refine ⟨_, rfl, pre_eq g6.1, g6, Or.inr ⟨rfl, setT T l (v.1, u.1, (0, 0)), u.2, nbk tp u.2, ?_, ⟨nbk_i hu.2.2, hu.2.2⟩, Q5.go f6 e6 hn2.2, R6⟩⟩
          rw [esp2, ecor]
          rfl
        · rw [b2i_n0] at c4
          rw [c4, if_pos rfl] at e6
          have hte := te_b hu.2.2
          have Q6 := Q5.go f6 e6 hte.2.1
          have ecor : rdCor tp v.1 u.1 (.ok u.2) = (((nN tp 1 v.1 (.ok (te tp u.2))).1, (nN tp 1 u.1 (nN tp 1 v.1 (.ok (te tp u.2))).2).1), (nN tp 1 u.1 (nN tp 1 v.1 (.ok (te tp u.2))).2).2) := if_pos c4
          have hsl : setT T l (v.1, u.1, 0, 0) l = (v.1, u.1, 0, 0) := if_pos rfl
          refine WMi.mono (c_Reader_readCore (d := d + 2) hl26 Q6 R6 rfl hte.2.1 (by omega) (by omega)) (fun v7 τ7 p7 q7 => ?_)
          obtain ⟨f7, hr7⟩ := q7
          have g7 := g6.tr f7
          rcases hr7 with ⟨rfl, f, n1, n2⟩ | ⟨rfl, p9, n1, n2, n3⟩
          · refine ⟨by decide, fun _ => ⟨_, rfl, pre_eq g7.1, g7, Or.inl ⟨rfl, f, ?_, n2⟩⟩, fun c => absurd rfl c⟩
            rw [esp2, ecor]
            show (match nMk tp 59 (nN tp 1 u.1 (nN tp 1 v.1 (.ok (te tp u.2))).2).2 with | .error f => .error f | .ok q => _ : Except Nat (Tb × Nat)) = _
            rw [n1]
            rfl
          · refine ⟨by decide, fun c => absurd c (by decide), fun _ => ⟨_, rfl, pre_eq g7.1, g7, Or.inr ⟨rfl, _, p9, p9, ?_, ⟨rfl, n2.2.2.2⟩, n2, n3⟩⟩⟩
            rw [esp2, ecor, hsl, setT2]
            show (match nMk tp 59 (nN tp 1 u.1 (nN tp 1 v.1 (.ok (te tp u.2))).2).2 with | .error f => .error f | .ok q => _ : Except Nat (Tb × Nat)) = _
            rw [n1]
            rfl
end CRTold
