/-! THE READER: lines -/
theorem RTab.cf {n m : Nat} {X : List (Int × Int)} {σ τ : St} {a : Int} {T : Tb} (h : RTab σ a T) (hf : Cf n m X σ τ) (hX : imX X = true) (h7 : frO X 12 7 = true) (hl : 92 ≤ σ.2.length) : RTab τ a T := by
  obtain ⟨h92, e7, h4, h5⟩ := h
  have la := (sh_len h5.2.1).2
  have e : ∀ k, τ.1 a k = σ.1 a k := fun k => hf.2.2 a k la (imX_o hX (Or.inr h92) k)
  refine ⟨h92, (hf.2.2 12 7 (by omega) h7).trans e7, ?_, h5.cf hf hX⟩
  rw [e, e, e, e]
  exact h4
theorem RT.cf {n m : Nat} {X : List (Int × Int)} {σ τ : St} {tp : List Int} (h : RT σ tp) (hf : Cf n m X σ τ) (hl : 92 ≤ σ.2.length) (h1 : frO X 12 5 = true) (h2 : ∀ j, frO X 13 j = true) : RT τ tp := ⟨(hf.2.2 _ _ (by omega) h1).trans h.1, fun i x hx => (hf.2.2 _ _ (by omega) (h2 _)).trans (h.2.1 i x hx), h.2.2⟩
section CRLine
variable {E : EV} {d : Nat} {σ : St} {tp : List Int} {T : Tb} {a B : Int} {p q : Nat}
theorem c_Reader_keepLine {m : Nat} {Ls : List Tr} {lf : Bool} {v : Int} (hF : Fix σ) (hn : 1 ≤ Ls.length ∧ Ls.length ≤ 8) (hm : σ.1 12 8 = (m : Int)) (hm4 : m < 4) (hsq : ∀ (i : Nat) (t : Tr), Ls[i]? = some t → SqC B σ (σ.1 16 i) t) (hB : 92 ≤ B ∧ B ≤ σ.2.length) (hv : v = (if lf then 1 else 0)) : WMi E m_Reader_keepLine (d + 2) [aP 12, aI (Ls.length : Nat), aI v] σ (fun r τ => r = 1 ∧ Cf 2 (Ls.length + 2) [(17, -1), (12, 8)] σ τ ∧ τ.1 12 8 = (m : Int) + 1 ∧ (∀ j, j ≠ (m : Int) → τ.1 17 j = σ.1 17 j) ∧ LnC B τ (τ.1 17 m) (lf, Ls)) := by
  have hl := hF.len
  refine e_Reader_keepLine _ _ ⟨by omega, by omega, ?_⟩
  rw [show (max 0 ((Ls.length : Nat) : Int)).toNat = Ls.length by omega]
  refine lpu Ls.length (fun k τ => WP E m_Reader_keepLine (d + 2) 12 [(0, aP 12), (2, aI v), (3, aP (nx σ)), (4, aI k)] [] τ _) (fun k τ => (0 ≤ k ∧ k ≤ Ls.length) ∧ Nw 24 σ Ls.length (fun j => σ.1 16 j) k τ) (fun k τ hI ih => ?_) 0 _ ⟨by omega, Nw.start _ _ _ _⟩
  obtain ⟨i1, i2⟩ := hI
  have hc := i2.cf []
  have hT := hc.fix hF rfl
  have eo : ∀ b j, b ≤ 92 → τ.1 b j = σ.1 b j := fun b j hb => i2.2.1 b j (by unfold nx; omega)
  refine b_Reader_keepLine_12 _ _ _ hT ⟨⟨_, i2.sh_⟩, by omega, by rw [ln_of i2.sh_]; omega, fun c => ?_, fun c => ?_⟩
  · rw [ln_of i2.sh_] at c
    obtain rfl : k = Ls.length := by omega
    have h8 : τ.1 12 8 = (m : Int) := (eo 12 8 (by omega)).trans hm
    refine b_Reader_keepLine_46 _ _ hT ⟨by omega, fun _ => ⟨nx_pos _, ?_⟩, fun c2 => by omega⟩
    have hs1 : sh (al τ 3 2) (nx τ) = some (3, 2) := sh_nx τ 3 2
    have n2 : New2 24 3 2 σ Ls.length (fun j => σ.1 16 j) (nx τ) (wr (wr (al τ 3 2) (nx τ) 0 (nx σ)) (nx τ) 1 v) := by
      refine i2.new2 (ci := 3) (N := 2) ?_ (fun b j hb => ?_) ?_
      · rw [wr_2, wr_2]
      · rw [wr_na _ hb, wr_na _ hb]; exact if_neg hb
      · rw [wr_nk _ (by decide), wr_same]
    have hln := n2.ln (b := B) (l := lf) (by rw [wr_same]; exact hv) hB.2 hsq
    have h01 : v = 0 ∨ v = 1 := by rw [hv]; split <;> simp
    have hc2 : Cf 2 (Ls.length + 2) [(17, -1), (12, 8)] σ (wr (wr (al τ 3 2) (nx τ) 0 (nx σ)) (nx τ) 1 v) := n2.1.mono (Nat.le_refl _) (Nat.le_refl _) rfl
    have eo2 : ∀ b j, b ≤ 92 → (wr (wr (al τ 3 2) (nx τ) 0 (nx σ)) (nx τ) 1 v).1 b j = σ.1 b j := fun b j hb => n2.1.2.2 b j (by omega) rfl
    have hs3 : sh (wr (wr (al τ 3 2) (nx τ) 0 (nx σ)) (nx τ) 1 v) (nx τ) = some (3, 2) := hs1
    rw [h8]
    refine e_Line_init _ _ _ ⟨nx_pos τ, hs1, h01, hs1, rfl, List.prefix_refl _, ?_⟩
    generalize wr (wr (al τ 3 2) (nx τ) 0 (nx σ)) (nx τ) 1 v = υ at *
    rw [eo2 12 8 (by omega), hm]
    have hc3 : Cf 2 (Ls.length + 2) [(17, -1), (12, 8)] σ (wr (wr υ 17 m (nx τ)) 12 8 ((m : Int) + 1)) := (hc2.wr_ (frO_a (by decide) _)).wr_ (frO_k (by decide))
    refine ⟨n2.1.fix hF rfl, by omega, Or.inr hs3, _, rfl, hc3.1, rfl, hc3, wr_same _ _ _ _, fun j hj => ?_, ?_⟩
    · rw [wr_na _ (by decide), wr_nk _ hj, eo2 17 j (by omega)]
    · have e17 : (wr (wr υ 17 m (nx τ)) 12 8 ((m : Int) + 1)).1 17 m = nx τ := by rw [wr_na _ (by decide), wr_same]
      rw [e17]
      have f1 : Fr [(17, -1), (12, 8)] υ (wr (wr υ 17 m (nx τ)) 12 8 ((m : Int) + 1)) := (Fr.wr (frO_a (by decide) _)).tr (Fr.wr (frO_k (by decide)))
      exact hln.cf (f1.cf 0 0) (imX_lt rfl hB.1)
  · rw [ln_of i2.sh_] at c
    obtain ⟨t, ht⟩ : ∃ t, Ls[k.toNat]? = some t := ⟨_, List.getElem?_eq_getElem (by omega)⟩
    have hs := hsq _ t ht
    rw [show ((k.toNat : Nat) : Int) = k by omega] at hs
    refine ⟨by omega, fun c2 => by omega, fun c2 => ⟨by omega, ⟨_, i2.sh_, by omega, by omega, by omega⟩, Or.inr ?_, ih (by omega) _ ⟨by omega, i2.step ?_⟩⟩⟩
    · rw [eo 16 k (by omega)]; exact sh_pre hc.1 hs.2.1
    · rw [eo 16 k (by omega)]
/-- what is left where a line is read: its end -/
def lnE (tp : List Int) (L : Ln) (p1 : Nat) : Except Nat (Ln × Nat) := match nMk tp 59 (.ok p1) with
  | .error f => .error f
  | .ok p3 => .ok (L, p3)
def lqX : List (Int × Int) := [(12, 6), (12, 8), (12, 11), (14, 1), (15, -1), (16, -1), (17, -1)]
def lsX : List (Int × Int) := [(12, 6), (12, 11), (14, 1), (15, -1), (16, -1)]
theorem c_Reader_readLine {m : Nat} (hS : StrE E) (hq : RQ σ tp q) (hR : RTab σ a T) (hT : okTab T) (hnb : nbk tp q = nbk tp p) (hp : p ≤ tp.length) (hm : σ.1 12 8 = (m : Int)) (hm4 : m < 4) (hB : a + 4 ≤ σ.2.length) : WMi E m_Reader_readLine (d + 30) [aP 12] σ (fun r τ => Cf 18 300 lqX σ τ ∧ ((r = 0 ∧ ∃ f : Nat, rdLn tp T p = .error f ∧ τ.1 12 6 = (f : Int)) ∨ (r = 1 ∧ ∃ (L : Ln) (p1 q1 : Nat), rdLn tp T p = lnE tp L p1 ∧ (nbk tp q1 = nbk tp p1 ∧ p1 ≤ tp.length) ∧ RQ τ tp q1 ∧ τ.1 12 8 = (m : Int) + 1 ∧ (∀ j, j ≠ (m : Int) → τ.1 17 j = σ.1 17 j) ∧ LnC (a + 4) τ (τ.1 17 m) L))) := by
  have hF := hq.1
  have hl := hF.len
  have h92 := hR.1
  have hnp := nbk_b hp
  have hte := te_b hp
  have hB2 : (92 : Int) ≤ a + 4 := by omega
  refine e_Reader_readLine hF ⟨hS.2.2.2.2.2.2.2, WMi.mono (c_Reader_takeWord (k := 5) (d := d + 25) hS hF hq.2.1 hq.2.2.1 hq.2.2.2 (by decide) rfl) (fun v1 τ1 p1 q1 => ?_)⟩
  rw [isW_nb hnb, te_nb hnb, hnb] at q1
  obtain ⟨rfl, f1, e1⟩ := q1
  -- where the squares begin
  obtain ⟨P0, Q0, hP0, hQ0, hPQ, hq0, hp0⟩ : ∃ P0 Q0 : Nat, P0 = (if isW tp p 5 then te tp p else p) ∧ τ1.1 12 6 = (Q0 : Int) ∧ nbk tp Q0 = nbk tp P0 ∧ Q0 ≤ tp.length ∧ P0 ≤ tp.length := by
    cases hw : isW tp p 5 with
    | true => rw [hw, if_pos rfl] at e1; exact ⟨te tp p, te tp p, rfl, e1, rfl, hte.2.1, hte.2.1⟩
    | false => rw [hw, if_neg (by decide)] at e1; exact ⟨p, nbk tp p, rfl, e1, nbk_i hp, hnp.2, hp⟩
  have Q1 := hq.go f1 hQ0 hq0
  have R1 := hR.go f1
  have hsp : rdLn tp T p = match rdSqs tp T 8 [] P0 with
      | .error f => .error f
      | .ok (L, p2) => lnE tp (isW tp p 5, L) p2 := by
    unfold rdLn lnE
    rw [hP0]
    rfl
  have c1 : Cf 0 0 lsX σ τ1 := (f1.cf 0 0).mono (Nat.le_refl _) (Nat.le_refl _) (by decide)
  have key : ∀ z : List Tr × Nat × Nat × St, ((z.1.length < 8 ∧ Cf (2 * z.1.length) (25 * z.1.length) lsX σ z.2.2.2) ∧ (RQ z.2.2.2 tp z.2.1 ∧ nbk tp z.2.1 = nbk tp z.2.2.1 ∧ z.2.2.1 ≤ tp.length) ∧ (∀ (i : Nat) (t : Tr), z.1[i]? = some t → SqC (a + 4) z.2.2.2 (z.2.2.2.1 16 i) t) ∧ rdSqs tp T 8 [] P0 = rdSqs tp T (8 - z.1.length) z.1 z.2.2.1) → WP E m_Reader_readLine (d + 30) 9 [(0, aP 12), (1, aI (b2i (isW tp p 5 = true))), (2, aI (z.1.length : Nat))] [] z.2.2.2 (fun r τ => ∃ v, r = some (aI v) ∧ σ.2 <+: τ.2 ∧ Cf 18 300 lqX σ τ ∧ ((v = 0 ∧ ∃ f : Nat, rdLn tp T p = .error f ∧ τ.1 12 6 = (f : Int)) ∨ (v = 1 ∧ ∃ (L : Ln) (p1 q1 : Nat), rdLn tp T p = lnE tp L p1 ∧ (nbk tp q1 = nbk tp p1 ∧ p1 ≤ tp.length) ∧ RQ τ tp q1 ∧ τ.1 12 8 = (m : Int) + 1 ∧ (∀ j, j ≠ (m : Int) → τ.1 17 j = σ.1 17 j) ∧ LnC (a + 4) τ (τ.1 17 m) L))) := by
    refine lpx (fun z => 8 - z.1.length) _ _ (fun z hI ih => ?_)
    obtain ⟨acc, q0, p0, τ⟩ := z
    obtain ⟨⟨i1, i2⟩, ⟨i3, i4, i5⟩, i6, i7⟩ := hI
    simp only at i1 i2 i3 i4 i5 i6 i7 ih ⊢
    have hFT := i3.1
    have big : ∀ {υ : St}, Cf (2 * acc.length + 2) (25 * acc.length + 25) lsX σ υ → Cf 18 300 lqX σ υ := fun c => c.mono (by omega) (by omega) (by decide)
    refine b_Reader_readLine_9 _ _ hFT ⟨by omega, fun c => by omega, fun _ => WMv.mono (c_Draft_clear hFT.dr2) (fun τ2 p2 q2 => ?_)⟩
    have fw : Fr lsX τ (wr τ2 12 11 0) := (q2.1.mono (by decide)).tr (Fr.wr (frO_k (by decide)))
    have F2 := q2.1.fix hFT (by decide)
    have fw1 : Fr [(12, 11), (14, 1), (15, -1)] τ (wr τ2 12 11 0) := (q2.1.mono (by decide)).tr (Fr.wr (frO_k (by decide)))
    have fw2 : Fr [(12, 11)] τ2 (wr τ2 12 11 0) := Fr.wr (frO_k (by decide))
    have cT : Cf (2 * acc.length) (25 * acc.length) lsX σ (wr τ2 12 11 0) := i2.tr (fw.cf 0 0)
    have RTt := hR.cf i2 rfl rfl hl
    have Rw := RTt.cf (fw.cf 0 0) rfl rfl hFT.len
    have hI : RI (wr τ2 12 11 0) tp T q0 0 [] := by
      refine ⟨⟨fw.fix hFT (by decide), i3.2.1.keep fw1 rfl (fun _ => rfl), by rw [Rw.2.1]; exact Rw.2.2.2⟩, ⟨(fw1.2 _ _ rfl).trans i3.2.2.1, i3.2.2.2⟩, wr_same _ _ _ _, q2.2.keep fw2 rfl rfl (fun _ => rfl)⟩
    generalize wr τ2 12 11 0 = τ3 at *
    have hgr := c_groups (E := E) (tp := tp) hT tp.length (d + 29) (tp.length + 1) none [] p0 q0 0 [] τ3 0 0 (by omega) (by simp) rfl rfl (by decide) (by simp only [List.length_nil]; omega) hI i4 i5 (by omega) (by omega) (by simp)
    refine ⟨F2, WMi.mono hgr (fun v4 τ4 p4 q4 => ?_)⟩
    obtain ⟨f4, hr4⟩ := q4
    have F4 := f4.fix hI.1.1 (by decide)
    have c4 : Cf (2 * acc.length) (25 * acc.length) lsX σ τ4 := cT.tr ((f4.mono (by decide)).cf 0 0)
    have hrs : rdSqs tp T (8 - acc.length) acc p0 = match rdSquare tp T p0 with
        | .error f => .error f
        | .ok (t, p1) => if byt tp (nbk tp p1) = 45 then (if acc.length + 1 = 8 then .error (nbk tp p1) else rdSqs tp T (8 - (acc.length + 1)) (acc ++ [t]) (nbk tp p1 + 1)) else .ok (acc ++ [t], p1) := by
      obtain ⟨k, hk⟩ : ∃ k, 8 - acc.length = k + 1 := ⟨7 - acc.length, by omega⟩
      rw [hk, show 8 - (acc.length + 1) = k by omega]
      rfl
    have hsqr : rdSquare tp T p0 = runS tp T (tp.length + 1) ((none, none, none) :: []) p0 0 := rfl
    rcases hr4 with ⟨rfl, f, k1, k2⟩ | ⟨rfl, g, t, R, P, p5, q5, m5, ⟨t1, t2, t3⟩, r5, ⟨k1, k2, k3⟩, k4, k5, k6, k7, k8⟩
    · refine ⟨F4, by decide, fun q => absurd rfl q, fun _ => ⟨_, rfl, c4.1, big (c4.mono (by omega) (by omega) (by decide)), Or.inl ⟨rfl, f, ?_, k2⟩⟩⟩
      rw [hsp, i7, hrs, hsqr, k1]
    · have hsq5 : rdSquare tp T p0 = .ok (nrm g, p5) := by
        rw [hsqr, k5]
        unfold cont
        rw [endP, if_neg k7, if_neg k8, if_pos (by rfl), k6]
      rw [hsq5] at hrs
      dsimp only at hrs
      have hko := (rdSquare_ok hT i5 hsq5).2
      have hcc := hko.cc
      rw [List.nil_append] at r5
      refine ⟨F4, by decide, fun _ => WMv.mono (c_Draft_makeNormal (d := d + 26) r5.2.2.2 t1) (fun τ5 p6 q6 => ?_), fun q => absurd q (by decide)⟩
      have F5 := q6.1.fix F4 (by decide)
      have c5 : Cf (2 * acc.length) (25 * acc.length) lsX σ τ5 := c4.tr ((q6.1.mono (by decide)).cf 0 0)
      refine ⟨F5, WMr.mono (c_Draft_made (d := d + 27) q6.2 (by omega)) (fun v6 τ6 p7 q7 => ?_)⟩
      obtain ⟨rfl, c6, s6⟩ := q7
      have F6 := c6.fix F5 rfl
      have c7 : Cf (2 * acc.length + 2) (25 * acc.length + 25) lsX σ τ6 := c5.tr (c6.mono (Nat.le_refl _) (by omega) rfl)
      have l5 := c5.1.length_le
      have fw6 : Fr lsX τ6 (wr τ6 16 acc.length (nx τ5)) := Fr.wr (frO_a (by decide) _)
      have c8 : Cf (2 * acc.length + 2) (25 * acc.length + 25) lsX σ (wr τ6 16 acc.length (nx τ5)) := c7.tr (fw6.cf 0 0)
      have hnq5 := nbk_b r5.2.1.2
      have e6 : (wr τ6 16 acc.length (nx τ5)).1 12 6 = (q5 : Int) := by
        rw [wr_na _ (by decide), c6.2.2 12 6 (by have := F5.len; omega) rfl, q6.1.2 12 6 rfl]
        exact r5.2.1.1
      have rt8 : RT (wr τ6 16 acc.length (nx τ5)) tp := hq.2.1.cf c8 hl rfl (fun _ => rfl)
      have Q8 : RQ (wr τ6 16 acc.length (nx τ5)) tp q5 := ⟨fw6.fix F6 (by decide), rt8, e6, r5.2.1.2⟩
      have e16 : ∀ j, j ≠ (acc.length : Int) → (wr τ6 16 acc.length (nx τ5)).1 16 j = τ.1 16 j := fun j hj => by
        rw [wr_nk _ hj, c6.2.2 16 j (by have := F5.len; omega) rfl, q6.1.2 16 j rfl, f4.2 16 j rfl, fw1.2 16 j rfl]
      have hsq8 : ∀ (i : Nat) (u : Tr), (acc ++ [nrm g])[i]? = some u → SqC (a + 4) (wr τ6 16 acc.length (nx τ5)) ((wr τ6 16 acc.length (nx τ5)).1 16 i) u := by
        intro i u hu
        by_cases hi : i < acc.length
        · rw [List.getElem?_append_left hi] at hu
          rw [e16 i (by omega)]
          have s0 := i6 i u hu
          have s1 := s0.cf (fw.cf 0 0) (imX_lt rfl hB2)
          have s2 := s1.cf (f4.cf 0 0) (imX_lt rfl hB2)
          have s3 := s2.cf (q6.1.cf 0 0) (imX_lt rfl hB2)
          have s4 := s3.cf c6 (imX_lt rfl hB2)
          exact s4.cf (fw6.cf 0 0) (imX_lt rfl hB2)
        · have hlt := (List.getElem?_eq_some_iff.mp hu).1
          simp only [List.length_append, List.length_singleton] at hlt
          obtain rfl : i = acc.length := by omega
          have hug : u = nrm g := by simpa using hu.symm
          subst hug
          rw [wr_same]
          have s0 : SqC (a + 4) τ6 (nx τ5) (nrm g) := SqC.lo (b := τ5.2.length) s6 (by omega)
          exact s0.cf (fw6.cf 0 0) (imX_lt rfl hB2)
      have hm8 : (wr τ6 16 acc.length (nx τ5)).1 12 8 = (m : Int) := (c8.2.2 12 8 (by omega) rfl).trans hm
      have e17 : ∀ j, (wr τ6 16 acc.length (nx τ5)).1 17 j = σ.1 17 j := fun j => c8.2.2 17 j (by omega) rfl
      have l8 := c8.1.length_le
      refine ⟨F6, by omega, Or.inr s6.2.1, ?_⟩
      generalize wr τ6 16 acc.length (nx τ5) = τ8 at *
      refine WMi.mono (c_Reader_next (d := d + 28) Q8.1 Q8.2.1 Q8.2.2.1 Q8.2.2.2) (fun v9 τ9 p9 q9 => ?_)
      rw [k1] at q9
      obtain ⟨rfl, f9, e9⟩ := q9
      have hn5 := nbk_b k2
      have Q9 := Q8.go f9 (q' := nbk tp p5) e9 hn5.2
      have c9 : Cf (2 * acc.length + 2) (25 * acc.length + 25) lsX σ τ9 := c8.tr ((f9.mono (by decide)).cf 0 0)
      have hb9 := byt_b hq.2.1.2.2.2 (nbk tp p5)
      have hsq9 : ∀ (i : Nat) (u : Tr), (acc ++ [nrm g])[i]? = some u → SqC (a + 4) τ9 (τ9.1 16 i) u := fun i u hu => by
        rw [f9.2 16 i rfl]; exact (hsq8 i u hu).cf (f9.cf 0 0) (imX_lt rfl hB2)
      refine ⟨Q9.1, by omega, fun c => ⟨by omega, fun c2 => ?_, fun c2 => ?_⟩, fun c => ?_⟩
      · -- too many squares
        rw [if_pos c, if_pos (by omega)] at hrs
        refine b_Reader_readLine_100 _ _ (b_Reader_readLine_9 _ _ Q9.1 ⟨by omega, fun _ => ⟨_, rfl, c9.1, big c9, Or.inl ⟨rfl, nbk tp p5, ?_, e9⟩⟩, fun c3 => absurd (by omega) c3⟩)
        rw [hsp, i7, hrs]
      · rw [if_pos c, if_neg (by omega)] at hrs
        have hlt := byt_lt c (by decide)
        rw [e9]
        have fw9 : Fr atX τ9 (wr τ9 12 6 ((nbk tp p5 : Int) + 1)) := Fr.wr (frO_k (by decide))
        have h9 := ih (acc ++ [nrm g], nbk tp p5 + 1, nbk tp p5 + 1, wr τ9 12 6 ((nbk tp p5 : Int) + 1)) (by show 8 - (acc ++ [nrm g]).length < 8 - acc.length; simp; omega) ⟨⟨by show (acc ++ [nrm g]).length < 8; simp; omega, by
          show Cf (2 * (acc ++ [nrm g]).length) (25 * (acc ++ [nrm g]).length) lsX σ (wr τ9 12 6 ((nbk tp p5 : Int) + 1))
          have := c9.tr ((fw9.mono (Y := lsX) (by decide)).cf 0 0)
          simp only [List.length_append, List.length_singleton]
          exact this.mono (by omega) (by omega) (by decide)⟩, ⟨Q9.go (q' := nbk tp p5 + 1) fw9 (by rw [wr_same]; omega) (by omega), rfl, by show nbk tp p5 + 1 ≤ _; omega⟩, fun i u hu => by
          show SqC (a + 4) (wr τ9 12 6 ((nbk tp p5 : Int) + 1)) ((wr τ9 12 6 ((nbk tp p5 : Int) + 1)).1 16 i) u
          rw [fw9.2 16 i rfl]
          exact (hsq9 i u hu).cf (fw9.cf 0 0) (imX_lt rfl hB2), by
          show rdSqs tp T 8 [] P0 = rdSqs tp T (8 - (acc ++ [nrm g]).length) (acc ++ [nrm g]) (nbk tp p5 + 1)
          rw [i7, hrs]
          simp only [List.length_append, List.length_singleton]⟩
        simp only [List.length_append, List.length_singleton] at h9
        rw [show ((acc.length + 1 : Nat) : Int) = (acc.length : Int) + 1 by omega] at h9
        exact b_Reader_readLine_100 _ _ h9
      · -- the line ends
        rw [if_neg c] at hrs
        have hlen9 : (acc ++ [nrm g]).length = acc.length + 1 := by simp
        have hkl := c_Reader_keepLine (E := E) (d := d + 27) (m := m) (Ls := acc ++ [nrm g]) (lf := isW tp p 5) (v := b2i (isW tp p 5 = true)) (B := a + 4) Q9.1 (by rw [hlen9]; omega) ((f9.2 _ _ rfl).trans hm8) hm4 hsq9 (by have := c9.1.length_le; omega) (by unfold b2i; rfl)
        rw [hlen9, show ((acc.length + 1 : Nat) : Int) = (acc.length : Int) + 1 by omega] at hkl
        refine WMi.mono hkl (fun v10 τ10 p10 q10 => ?_)
        obtain ⟨rfl, c10, e10, j10, n10⟩ := q10
        have c11 : Cf (2 * acc.length + 2 + 2) (25 * acc.length + 25 + (acc.length + 1 + 2)) lqX σ τ10 := (c9.mono (Nat.le_refl _) (Nat.le_refl _) (by decide)).tr (c10.mono (Nat.le_refl _) (Nat.le_refl _) (by decide))
        have l9 := Q9.1.len
        refine ⟨Or.inr rfl, _, rfl, c11.1, c11.mono (by omega) (by omega) (by decide), Or.inr ⟨rfl, (isW tp p 5, acc ++ [nrm g]), p5, nbk tp p5, ?_, ⟨nbk_i k2, k2⟩, ⟨c10.fix Q9.1 rfl, Q9.2.1.cf c10 l9 rfl (fun _ => rfl), (c10.2.2 12 6 (by omega) rfl).trans e9, hn5.2⟩, e10, fun j hj => ?_, n10⟩⟩
        · rw [hsp, i7, hrs]
        · rw [j10 j hj, f9.2 17 j rfl, e17]
  have h9 := key ([], Q0, P0, τ1) ⟨⟨by show (0 : Nat) < 8; omega, c1.mono (by omega) (by omega) (by decide)⟩, ⟨Q1, hPQ, hp0⟩, fun i t ht => by simp at ht, rfl⟩
  exact h9
end CRLine
