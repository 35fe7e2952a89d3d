/-- joined -/
def jn : Tr → Tr → Tr
  | .mul a b, u => .mul a (jn b u)
  | t, u => .mul t u
theorem jn_isM (t u : Tr) : isM (jn t u) = true := by cases t <;> rfl
theorem jn_ok {t u : Tr} (h : ok t) (hu : ok u) : ok (jn t u) := by
  induction t with
  | mul a b iha ihb => exact ⟨h.1, ihb h.2.1, h.2.2⟩
  | var l => exact ⟨h, hu, rfl⟩
  | pow t l ih => exact ⟨h, hu, rfl⟩
  | add a b iha ihb => exact ⟨h, hu, rfl⟩
  | _ => exact absurd h (by simp [ok])
theorem jn_sg (t u : Tr) : sg (jn t u) = sg t + sg u := by
  induction t with
  | mul a b iha ihb => simp only [jn, sg, ihb]; omega
  | _ => simp [jn, sg]
theorem jn_dcp (t u : Tr) : dcp (jn t u) = max (dcp t) (dcp u) := by
  induction t with
  | mul a b iha ihb => simp only [jn, dcp, ihb]; omega
  | _ => simp [jn, dcp]
theorem jn_tok {T : Tb} {t u : Tr} (h : tok T t) (hu : tok T u) : tok T (jn t u) := by
  induction t with
  | mul a b iha ihb => exact ⟨h.1, ihb h.2⟩
  | _ => exact ⟨h, hu⟩
theorem jn_nM (t u : Tr) : nM (jn t u) = nM t + nM u := by
  induction t with
  | mul a b iha ihb => simp only [jn, nM, ihb]; omega
  | _ => simp [jn, nM]; omega
theorem jn_rc1 {t u : Tr} (h : ok t) : rc 1 (jn t u) = rc 1 t ++ rc 1 u := by
  induction t with
  | mul a b iha ihb => simp [jn, rc, ihb h.2.1]
  | var l => simp [jn, rc]
  | pow t l ih => simp [jn, rc]
  | add a b iha ihb => simp [jn, rc]
  | _ => exact absurd h (by simp [ok])
theorem rc0_M {t : Tr} (h : isM t = true) : rc 0 t = ((nM t : Int) + 200) :: rc 1 t := by
  cases t with
  | mul a b => simp [rc, nM]; omega
  | _ => simp [isM] at h
theorem jn_rc0 {t u : Tr} (h : ok t) : rc 0 (jn t u) = ((nM t + nM u : Nat) + 200 : Int) :: (rc 1 t ++ rc 1 u) := by
  rw [rc0_M (jn_isM t u), jn_nM, jn_rc1 h]
def oneSq (M : Mo) (l s : Int) (L : Ln) (a : Tr) : Mo := setLn M l (L.1, L.2.take s.toNat ++ a :: L.2.drop (s.toNat + 2))
theorem MoAt_one {T : Tb} {f g h2 : Int → Int} {M : Mo} {l s : Int} {L : Ln} {t a : Tr} (h : MoAt f 0 M) (hk : okMo T M) (hl : lnAt M l = some L) (hs : sqIn L s = some t) (hn : s + 1 < L.2.length) (hla : (rc 0 a).length ≤ 20) (e1 : ∀ k, k < plc l s ∨ plc l s + 20 < k → h2 k = f k) (ha : SqAt h2 (plc l s) a) (e2 : ∀ k, g k = gapF h2 l (s + 1) L.2.length k) : MoAt g 0 (oneSq M l s L a) := by
  have p1 : plc l s = 5 + 170 * l + 21 * s := rfl
  have p2 : plc l L.2.length = 5 + 170 * l + 21 * L.2.length := rfl
  have p3 : plc l (s + 1) = 5 + 170 * l + 21 * (s + 1) := rfl
  have b1 := hk.ln hl
  have b3 := sqIn_some hs
  have hL8 := b1.1.1.2
  have hrows := (hk.rows (l.toNat, L) (lnAt_some hl).2.1).2
  refine MoAt_setLn h hl hk.rows (fun k hk2 => ?_) ?_
  · rw [e2 k]
    unfold gapF
    rw [if_neg (by omega), if_neg (by omega), e1 k (by omega)]
  · have h4 := h.ln hl
    rw [show 0 + 3 + 170 * l = 3 + 170 * l by omega] at h4
    have hset := LnAt_setSq (g := h2) (t' := a) h4 ⟨b3.1, b3.2.2⟩ hrows (fun k hk2 => e1 k (by omega)) (by rw [show 3 + 170 * l + 2 + 21 * s = plc l s by omega]; exact ha)
    have hlen : (L.2.set s.toNat a).length = L.2.length := List.length_set
    have := LnAt_del (g := g) (s := s + 1) hset (by show 0 ≤ s + 1 ∧ s + 1 < ((L.2.set s.toNat a).length : Int); omega) (by show (L.2.set s.toNat a).length ≤ 8; omega) (fun u hu => ?_) (fun k _ _ => by show g k = gapF h2 l (s + 1) ((L.2.set s.toNat a).length : Int) k; rw [hlen]; exact e2 k)
    · rw [show (s + 1).toNat = s.toNat + 1 by omega] at this
      rw [← del_two (by omega) a]
      exact this
    · rcases List.mem_or_eq_of_mem_set hu with h5 | h5
      · exact hrows u h5
      · subst h5; exact hla
def sp_join (M : Mo) (l s : Int) : Option Mo := match lnAt M l with
  | none => none
  | some L => match sqIn L s, sqIn L (s + 1) with
    | some t, some u => if sg t + sg u ≤ 10 then some (oneSq M l s L (jn t u)) else none
    | _, _ => none
section MJoin
variable {E : EV} {d : Nat} {σ : St} {T : Tb} {M : Mo} {P : List Mo} {tp : List Int}
theorem nd_M {t : Tr} (h : ok t) (h50 : sg t ≤ 50) : (200 ≤ nd t ∧ nd t ≤ 299) ↔ isM t = true := by
  have h1 := nd_j h h50
  cases t with
  | var l => have h2 : vN l < 26 := h
             have e : nd (.var l) = (vN l : Int) + 1 := rfl
             rw [e]; simp [isM]; omega
  | pow t l => have h2 : l < 26 := h.2
               have e : nd (.pow t l) = (l : Int) + 101 := rfl
               rw [e]; simp [isM]; omega
  | mul a b => have e : nd (.mul a b) = (nM (.mul a b) : Int) + 200 := rfl
               have := nM_le h
               rw [e]; simp [isM]; omega
  | add a b => have e : nd (.add a b) = (nA (.add a b) : Int) + 300 := rfl
               rw [e]; simp [isM]; omega
  | _ => exact absurd h (by simp [ok])
theorem c_M_joins {l s : Int} {t u : Tr} (h : RS σ T M P tp) (hk : okMo T M) (ht : sqAt M l s = some t) (hu : sqAt M l (s + 1) = some u) : WMi E m_M_joins (d + 3) [aP 42, aI l, aI s] σ (fun r τ => Fr scr σ τ ∧ if sg t + sg u ≤ 10 then r = 1 ∧ OwnIs τ (rc 0 (jn t u)) else r = 0) := by
  have hF := h.1.1
  obtain ⟨a1, a2, a3, a4, a5, a6, a7⟩ := h.1.2.2.sq hk ht
  obtain ⟨b1, b2, b3, b4, b5, b6, b7⟩ := h.1.2.2.sq hk hu
  have ht10 := a5.2.1
  have hu10 := b5.2.1
  refine e_M_joins _ _ hF (wmi_p (c_M_signsOf hF a1 a2 a3 (by omega) a4 a7) ⟨hF, wmi_p (c_M_signsOf hF b1 b2 b3 (by omega) b4 b7) ⟨hF, ?_, fun c => ?_, fun c => ?_⟩⟩)
  · rw [rc_cnt a5.1, rc_cnt b5.1]; omega
  · rw [rc_cnt a5.1, rc_cnt b5.1] at c
    -- one turn of the loop
    have turn1 : ∀ (q x3 : Int) (w : Tr) (K : List Int) (τ : St), sqAt M l q = some w → Fr scr σ τ → OwnIs τ K → K.length ≤ 20 → (s ≤ q ∧ q < s + 2) → (0 ≤ x3 ∧ x3 ≤ 20) →
        (∀ υ : St, Fr scr σ υ → OwnIs υ (K ++ rc 1 w) → WP E m_M_joins (d + 3) 38 [(0, aP 42), (1, aI l), (2, aI s), (3, aI (x3 + nM w)), (4, aI (q + 1))] [] υ (fun r τ => ∃ v, r = some (aI v) ∧ σ.2 <+: τ.2 ∧ Fr scr σ τ ∧ if sg t + sg u ≤ 10 then v = 1 ∧ OwnIs τ (rc 0 (jn t u)) else v = 0)) →
        WP E m_M_joins (d + 3) 38 [(0, aP 42), (1, aI l), (2, aI s), (3, aI x3), (4, aI q)] [] τ (fun r τ => ∃ v, r = some (aI v) ∧ σ.2 <+: τ.2 ∧ Fr scr σ τ ∧ if sg t + sg u ≤ 10 then v = 1 ∧ OwnIs τ (rc 0 (jn t u)) else v = 0) := by
      intro q x3 w K τ hw hf hK hKl hq hx3 kk
      have hT := hf.fix hF (by decide)
      obtain ⟨c1, c2, c3, c4, c5, c6, c7⟩ := h.1.2.2.sq hk hw
      have hw10 := c5.2.1
      have hnm := nM_le c5.1
      refine b_M_joins_38 _ _ _ _ hT ⟨by omega, by omega, fun c => by omega, fun _ => WMv.mono (c_M_takes' (h.scr hf) hk hw) (fun o1 p1 q1 => ?_)⟩
      have F1 := q1.1.fix hT (by decide)
      have hrow := q1.2.2
      rw [rc0_nd c5.1] at hrow
      have hx := hrow.hd
      have hnd := nd_pts c5.1 (by omega)
      have hM := nd_M c5.1 (by omega)
      have hO1 : OwnIs o1 K := ⟨(q1.1.2 _ _ rfl).trans hK.1, hK.2.congr (fun i _ => q1.1.2 _ _ rfl)⟩
      have hl2 := (rc_len2 c5.1 1).1
      -- the end of the turn, once parts and place are known
      have fin : ∀ (b s1 : Int), (b = 0 ∨ b = 1) → (b = 1 ↔ isM w = true) → s1 = nM w → WP E m_M_joins (d + 3) 89 [(0, aP 42), (1, aI l), (2, aI s), (4, aI q), (5, aI b)] [aI s1, aI x3] o1 (fun r τ => ∃ v, r = some (aI v) ∧ σ.2 <+: τ.2 ∧ Fr scr σ τ ∧ if sg t + sg u ≤ 10 then v = 1 ∧ OwnIs τ (rc 0 (jn t u)) else v = 0) := by
        intro b s1 hb hbM hs1
        subst hs1
        have go : ∀ o : Int, At (o1.1 50) o (rc 1 w) → (0 ≤ o ∧ o ≤ 1) → (rc 0 w).length = o + (rc 1 w).length → WP E m_M_joins (d + 3) 106 [(0, aP 42), (1, aI l), (2, aI s), (3, aI (x3 + nM w)), (4, aI q)] [aI o, aP 50, aP 42] o1 (fun r τ => ∃ v, r = some (aI v) ∧ σ.2 <+: τ.2 ∧ Fr scr σ τ ∧ if sg t + sg u ≤ 10 then v = 1 ∧ OwnIs τ (rc 0 (jn t u)) else v = 0) := by
          intro o hA ho hlen
          refine b_M_joins_106 _ _ _ _ _ _ _ F1 ⟨sf_42 F1, WMv.mono (c_M_addsAll (L := rc 1 w) F1 hO1 (by omega) hA (by rw [q1.2.1]; omega) (by omega) (by decide) ⟨24, sf_50 F1, by rw [q1.2.1]; omega⟩) (fun o2 p2 q2 => kk o2 ((hf.tr (q1.1.mono (by decide))).tr (q2.1.mono (by decide))) q2.2)⟩
        refine b_M_joins_89 _ _ _ _ _ _ F1 ⟨by omega, fun c => go 0 ?_ (by omega) ?_, fun c => go 1 ?_ (by omega) ?_⟩
        · have hm : isM w = false := by cases hh : isM w with | false => rfl | true => have := hbM.mpr hh; omega
          rw [rc_nM hm]; exact q1.2.2
        · have hm : isM w = false := by cases hh : isM w with | false => rfl | true => have := hbM.mpr hh; omega
          rw [rc_nM hm]; omega
        · have hm : isM w = true := hbM.mp (by omega)
          have := q1.2.2
          rw [rc0_M hm] at this
          exact (At.cons.mp this).2
        · have hm : isM w = true := hbM.mp (by omega)
          rw [rc0_M hm, List.length_cons]; omega
      refine ⟨F1, wmi_p (c_M_in (by rw [hx]; omega) (by decide) (by decide)) ⟨F1, b2i_r _, fun c => ?_, fun c => ?_⟩⟩
      · have c' := c
        rw [b2i_0, hx] at c
        have hm : isM w = false := by cases hh : isM w with | false => rfl | true => exact absurd (hM.mpr hh) (by omega)
        refine fin _ 1 (b2i_01 _) ?_ ?_
        · rw [c', hm]; simp
        · cases w <;> simp_all [isM, nM]
      · have c' := c
        rw [b2i_n0, hx] at c
        have hm := hM.mp (by omega)
        refine wmi_p (c_M_partsOf (by rw [hx]; omega)) (fin _ _ (b2i_01 _) ?_ ?_)
        · have : b2i (200 ≤ o1.1 50 0 ∧ o1.1 50 0 ≤ 299) = 1 := (b2i_01 _).resolve_left c'
          rw [this, hm]; simp
        · rw [hx, hnd.1]
          cases w with
          | mul x y => exact congrArg Nat.cast (pM_len _)
          | _ => simp [isM] at hm
    refine WMv.mono (c_M_opens hF) (fun o1 p1 q1 => ⟨q1.1.fix hF (by decide), WMv.mono (c_M_adds (q1.1.fix hF (by decide)) q1.2 (by simp)) (fun o2 p2 q2 => ?_)⟩)
    have l1 := (rc_len2 a5.1 1).1
    have l2 := (rc_len2 b5.1 1).1
    refine turn1 s 0 t [200] o2 ht ((q1.1.mono (by decide)).tr (q2.1.mono (by decide))) q2.2 (by simp) (by omega) (by omega) (fun o3 f3 O3 => ?_)
    have hn1 := nM_le a5.1
    have hn2 := nM_le b5.1
    refine turn1 (s + 1) (0 + nM t) u _ o3 hu f3 O3 (by simp; omega) (by omega) (by omega) (fun o4 f4 O4 => ?_)
    have F4 := f4.fix hF (by decide)
    refine b_M_joins_38 _ _ _ _ F4 ⟨by omega, by omega, fun _ => ⟨_, rfl, pre_eq f4.1, f4.tr (Fr.wr (frO_a (by decide) _)), ?_⟩, fun c => by omega⟩
    rw [if_pos (by omega)]
    refine ⟨rfl, ?_, ?_⟩
    · rw [wr_na _ (by decide), O4.1, jn_rc0 a5.1]; simp
    · have hO := O4.2
      rw [List.append_assoc] at hO
      rw [jn_rc0 a5.1]
      have hO' : At (o4.1 51) 0 ([] ++ (200 :: (rc 1 t ++ rc 1 u))) := by simpa using hO
      have := hO'.put (g := (wr o4 51 0 (200 + (0 + (nM t : Int) + (nM u : Int)))).1 51) (y := 200 + (0 + (nM t : Int) + (nM u : Int))) (by simp [wr_same]) (fun k hk => wr_nk _ (by simpa using hk))
      have e : (200 + (0 + (nM t : Int) + (nM u : Int))) = (((nM t + nM u : Nat) : Int) + 200) := by omega
      rw [e] at this ⊢
      simpa using this
  · rw [rc_cnt a5.1, rc_cnt b5.1] at c
    refine ⟨_, rfl, List.prefix_refl _, Fr.refl _ _, ?_⟩
    rw [if_neg (by omega)]
theorem c_M_join {l s : Int} (h : RS σ T M P tp) (hk : okD T M P tp) (h1 : rI l) (h2 : rI s) : WMi E m_M_join (d + 4) [aP 42, aI l, aI s] σ (fun r τ => ActRes σ T M P tp (sp_join M l s) r τ) := by
  have hF := h.1.1
  have hkM := hk.2.1
  refine e_M_join _ _ hF (wmi_p (c_M_isSquare' h hkM h1 h2) ?_)
  rcases sq_cases M l s with ⟨L, t, hl, hs, hsq⟩ | ⟨hsq, hno⟩
  · rw [hsq]
    obtain ⟨a1, a2, a3, a4, a5, a6, a7⟩ := h.1.2.2.sq hkM hsq
    have hL8 := (hkM.ln hl).1.1.2
    refine ⟨hF, b2i_r _, fun c => absurd c (by rw [b2i_0]; simp), fun _ => wmi_p (c_M_isSquare' h hkM h1 (by omega)) ?_⟩
    cases hs2 : sqIn L (s + 1) with
    | none =>
      have esp : sp_join M l s = none := by simp [sp_join, hl, hs, hs2]
      rw [esp, show sqAt M l (s + 1) = none by simp [sqAt, hl, hs2]]
      exact ⟨hF, b2i_r _, fun _ => ⟨_, rfl, List.prefix_refl _, rfl, Fr.refl _ _⟩, fun c => absurd (by rw [b2i_0]; simp) c⟩
    | some u =>
      have esp : sp_join M l s = if sg t + sg u ≤ 10 then some (oneSq M l s L (jn t u)) else none := by simp [sp_join, hl, hs, hs2]
      have hsq2 : sqAt M l (s + 1) = some u := by simp [sqAt, hl, hs2]
      rw [esp, hsq2]
      obtain ⟨b1, b2, b3, b4, b5, b6, b7⟩ := h.1.2.2.sq hkM hsq2
      have hsn := (sqIn_some hs2).2.2
      refine ⟨hF, b2i_r _, fun c => absurd c (by rw [b2i_0]; simp), fun _ => WMi.mono (c_M_joins h hkM hsq hsq2) (fun v τ hp hq => ?_)⟩
      obtain ⟨hf, hq⟩ := hq
      have hT := hf.fix hF (by decide)
      by_cases hc : sg t + sg u ≤ 10
      · rw [if_pos hc] at hq ⊢
        obtain ⟨rfl, hO⟩ := hq
        have hjl := (rc_len2 (jn_ok a5.1 b5.1) 0).1
        rw [jn_sg] at hjl
        refine ⟨hT, by decide, fun _ => WMv.mono (c_M_keeps (h.scr hf) hk) (fun υ hp2 hq2 => ?_), fun c => by omega⟩
        have hFu := hq2.2.1.1
        have hOu : OwnIs υ (rc 0 (jn t u)) := ⟨(hq2.1.2 _ _ rfl).trans hO.1, hO.2.congr (fun i _ => hq2.1.2 _ _ rfl)⟩
        refine ⟨hFu, WMv.mono (c_M_lays hFu a1 a2 hOu (by omega)) (fun o1 p1 q1 => ?_)⟩
        have F1 := q1.1.fix hFu (by decide)
        have p1' : plc l s = 5 + 170 * l + 21 * s := rfl
        have hn1 : o1.1 47 (3 + 170 * l) = L.2.length := by rw [q1.2.2.2 _ (by omega)]; exact (hq2.2.squares hl).1
        refine ⟨F1, WMv.mono (c_M_removes F1 a1 hn1 (by omega)) (fun o2 p2 q2 => ⟨_, rfl, ?_, rfl, ?_, ?_⟩)⟩
        · exact ((hp.trans hp2).trans p1).trans p2
        · exact ((hf.mono (by decide)).tr (hq2.1.mono (by decide))).tr ((q1.1.mono (by decide)).tr (q2.1.mono (by decide)))
        · refine hq2.2.nowN ((q1.1.mono (by decide)).tr (q2.1.mono (by decide))) (MoAt_one hq2.2.1.2.2 hkM hl hs (by omega) (by omega) q1.2.2.2 ⟨q1.2.1, q1.2.2.1⟩ (fun k => q2.2 k))
      · rw [if_neg hc] at hq ⊢
        subst hq
        exact ⟨hT, by decide, fun c => absurd (by trivial) c, fun _ => ⟨_, rfl, hp, rfl, hf⟩⟩
  · have esp : sp_join M l s = none := by
      rcases hno with hl | ⟨L, hl, hs⟩
      · simp [sp_join, hl]
      · simp [sp_join, hl, hs]
    rw [esp, hsq]
    exact ⟨hF, b2i_r _, fun _ => ⟨_, rfl, List.prefix_refl _, rfl, Fr.refl _ _⟩, fun c => absurd (by rw [b2i_0]; simp) c⟩
end MJoin
