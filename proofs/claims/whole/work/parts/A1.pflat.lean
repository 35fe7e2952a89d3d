/-! nodes one behind the other -/
theorem chl_M {σ : St} {B : Nat} {t : Tr} : ∀ {lo hi c e : Nat}, ND σ 1 lo hi c e t → hi ≤ B → ∃ zs : List (Nat × Tr), zs.map Prod.snd = pM t ∧ (∃ z rest, zs = z :: rest ∧ z.1 = c) ∧ ∀ (i : Nat) z, zs[i]? = some z → (∃ lo' hi', hi' ≤ B ∧ ND σ 0 lo' hi' z.1 0 z.2) ∧ ∀ z', zs[i + 1]? = some z' → σ.1 87 z.1 = z'.1 := by
  have one : ∀ {t : Tr} {lo hi c e : Nat}, isM t = false → ND σ 1 lo hi c e t → hi ≤ B → ∃ zs : List (Nat × Tr), zs.map Prod.snd = pM t ∧ (∃ z rest, zs = z :: rest ∧ z.1 = c) ∧ ∀ (i : Nat) z, zs[i]? = some z → (∃ lo' hi', hi' ≤ B ∧ ND σ 0 lo' hi' z.1 0 z.2) ∧ ∀ z', zs[i + 1]? = some z' → σ.1 87 z.1 = z'.1 := by
    intro t lo hi c e hm h hB
    refine ⟨[(c, t)], by rw [pM_not hm]; rfl, ⟨(c, t), [], rfl, rfl⟩, fun i z hz => ?_⟩
    have hi0 := (List.getElem?_eq_some_iff.mp hz).1
    simp at hi0
    subst hi0
    simp at hz
    subst hz
    exact ⟨⟨lo, hi, hB, (ND_1 h (Or.inl ⟨rfl, hm⟩)).1⟩, fun z' hz' => by simp at hz'⟩
  induction t with
  | mul a b iha ihb =>
    intro lo hi c e h hB
    rw [ND_M1] at h
    obtain ⟨mid, c', a1, a2, a3⟩ := h
    have hr := (ND_rng a3).1
    obtain ⟨zs, z1, ⟨y, rest, z2, z3⟩, z4⟩ := ihb a3 hB
    refine ⟨(c, a) :: zs, by simp [pM, z1], ⟨(c, a), zs, rfl, rfl⟩, fun i z hz => ?_⟩
    cases i with
    | zero =>
      simp at hz
      subst hz
      refine ⟨⟨lo, mid, by omega, a1⟩, fun z' hz' => ?_⟩
      rw [z2] at hz'
      simp at hz'
      subst hz'
      rw [a2, z3]
    | succ i =>
      simp only [List.getElem?_cons_succ] at hz ⊢
      exact z4 i z hz
  | _ => intro lo hi c e h hB; exact one rfl h hB
theorem chl_A {σ : St} {B : Nat} {t : Tr} : ∀ {lo hi c e : Nat}, ND σ 2 lo hi c e t → hi ≤ B → ∃ zs : List (Nat × Tr), zs.map Prod.snd = pA t ∧ (∃ z rest, zs = z :: rest ∧ z.1 = c) ∧ ∀ (i : Nat) z, zs[i]? = some z → (∃ lo' hi', hi' ≤ B ∧ ND σ 0 lo' hi' z.1 0 z.2) ∧ ∀ z', zs[i + 1]? = some z' → σ.1 87 z.1 = z'.1 := by
  have one : ∀ {t : Tr} {lo hi c e : Nat}, isA t = false → ND σ 2 lo hi c e t → hi ≤ B → ∃ zs : List (Nat × Tr), zs.map Prod.snd = pA t ∧ (∃ z rest, zs = z :: rest ∧ z.1 = c) ∧ ∀ (i : Nat) z, zs[i]? = some z → (∃ lo' hi', hi' ≤ B ∧ ND σ 0 lo' hi' z.1 0 z.2) ∧ ∀ z', zs[i + 1]? = some z' → σ.1 87 z.1 = z'.1 := by
    intro t lo hi c e hm h hB
    refine ⟨[(c, t)], by rw [pA_not hm]; rfl, ⟨(c, t), [], rfl, rfl⟩, fun i z hz => ?_⟩
    have hi0 := (List.getElem?_eq_some_iff.mp hz).1
    simp at hi0
    subst hi0
    simp at hz
    subst hz
    exact ⟨⟨lo, hi, hB, (ND_1 h (Or.inr ⟨rfl, hm⟩)).1⟩, fun z' hz' => by simp at hz'⟩
  induction t with
  | add a b iha ihb =>
    intro lo hi c e h hB
    rw [ND_A2] at h
    obtain ⟨mid, c', a1, a2, a3⟩ := h
    have hr := (ND_rng a3).1
    obtain ⟨zs, z1, ⟨y, rest, z2, z3⟩, z4⟩ := ihb a3 hB
    refine ⟨(c, a) :: zs, by simp [pA, z1], ⟨(c, a), zs, rfl, rfl⟩, fun i z hz => ?_⟩
    cases i with
    | zero =>
      simp at hz
      subst hz
      refine ⟨⟨lo, mid, by omega, a1⟩, fun z' hz' => ?_⟩
      rw [z2] at hz'
      simp at hz'
      subst hz'
      rw [a2, z3]
    | succ i =>
      simp only [List.getElem?_cons_succ] at hz ⊢
      exact z4 i z hz
  | _ => intro lo hi c e h hB; exact one rfl h hB
/-- a joint's node: its sort, how many, its parts -/
theorem ND_ch {σ : St} {t : Tr} {lo hi n : Nat} (h : ND σ 0 lo hi n 0 t) (hj : isJ t = true) (hB : hi ≤ 200) : (σ.1 82 n = 1 ∧ isM t = true ∨ σ.1 82 n = 2 ∧ isA t = true) ∧ σ.1 88 n = (ch t).length ∧ ∃ zs : List (Nat × Tr), zs.map Prod.snd = ch t ∧ (∃ z rest, zs = z :: rest ∧ σ.1 85 n = z.1) ∧ ∀ (i : Nat) z, zs[i]? = some z → (∃ lo' hi', hi' ≤ 200 ∧ ND σ 0 lo' hi' z.1 0 z.2) ∧ ∀ z', zs[i + 1]? = some z' → σ.1 87 z.1 = z'.1 := by
  cases t with
  | mul a b =>
    rw [ND_Mk (by decide)] at h
    obtain ⟨a1, ⟨a2, a3, c, e2, mid, c2, a4, a5, a6, a7, a8⟩, -⟩ := h
    obtain ⟨zs, z1, ⟨z, rest, z2, z3⟩, z4⟩ := chl_M (σ := σ) (B := 200) (t := .mul a b) (lo := n + 1) (hi := hi) (c := c) (e := e2) (by rw [ND_M1]; exact ⟨mid, c2, a6, a7, a8⟩) hB
    refine ⟨Or.inl ⟨a2, rfl⟩, ?_, zs, z1, ⟨z, rest, z2, by rw [a4, z3]⟩, z4⟩
    rw [a3]
    have : (ch (.mul a b)).length = nM b + 1 := pM_len (.mul a b)
    rw [this]; omega
  | add a b =>
    rw [ND_Ak (by decide)] at h
    obtain ⟨a1, ⟨a2, a3, c, e2, mid, c2, a4, a5, a6, a7, a8⟩, -⟩ := h
    obtain ⟨zs, z1, ⟨z, rest, z2, z3⟩, z4⟩ := chl_A (σ := σ) (B := 200) (t := .add a b) (lo := n + 1) (hi := hi) (c := c) (e := e2) (by rw [ND_A2]; exact ⟨mid, c2, a6, a7, a8⟩) hB
    refine ⟨Or.inr ⟨a2, rfl⟩, ?_, zs, z1, ⟨z, rest, z2, by rw [a4, z3]⟩, z4⟩
    rw [a3]
    have : (ch (.add a b)).length = nA b + 1 := pA_len (.add a b)
    rw [this]; omega
  | _ => simp [isJ, isM, isA] at hj
theorem ND_S {σ : St} {t : Tr} {lo hi n : Nat} (h : ND σ 0 lo hi n 0 t) (hs : isS t = true) : σ.1 82 n = 0 ∧ σ.1 83 n = lett t ∧ ((holdsT t = false ∧ σ.1 84 n = -1) ∨ (holdsT t = true ∧ ∃ m : Nat, σ.1 84 n = m ∧ ND σ 0 (n + 1) hi m 0 (inn t))) := by
  cases t with
  | var l => exact ⟨h.2.1.1, h.2.1.2.1, Or.inl ⟨rfl, h.2.1.2.2⟩⟩
  | pow t l => obtain ⟨-, ⟨a2, a3, m, a4, a5⟩, -⟩ := h; exact ⟨a2, a3, Or.inr ⟨rfl, m, a4, a5⟩⟩
  | _ => simp [isS] at hs
theorem ch_nh {u : Tr} (h : isS u = true) (h2 : holdsT u = false) : ch u = [] := by cases u <;> simp_all [isS, holdsT, ch]
theorem ch_h {u : Tr} (h2 : holdsT u = true) : ch u = [inn u] := by cases u <;> simp_all [holdsT, ch, inn]
def flX : List (Int × Int) := [(51, -1), (42, 12), (92, -1)]
section MFlat
variable {E : EV} {d : Nat} {σ : St}
theorem c_M_flattens {lo hi g : Nat} {t : Tr} (hF : Fix σ) (h : ND σ 0 lo hi g 0 t) (hB : hi ≤ 200) (ht : ok t) (h10 : sg t ≤ 10) : WMv E m_M_flattens (d + 1) [aP 42, aI g] σ (fun τ => Fr flX σ τ ∧ OwnIs τ (rc 0 t)) := by
  have hl2 := rc_len2 ht 0
  refine e_M_flattens _ hF (WMv.mono (c_M_opens hF) (fun τ1 p1 q1 => ?_))
  have F1 := q1.1.fix hF (by decide)
  refine ⟨F1, ?_⟩
  have fw : Fr flX τ1 (wr τ1 92 0 g) := Fr.wr (frO_a (by decide) _)
  have key : ∀ z : List (Nat × Tr) × List Int × St, (Fr flX σ z.2.2 ∧ OwnIs z.2.2 z.2.1 ∧ z.2.1 ++ fr (z.1.map Prod.snd) = rc 0 t ∧ ∀ (i : Nat) y, z.1[i]? = some y → z.2.2.1 92 ((z.1.length : Int) - 1 - i) = y.1 ∧ (∃ lo' hi', hi' ≤ 200 ∧ ND σ 0 lo' hi' y.1 0 y.2) ∧ ok y.2 ∧ sg y.2 ≤ 10) → WP E m_M_flattens (d + 1) 13 [(0, aP 42), (2, aI z.1.length)] [] z.2.2 (fun r τ => r = none ∧ σ.2 <+: τ.2 ∧ Fr flX σ τ ∧ OwnIs τ (rc 0 t)) := by
    refine lpx (fun z => (fr (z.1.map Prod.snd)).length) _ _ (fun z hI ih => ?_)
    obtain ⟨S, D, τ⟩ := z
    obtain ⟨i1, i2, i3, i4⟩ := hI
    simp only at i1 i2 i3 i4 ih ⊢
    have hT := i1.fix hF (by decide)
    have hlen := congrArg List.length i3
    rw [List.length_append] at hlen
    have hSl : S.length ≤ (fr (S.map Prod.snd)).length := by
      have := fr_len (ts := S.map Prod.snd) (fun u hu => by
        obtain ⟨y, hy, rfl⟩ := List.mem_map.mp hu
        obtain ⟨i, hi⟩ := List.getElem?_of_mem hy
        exact (i4 i y hi).2.2.1)
      simpa using this
    refine b_M_flattens_13 _ hT ⟨by omega, fun c => ?_, fun c => ?_⟩
    · have h0 : S = [] := List.eq_nil_of_length_eq_zero (by omega)
      subst h0
      rw [List.map_nil, fr_nil, List.append_nil] at i3
      subst i3
      exact ⟨rfl, pre_eq i1.1, i1, i2⟩
    · cases S with
      | nil => simp at c
      | cons y S =>
        obtain ⟨n, u⟩ := y
        obtain ⟨y1, ⟨lo', hi', yB, yN⟩, yk, y10⟩ := i4 0 (n, u) rfl
        simp only at y1 yN yk y10
        simp only [List.length_cons] at y1 hlen hSl c ⊢
        have hnr := (ND_rng yN).1
        have e1 : ((S.length + 1 : Nat) : Int) + -1 = S.length := by omega
        have y1' : τ.1 92 S.length = n := by rw [← y1]; exact cgA _ (by omega)
        rw [List.map_cons, fr_cons] at i3
        simp only at i3
        have hfr : (fr (((n, u) :: S).map Prod.snd)).length = (rc 0 u).length + (fr (S.map Prod.snd)).length := by rw [List.map_cons, fr_cons, List.length_append]
        have hru := rc_len2 yk 0
        have hsu := sg_pos yk
        have aN : ∀ j : Nat, A7 σ τ j := A7.fr i1 (fun _ => ⟨rfl, rfl, rfl, rfl, rfl, rfl, rfl⟩)
        have hOn : D.length < 48 := by omega
        rw [e1, y1']
        have nb : (0 : Int) ≤ n ∧ (n : Int) < 200 := by omega
        have sb : (0 : Int) ≤ S.length ∧ (S.length : Int) < 48 := by omega
        obtain ⟨⟨z1, z2, z3, z4, z5, z6⟩, z7⟩ := aN n
        -- the rest of the stack below
        have below : ∀ (i : Nat) y, S[i]? = some y → τ.1 92 ((S.length : Int) - 1 - i) = y.1 ∧ (∃ lo' hi', hi' ≤ 200 ∧ ND σ 0 lo' hi' y.1 0 y.2) ∧ ok y.2 ∧ sg y.2 ≤ 10 := fun i y hy => by
          have := i4 (i + 1) y (by simpa using hy)
          simp only [List.length_cons] at this
          refine ⟨?_, this.2⟩
          rw [← this.1]
          exact cgA _ (by omega)
        rw [z1]
        cases hju : isJ u with
        | true =>
          obtain ⟨k1, k2, zs, k3, ⟨zh, zrest, k4, k5⟩, k6⟩ := ND_ch yN hju yB
          have hzl : zs.length = (ch u).length := by rw [← k3]; simp
          have hnd : nd u = (if σ.1 82 n = 1 then 200 else 300) + ((ch u).length : Int) := by
            rcases k1 with ⟨q1, q2⟩ | ⟨q1, q2⟩
            · rw [if_pos q1]
              cases u with
              | mul a b => show (nM (.mul a b) : Int) + 200 = _; have : (ch (.mul a b)).length = nM (.mul a b) := pM_len _; rw [this]; omega
              | _ => simp [isM] at q2
            · rw [if_neg (by rw [q1]; decide)]
              cases u with
              | add a b => show (nA (.add a b) : Int) + 300 = _; have : (ch (.add a b)).length = nA (.add a b) := pA_len _; rw [this]; omega
              | _ => simp [isA] at q2
          have hfc : (rc 0 u).length = (fr (ch u)).length + 1 := by rw [rc0_nd yk]; simp
          have hchl := fr_len (fun w hw => (ch_ok yk w hw).1)
          have st : ∀ v : Int, v = (if σ.1 82 n = 1 then 200 else 300) → WP E m_M_flattens (d + 1) 116 [(0, aP 42), (2, aI S.length), (3, aI n)] [aI v, aP 42] τ (fun r τ => r = none ∧ σ.2 <+: τ.2 ∧ Fr flX σ τ ∧ OwnIs τ (rc 0 t)) := by
            intro v hv
            refine b_M_flattens_116 _ _ _ _ hT ⟨nb, sf_42 hT, ?_⟩
            rw [z6, k2, hv, ← hnd]
            refine WMv.mono (c_M_adds hT i2 hOn) (fun υ pp qq => ?_)
            have hU := qq.1.fix hT (by decide)
            have fU : Fr flX σ υ := i1.tr (qq.1.mono (by decide))
            have aU : ∀ j : Nat, A7 σ υ j := A7.fr fU (fun _ => ⟨rfl, rfl, rfl, rfl, rfl, rfl, rfl⟩)
            obtain ⟨⟨-, -, -, v4, -, v6⟩, -⟩ := aU n
            rw [v4, v6, k2, k5]
            refine ⟨hU, nb, nb, ?_⟩
            -- the parts come to the stack
            have push : ∀ w : Nat × St × Int, (w.1 ≤ zs.length ∧ (∀ y, zs[w.1]? = some y → w.2.2 = y.1) ∧ Fr [(92, -1)] υ w.2.1 ∧ (∀ j : Int, j < S.length → w.2.1.1 92 j = τ.1 92 j) ∧ (∀ (i : Nat) y, i < w.1 → zs[i]? = some y → w.2.1.1 92 ((S.length : Int) + (zs.length : Int) - 1 - i) = y.1)) → WP E m_M_flattens (d + 1) 144 [(0, aP 42), (2, aI S.length), (3, aI n), (4, aI w.2.2), (5, aI ((zs.length : Int) - 1 - w.1))] [] w.2.1 (fun r τ => r = none ∧ σ.2 <+: τ.2 ∧ Fr flX σ τ ∧ OwnIs τ (rc 0 t)) := by
              refine lpx (fun w => zs.length - w.1) _ _ (fun w hI2 ih2 => ?_)
              obtain ⟨j, ψ, q⟩ := w
              obtain ⟨j1, j2, j3, j4, j5⟩ := hI2
              simp only at j1 j2 j3 j4 j5 ih2 ⊢
              have hP := j3.fix hU (by decide)
              have fP : Fr flX σ ψ := fU.tr (j3.mono (by decide))
              have aP' : ∀ j : Nat, A7 σ ψ j := A7.fr fP (fun _ => ⟨rfl, rfl, rfl, rfl, rfl, rfl, rfl⟩)
              refine b_M_flattens_144 _ _ _ _ hP ⟨by omega, fun c2 => ?_, fun c2 => ?_⟩
              · have hjz : j = zs.length := by omega
                obtain ⟨⟨-, -, -, -, -, u6⟩, -⟩ := aP' n
                rw [u6, k2, ← hzl]
                have h9 := ih (zs ++ S, D ++ [nd u], ψ) (by
                  show (fr ((zs ++ S).map Prod.snd)).length < (fr (((n, u) :: S).map Prod.snd)).length
                  rw [hfr, List.map_append, fr_app, List.length_append, k3]; omega) ⟨fP, ⟨(j3.2 _ _ rfl).trans qq.2.1, qq.2.2.congr (fun i hi => j3.2 _ _ rfl)⟩, ?_, fun i y hy => ?_⟩
                · simp only [List.length_append] at h9
                  rw [show ((zs.length + S.length : Nat) : Int) = (S.length : Int) + zs.length by omega] at h9
                  exact ⟨nb, h9⟩
                · show (D ++ [nd u]) ++ fr ((zs ++ S).map Prod.snd) = rc 0 t
                  rw [List.map_append, fr_app, k3, ← i3, rc0_nd yk]
                  simp
                · show ψ.1 92 (((zs ++ S).length : Int) - 1 - i) = y.1 ∧ _
                  have hy' : (zs ++ S)[i]? = some y := hy
                  by_cases hi : i < zs.length
                  · rw [List.getElem?_append_left hi] at hy'
                    have hmem := List.mem_of_getElem? hy'
                    have hym : y.2 ∈ ch u := by rw [← k3]; exact List.mem_map.mpr ⟨y, hmem, rfl⟩
                    have hck := ch_ok yk _ hym
                    refine ⟨?_, (k6 i y hy').1, hck.1, by omega⟩
                    rw [← j5 i y (by omega) hy', List.length_append]
                    exact cgA _ (by omega)
                  · rw [List.getElem?_append_right (by omega)] at hy'
                    obtain ⟨b1, b2⟩ := below _ y hy'
                    refine ⟨?_, b2⟩
                    rw [← b1, ← j4 _ (by omega), List.length_append]
                    exact cgA _ (by omega)
              · have hjl : j < zs.length := by omega
                have hye := List.getElem?_eq_getElem hjl
                have hq := j2 _ hye
                obtain ⟨⟨lo2, hi2, b1, b2⟩, b3⟩ := k6 j _ hye
                have b4 := (ND_rng b2).1
                rw [hq]
                refine ⟨by omega, by omega, ?_⟩
                obtain ⟨-, u7⟩ := aP' zs[j].1
                have h9 := ih2 (j + 1, wr ψ 92 ((S.length : Int) + ((zs.length : Int) - 1 - j)) zs[j].1, ψ.1 87 zs[j].1) (by show zs.length - (j + 1) < zs.length - j; omega) ⟨by show j + 1 ≤ _; omega, fun y hy => ?_, j3.tr (Fr.wr (frO_a (by decide) _)), fun i hi => ?_, fun i y hi hy => ?_⟩
                · simp only at h9
                  rw [show (zs.length : Int) - 1 - ((j + 1 : Nat) : Int) = (zs.length : Int) - 1 - j + -1 by omega] at h9
                  exact h9
                · show ψ.1 87 zs[j].1 = y.1
                  rw [u7]
                  exact b3 y hy
                · show (wr ψ 92 ((S.length : Int) + ((zs.length : Int) - 1 - j)) zs[j].1).1 92 i = _
                  rw [wr_nk _ (by omega)]
                  exact j4 i hi
                · show (wr ψ 92 ((S.length : Int) + ((zs.length : Int) - 1 - j)) zs[j].1).1 92 ((S.length : Int) + (zs.length : Int) - 1 - i) = y.1
                  by_cases hij : i = j
                  · subst hij
                    rw [hye] at hy
                    cases hy
                    rw [show (S.length : Int) + (zs.length : Int) - 1 - i = (S.length : Int) + ((zs.length : Int) - 1 - i) by omega, wr_same]
                  · rw [wr_nk _ (by omega)]
                    exact j5 i y (by have : i < j + 1 := hi; omega) hy
            have h9 := push (0, υ, zh.1) ⟨Nat.zero_le _, fun y hy => by rw [k4] at hy; simp at hy; rw [← hy], Fr.refl _ _, fun j hj => qq.1.2 _ _ rfl, fun i y hi => absurd hi (by simp)⟩
            simp only at h9
            rw [← hzl]
            simpa using h9
          refine ⟨sb, nb, by rcases k1 with q | q <;> rw [q.1] <;> decide, fun _ => ⟨nb, by rcases k1 with q | q <;> rw [q.1] <;> decide, fun c3 => st 300 (by rw [if_neg c3]), fun c3 => st 200 (by rw [if_pos c3])⟩, fun c3 => ?_⟩
          rcases k1 with q | q <;> rw [q.1] at c3 <;> exact absurd c3 (by decide)
        | false =>
          have hus := (isS_tn yk hju).1
          obtain ⟨k1, k2, k3⟩ := ND_S yN hus
          have hsn := rc_sign hus
          rw [k1]
          refine ⟨sb, nb, by decide, fun q => absurd rfl q, fun _ => ⟨nb, nb, ?_⟩⟩
          rw [z3, z2, k2]
          have hOadd : ∀ (S' : List (Nat × Tr)) (x : Int), S'.map Prod.snd = ch u ++ S.map Prod.snd → x = nd u → (D ++ [x]) ++ fr (S'.map Prod.snd) = rc 0 t := fun S' x hS' hx => by
            rw [hS', fr_app, ← i3, rc0_nd yk, hx]; simp
          have hndl : nd u = (lett u : Int) + 1 + (if holdsT u then 100 else 0) := by
            rw [rc0_nd yk] at hsn
            exact (List.cons.inj hsn).1
          have hfc : (rc 0 u).length = (fr (ch u)).length + 1 := by rw [rc0_nd yk]; simp
          rcases k3 with ⟨hh, hin⟩ | ⟨hh, m, hin, hnd2⟩
          · rw [hin]
            rw [hh] at hndl
            refine ⟨by decide, fun q => absurd rfl q, fun _ => b_M_flattens_61 _ _ _ _ _ hT ⟨sf_42 hT, WMv.mono (c_M_adds hT i2 hOn) (fun υ pp qq => ?_)⟩⟩
            have hU := qq.1.fix hT (by decide)
            have fU : Fr flX σ υ := i1.tr (qq.1.mono (by decide))
            have e5 : υ.1 84 n = -1 := (qq.1.2 _ _ rfl).trans (z3.trans hin)
            rw [e5]
            refine ⟨hU, nb, by decide, fun q => absurd rfl q, fun _ => ?_⟩
            have hcu : ch u = [] := ch_nh hus hh
            refine ih (S, D ++ [(lett u : Int) + 1 + 0], υ) (by
              show (fr (S.map Prod.snd)).length < (fr (((n, u) :: S).map Prod.snd)).length
              rw [hfr]; omega) ⟨fU, qq.2, hOadd S _ (by rw [hcu]; rfl) (by rw [hndl]; simp), fun i y hy => ?_⟩
            obtain ⟨b1, b2⟩ := below i y hy
            exact ⟨(qq.1.2 _ _ rfl).trans b1, b2⟩
          · rw [hin]
            rw [hh] at hndl
            have hmr := (ND_rng hnd2).1
            refine ⟨by omega, fun _ => b_M_flattens_61 _ _ _ _ _ hT ⟨sf_42 hT, WMv.mono (c_M_adds hT i2 hOn) (fun υ pp qq => ?_)⟩, fun q => by omega⟩
            have hU := qq.1.fix hT (by decide)
            have fU : Fr flX σ υ := i1.tr (qq.1.mono (by decide))
            have e5 : υ.1 84 n = m := (qq.1.2 _ _ rfl).trans (z3.trans hin)
            rw [e5]
            have hik := inn_ok yk hh
            have hcu : ch u = [inn u] := ch_h hh
            refine ⟨hU, nb, by omega, fun _ => ⟨nb, sb, ?_⟩, fun q => by omega⟩
            have h9 := ih ((m, inn u) :: S, D ++ [(lett u : Int) + 1 + 100], wr υ 92 S.length m) (by
              show (fr (((m, inn u) :: S).map Prod.snd)).length < (fr (((n, u) :: S).map Prod.snd)).length
              rw [hfr, List.map_cons, fr_cons, List.length_append, hfc, hcu, fr_one]; show (rc 0 (inn u)).length + _ < _; omega) ⟨fU.tr (Fr.wr (frO_a (by decide) _)), ⟨by show (wr υ 92 S.length m).1 42 12 = _; rw [wr_na _ (by decide)]; exact qq.2.1, qq.2.2.congr (fun i hi => wr_na _ (by decide))⟩, hOadd _ _ (by rw [hcu]; rfl) (by rw [hndl]; simp), fun i y hy => ?_⟩
            · exact h9
            · show (wr υ 92 S.length m).1 92 ((((m, inn u) :: S).length : Int) - 1 - i) = y.1 ∧ _
              cases i with
              | zero =>
                simp at hy
                subst hy
                refine ⟨?_, ⟨n + 1, hi', yB, hnd2⟩, hik.1, by show sg (inn u) ≤ 10; omega⟩
                rw [show ((((m, inn u) :: S).length : Nat) : Int) - 1 - ((0 : Nat) : Int) = S.length by simp, wr_same]
              | succ i =>
                obtain ⟨b1, b2⟩ := below i y (by simpa using hy)
                refine ⟨?_, b2⟩
                have hil := (List.getElem?_eq_some_iff.mp hy).1
                simp only [List.length_cons] at hil ⊢
                rw [wr_nk _ (by omega), qq.1.2 _ _ rfl, ← b1]
                exact cgA _ (by omega)
  have h9 := key ([(g, t)], [], wr τ1 92 0 g) ⟨(q1.1.mono (by decide)).tr fw, ⟨by show (wr τ1 92 0 g).1 42 12 = _; rw [wr_na _ (by decide)]; exact q1.2.1, At.nil _ _⟩, by simp [fr_one], fun i y hy => ?_⟩
  · simpa using h9
  · have hi0 := (List.getElem?_eq_some_iff.mp hy).1
    simp at hi0
    subst hi0
    simp at hy
    subst hy
    refine ⟨?_, ⟨lo, hi, hB, h⟩, ht, h10⟩
    show (wr τ1 92 0 g).1 92 _ = _
    simp [wr_same]
end MFlat
