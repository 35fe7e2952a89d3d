theorem flatMap_take {α β : Type} (g : α → List β) {L : List α} {k : Nat} (h : k < L.length) : (L.take (k + 1)).flatMap g = (L.take k).flatMap g ++ g L[k] := by
  rw [List.take_add_one, List.getElem?_eq_getElem h, Option.toList_some, List.flatMap_append]; simp
theorem tn_isM' {b : Tr} (h : isM b = true ∨ ∃ l, b = .var l) : isM (tn b) = false := by
  rcases h with h | ⟨l, rfl⟩
  · cases b <;> simp_all [isM, tn]
  · rfl
theorem tn_tn (s : Tr) : tn (tn s) = s := by
  induction s with
  | mul a b iha ihb => simp [tn, iha, ihb]
  | add a b iha ihb => simp [tn, iha, ihb]
  | _ => rfl
/-- all lower forms stand -/
def LoOK (σ : St) (n : Nat) : Prop := ∀ m : Nat, 2 ≤ m → m < n → LvOK σ m (fF m)
section MAllF
variable {E : EV} {d : Nat} {σ : St} {T : Tb} {M : Mo} {P : List Mo} {tp : List Int}
theorem LoOK.keep {τ : St} {n B : Nat} (h : LoOK σ n) (hn : n ≤ 6) (e1 : ∀ j : Int, j ≠ n → τ.1 70 j = σ.1 70 j) (e2 : ∀ j, τ.1 71 j = σ.1 71 j) (e3 : ∀ j : Int, j < 12 * (B : Int) → τ.1 69 j = σ.1 69 j) (hB : offF n ≤ B) : LoOK τ n := by
  intro m h1 h2
  have hl := fF_len m h1 (by omega)
  have hm := off_mono (m + 1) n (by omega) (by omega)
  exact (h m h1 h2).keep (e1 _ (by omega)) (e2 _) e3 (by omega) (fun s hs => (fF_rc (by omega) (by omega) hs).1)
theorem c_M_laysForms {n f wh : Nat} {a : Tr} {L R : List Tr} (hF : Fix σ) (hn : 2 ≤ n ∧ n ≤ 6) (hf : 1 ≤ f ∧ f < n) (ha : (fF f)[wh]? = some a) (hlo : LoOK σ n) (hL : LvOK σ n L) (hR : L ++ (pcA fF n f a ++ R) = fF n) :
    WMv E m_M_laysForms (d + 2) [aP 42, aI n, aI f, aI wh] σ (fun τ => Fr foX σ τ ∧ LoOK τ n ∧ LvOK τ n (L ++ pcA fF n f a) ∧ ∀ j : Int, j ≠ n → τ.1 70 j = σ.1 70 j) := by
  have hre : 1 ≤ n - f ∧ n - f ≤ 5 := by omega
  have hrc : ((n - f : Nat) : Int) = (n : Int) - f := by omega
  obtain ⟨a1, a2, a3, a4⟩ := fF_ok hf.1 (by omega) (List.mem_of_getElem? ha)
  have hln := fF_len n hn.1 hn.2
  have hl7 : offF (n + 1) ≤ 257 := by have := off_mono (n + 1) 7 (by omega) (by omega); have e : offF 7 = 257 := rfl; omega
  have hmany : ((fF (n - f)).length : Int) ≤ 300 := by
    have : (fF (n - f)).length ≤ 257 := by
      by_cases h1 : n - f = 1
      · rw [h1, fF_1]; decide
      · have := fF_len (n - f) (by omega) (by omega)
        have := off_mono (n - f + 1) 7 (by omega) (by omega)
        have e : offF 7 = 257 := rfl
        omega
    omega
  have whb : f = 1 ∨ offF f + wh < 257 := by
    by_cases h1 : f = 1
    · exact Or.inl h1
    · right
      have h2 := (List.getElem?_eq_some_iff.mp ha).1
      have := fF_len f (by omega) (by omega)
      have := off_mono (f + 1) 7 (by omega) (by omega)
      have e : offF 7 = 257 := rfl
      omega
  -- the loop over the forms of the rest
  have main : WP E m_M_laysForms (d + 2) 27 [(0, aP 42), (1, aI n), (2, aI f), (3, aI wh), (4, aI ((n : Int) - f)), (5, aI (fF (n - f)).length), (6, aI 0)] [] σ (fun r τ => r = none ∧ σ.2 <+: τ.2 ∧ Fr foX σ τ ∧ LoOK τ n ∧ LvOK τ n (L ++ pcA fF n f a) ∧ ∀ j : Int, j ≠ n → τ.1 70 j = σ.1 70 j) := by
    have key : ∀ z : Nat × St, (z.1 ≤ (fF (n - f)).length ∧ Fr foX σ z.2 ∧ LoOK z.2 n ∧ LvOK z.2 n (L ++ ((fF (n - f)).take z.1).flatMap (pcs n f a)) ∧ ∀ j : Int, j ≠ n → z.2.1 70 j = σ.1 70 j) → WP E m_M_laysForms (d + 2) 27 [(0, aP 42), (1, aI n), (2, aI f), (3, aI wh), (4, aI ((n : Int) - f)), (5, aI (fF (n - f)).length), (6, aI z.1)] [] z.2 (fun r τ => r = none ∧ σ.2 <+: τ.2 ∧ Fr foX σ τ ∧ LoOK τ n ∧ LvOK τ n (L ++ pcA fF n f a) ∧ ∀ j : Int, j ≠ n → τ.1 70 j = σ.1 70 j) := by
      refine lpx (fun z => (fF (n - f)).length - z.1) _ _ (fun z hI ih => ?_)
      obtain ⟨o, τ⟩ := z
      obtain ⟨i1, i2, i3, i4, i5⟩ := hI
      simp only at i1 i2 i3 i4 i5 ih ⊢
      refine b_M_laysForms_27 _ _ _ _ _ _ ⟨by omega, by omega, fun c => ?_, fun c => ?_⟩
      · rw [List.take_of_length_le (by omega)] at i4
        exact ⟨rfl, pre_eq i2.1, i2, i3, i4, i5⟩
      · have hol : o < (fF (n - f)).length := by omega
        have hbe := List.getElem?_eq_getElem hol
        have hft := flatMap_take (pcs n f a) hol
        have hsplit : (fF (n - f)).flatMap (pcs n f a) = ((fF (n - f)).take o).flatMap (pcs n f a) ++ (pcs n f a (fF (n - f))[o] ++ ((fF (n - f)).drop (o + 1)).flatMap (pcs n f a)) := by
          conv => lhs; rw [← List.take_append_drop (o + 1) (fF (n - f)), List.flatMap_append, hft, List.append_assoc]
        generalize (fF (n - f))[o] = b at hbe hft hsplit
        obtain ⟨b1, b2, b3, b4⟩ := fF_ok hre.1 (by omega) (List.mem_of_getElem? hbe)
        generalize hR2 : ((fF (n - f)).drop (o + 1)).flatMap (pcs n f a) ++ R = R2 at *
        have hR' : L ++ (((fF (n - f)).take o).flatMap (pcs n f a) ++ (pcs n f a b ++ R2)) = fF n := by
          rw [← hR, ← hR2]
          unfold pcA
          rw [hsplit]
          simp
        generalize ((fF (n - f)).take o).flatMap (pcs n f a) = C at *
        have hpl : (pcs n f a b).length = if n - f = 1 then 1 else 2 := by unfold pcs; split <;> rfl
        -- the two ways
        have key2 : ∀ y : Nat × St, (y.1 ≤ (pcs n f a b).length ∧ Fr foX σ y.2 ∧ LoOK y.2 n ∧ LvOK y.2 n (L ++ (C ++ (pcs n f a b).take y.1)) ∧ ∀ j : Int, j ≠ n → y.2.1 70 j = σ.1 70 j) → WP E m_M_laysForms (d + 2) 37 [(0, aP 42), (1, aI n), (2, aI f), (3, aI wh), (4, aI ((n : Int) - f)), (5, aI (fF (n - f)).length), (6, aI o), (7, aI y.1)] [] y.2 (fun r τ => r = none ∧ σ.2 <+: τ.2 ∧ Fr foX σ τ ∧ LoOK τ n ∧ LvOK τ n (L ++ pcA fF n f a) ∧ ∀ j : Int, j ≠ n → τ.1 70 j = σ.1 70 j) := by
          refine lpx (fun y => (pcs n f a b).length - y.1) _ _ (fun y hI2 ih2 => ?_)
          obtain ⟨jn, υ⟩ := y
          obtain ⟨j1, j2, j3, j4, j5⟩ := hI2
          simp only at j1 j2 j3 j4 j5 ih2 ⊢
          have hU := j2.fix hF (by decide)
          have st50 : ∀ s1 : Int, s1 = (pcs n f a b).length → WP E m_M_laysForms (d + 2) 50 [(0, aP 42), (1, aI n), (2, aI f), (3, aI wh), (4, aI ((n : Int) - f)), (5, aI (fF (n - f)).length), (6, aI o), (7, aI jn)] [aI s1, aI jn] υ (fun r τ => r = none ∧ σ.2 <+: τ.2 ∧ Fr foX σ τ ∧ LoOK τ n ∧ LvOK τ n (L ++ pcA fF n f a) ∧ ∀ j : Int, j ≠ n → τ.1 70 j = σ.1 70 j) := by
            intro s1 hs1
            have hs12 : 1 ≤ s1 ∧ s1 ≤ 2 := by rw [hs1, hpl]; split <;> omega
            refine b_M_laysForms_50 _ _ _ _ _ _ _ _ _ hU ⟨by omega, by omega, fun c2 => ?_, fun c2 => ?_⟩
            · have h9 := ih (o + 1, υ) (by show (fF (n - f)).length - (o + 1) < (fF (n - f)).length - o; omega) ⟨by show o + 1 ≤ _; omega, j2, j3, ?_, j5⟩
              · simp only at h9
                rw [show ((o + 1 : Nat) : Int) = (o : Int) + 1 by omega] at h9
                exact h9
              · show LvOK υ n (L ++ ((fF (n - f)).take (o + 1)).flatMap (pcs n f a))
                rw [hft]
                rw [List.take_of_length_le (by omega)] at j4
                exact j4
            · have hjl : jn < (pcs n f a b).length := by omega
              -- the form that is made
              have hse := List.getElem?_eq_getElem hjl
              have htk : (pcs n f a b).take (jn + 1) = (pcs n f a b).take jn ++ [(pcs n f a b)[jn]] := by rw [List.take_add_one, hse]; rfl
              have hmem : (pcs n f a b)[jn] ∈ fF n := by
                rw [← hR']
                exact List.mem_append_right _ (List.mem_append_right _ (List.mem_append_left _ (List.getElem_mem hjl)))
              have hlenF : offF n + (L ++ (C ++ (pcs n f a b).take jn)).length < 257 := by
                have q1 := congrArg List.length hR'
                simp only [List.length_append, List.length_take] at q1 ⊢
                omega
              have hall : ∀ s ∈ L ++ (C ++ (pcs n f a b).take jn), (rc 0 s).length ≤ 11 := by
                intro s hs
                refine (fF_rc (by omega) hn.2 (s := s) ?_).1
                rw [← hR']
                rcases List.mem_append.mp hs with q | q
                · exact List.mem_append_left _ q
                · rcases List.mem_append.mp q with q | q
                  · exact List.mem_append_right _ (List.mem_append_left _ q)
                  · exact List.mem_append_right _ (List.mem_append_right _ (List.mem_append_left _ (List.mem_of_mem_take q)))
              have hnr := fF_rc (by omega) hn.2 hmem
              refine WMv.mono (c_M_opens hU) (fun τ1 p1 q1 => ?_)
              have F1 := q1.1.fix hU (by decide)
              refine ⟨F1, WMv.mono (c_M_adds F1 q1.2 (by decide)) (fun τ2 p2 q2 => ?_)⟩
              have F2 := q2.1.fix F1 (by decide)
              have fr2 : Fr [(51, -1), (42, 12)] υ τ2 := (q1.1.mono (by decide)).tr q2.1
              have rda := rc_len2 (okP_ok a1) 0
              have rdb := rc_len2 (okP_ok b1) 0
              -- the first part
              have fo2 : ∀ (m : Nat) (t : St) , Fr [(51, -1), (42, 12)] υ t → 2 ≤ m → m < n → LvOK t m (fF m) := fun m t ft q1 q2 => (j3 m q1 q2).keep (B := 257) (ft.2 _ _ rfl) (ft.2 _ _ rfl) (fun j _ => ft.2 _ _ rfl) (by have := fF_len m q1 (by omega); have := off_mono (m + 1) 7 (by omega) (by omega); have e : offF 7 = 257 := rfl; omega) (fun s hs => (fF_rc (by omega) (by omega) hs).1)
              refine ⟨F2, WMv.mono (c_M_addsForm (n := f) (wh := wh) (f := 0) (sk := 0) (tr := true) (s := a) F2 ⟨hf.1, by omega⟩ a1 a4 (by
                by_cases h1 : f = 1
                · left
                  subst h1
                  rw [fF_1] at ha
                  have h2 := (List.getElem?_eq_some_iff.mp ha).1
                  simp only [List.length_singleton] at h2
                  have : wh = 0 := by omega
                  subst this
                  simp at ha
                  exact ⟨rfl, ha.symm, rfl⟩
                · right
                  have h2 := fo2 f τ2 fr2 (by omega) hf.2
                  exact ⟨by omega, h2.2.1, h2.2.2 wh a ha, by omega⟩) (by omega) (Or.inl ⟨rfl, rfl⟩) (by omega) q2.2 (by simp)) (fun τ3 p3 q3 => ?_)⟩
              rw [List.drop_zero, rc_gT a1 (by omega) 0 (by omega), shT_0] at q3
              have F3 := q3.1.fix F2 (by decide)
              have fr3 : Fr [(51, -1), (42, 12)] υ τ3 := fr2.tr q3.1
              have e0 : sw 0 = 0 := rfl
              rw [e0] at q3
              have hta := okP_tn a1
              have rta := rc_len2 (okP_ok hta.1) 0
              have sta : sg (tn a) = f := by rw [tn_sg]; exact a4
              -- the end of a way
              have fin : ∀ (t : St) (p : Nat) (K : List Int), Fr [(51, -1), (42, 12)] υ t → OwnIs t (200 :: K) → rc 0 (pcs n f a b)[jn] = ((200 : Int) + p) :: K → WP E m_M_laysForms (d + 2) 137 [(0, aP 42), (1, aI n), (2, aI f), (3, aI wh), (4, aI ((n : Int) - f)), (5, aI (fF (n - f)).length), (6, aI o), (7, aI jn)] [aI p] t (fun r τ => r = none ∧ σ.2 <+: τ.2 ∧ Fr foX σ τ ∧ LoOK τ n ∧ LvOK τ n (L ++ pcA fF n f a) ∧ ∀ j : Int, j ≠ n → τ.1 70 j = σ.1 70 j) := by
                intro t p K ft ht hrc2
                have hFt := ft.fix hU (by decide)
                have hLt : LvOK t n (L ++ (C ++ (pcs n f a b).take jn)) := j4.keep (B := 257) (ft.2 _ _ rfl) (ft.2 _ _ rfl) (fun j _ => ft.2 _ _ rfl) (by omega) hall
                have hKl : K.length ≤ 10 := by rw [hrc2] at hnr; simp only [List.length_cons] at hnr; omega
                refine b_M_laysForms_137 _ _ _ _ _ _ _ _ hFt (WMv.mono (c_M_keepsForm hFt hn ht hKl hLt hlenF hrc2 hall) (fun t2 pp qq => ?_))
                obtain ⟨k1, k2, k3, k4, k5⟩ := qq
                have hLo2 : LoOK t n := fun m q1 q2 => fo2 m t ft q1 q2
                have h9 := ih2 (jn + 1, t2) (by show (pcs n f a b).length - (jn + 1) < (pcs n f a b).length - jn; omega) ⟨by show jn + 1 ≤ _; omega, j2.tr ((ft.mono (by decide)).tr k1), hLo2.keep hn.2 k4 k5 k3 (by omega), ?_, fun j hj => (k4 j hj).trans ((ft.2 _ _ rfl).trans (j5 j hj))⟩
                · simp only at h9
                  rw [show ((jn + 1 : Nat) : Int) = (jn : Int) + 1 by omega] at h9
                  exact h9
                · show LvOK t2 n (L ++ (C ++ (pcs n f a b).take (jn + 1)))
                  rw [htk]
                  simpa using k2
              have hbM : isM b = true ∨ ∃ l, b = .var l := by
                rcases b2 with q | q
                · exact Or.inl q
                · right
                  rw [q, fF_1] at hbe
                  have h2 := (List.getElem?_eq_some_iff.mp hbe).1
                  simp only [List.length_singleton] at h2
                  have : o = 0 := by omega
                  subst this
                  simp at hbe
                  exact ⟨_, hbe.symm⟩
              have sec : ∀ m : Nat, (m = 1 ∨ 2 ≤ m) → (n - f = 1 ∧ b = .var 0 ∧ m = 0 ∨ (2 ≤ n - f ∧ τ3.1 71 ((n - f : Nat) : Int) = offF (n - f) ∧ FoAt τ3 (offF (n - f) + o) b ∧ offF (n - f) + o < 257)) ∨ True := fun _ _ => Or.inr trivial
              have hsrc : ∀ sk : Nat, (n - f = 1 → sk = 0) → (n - f = 1 ∧ b = .var 0 ∧ sk = 0) ∨ (2 ≤ n - f ∧ τ3.1 71 ((n - f : Nat) : Int) = offF (n - f) ∧ FoAt τ3 (offF (n - f) + o) b ∧ offF (n - f) + o < 257) := by
                intro sk hsk
                by_cases h1 : n - f = 1
                · left
                  rw [h1, fF_1] at hbe
                  have h2 := (List.getElem?_eq_some_iff.mp hbe).1
                  simp only [List.length_singleton] at h2
                  have : o = 0 := by omega
                  subst this
                  simp at hbe
                  exact ⟨h1, hbe.symm, hsk h1⟩
                · right
                  have h2 := fo2 (n - f) τ3 fr3 (by omega) (by omega)
                  have h3 := (List.getElem?_eq_some_iff.mp hbe).1
                  have := fF_len (n - f) (by omega) (by omega)
                  have := off_mono (n - f + 1) 7 (by omega) (by omega)
                  have e : offF 7 = 257 := rfl
                  exact ⟨by omega, h2.2.1, h2.2.2 o b hbe, by omega⟩
              have k3l : ([] ++ [(200 : Int)] ++ rc 0 (tn a)).length ≤ 30 := by simp only [List.nil_append, List.length_append, List.length_singleton]; omega
              refine ⟨F3, by omega, fun c3 => ?_, fun c3 => ?_⟩
              · -- its parts come behind
                have hj1 : jn = 1 := by omega
                subst hj1
                have hnf : ¬ n - f = 1 := by intro q; rw [q] at hpl; simp at hpl; omega
                have hse2 : (pcs n f a b)[1] = .mul (tn a) (shT f b) := by
                  have : (pcs n f a b)[1]? = some (.mul (tn a) (shT f b)) := by unfold pcs; rw [if_neg hnf]; rfl
                  rw [List.getElem?_eq_getElem hjl] at this
                  exact Option.some.inj this
                have hbm : isM b = true := by rcases b2 with q | q; exact q; exact absurd q hnf
                have hr0 := rc0_M hbm
                rw [← hrc]
                refine WMv.mono (c_M_addsForm (n := n - f) (wh := o) (f := f) (sk := 1) (tr := false) (s := b) F3 ⟨hre.1, by omega⟩ b1 b4 (hsrc 1 (fun q => absurd q hnf)) (by omega) (Or.inr ⟨rfl, rfl⟩) (by omega) q3.2 k3l) (fun τ4 p4 q4 => ?_)
                have F4 := q4.1.fix F3 (by decide)
                have fr4 := fr3.tr q4.1
                have hg : ((rc 0 b).drop 1).map (gN f false) = rc 1 (shT f b) := by
                  rw [hr0]
                  show (rc 1 b).map _ = _
                  exact rc_gF b1 (by omega) 1
                rw [hg] at q4
                have h2 := fo2 (n - f) τ4 fr4 (by omega) (by omega)
                have hfo := h2.2.2 o b hbe
                have hol2 := (List.getElem?_eq_some_iff.mp hbe).1
                have q5 := fF_len (n - f) (by omega) (by omega)
                have q6 := off_mono (n - f + 1) 7 (by omega) (by omega)
                have e7 : offF 7 = 257 := rfl
                have hnb := nM_le (okP_ok b1)
                have hval : τ4.1 69 ((12 * ((τ4.1 71 ((n - f : Nat) : Int)) + o)) + 1) = (nM b : Int) + 200 := by
                  rw [h2.2.1]
                  have h8 := hfo.2
                  rw [hr0] at h8
                  rw [← h8.hd]
                  exact cgA _ (by omega)
                refine b_M_laysForms_103 _ _ _ _ _ _ _ F4 ⟨by omega, fun _ => ⟨by omega, ?_⟩, fun q => absurd q (by decide)⟩
                rw [hval, h2.2.1]
                refine ⟨by omega, by omega, ?_⟩
                have e9 : (1 : Int) + ((nM b : Int) + 200) % 100 = ((nM b + 1 : Nat) : Int) := by omega
                rw [e9, hrc]
                refine fin τ4 (nM b + 1) (rc 0 (tn a) ++ rc 1 (shT f b)) fr4 (by simpa using q4.2) ?_
                rw [hse2]
                simp only [rc, (shT_n f b).1]
                rw [if_neg (by decide)]
                congr 1
                omega
              · -- as one part
                have hj0 : jn = 0 := by omega
                subst hj0
                have hse2 : (pcs n f a b)[0] = .mul (tn a) (shT f (tn b)) := by
                  have : (pcs n f a b)[0]? = some (.mul (tn a) (shT f (tn b))) := by
                    unfold pcs
                    split
                    · rename_i h1
                      have hb0 : tn b = b := by
                        rcases hsrc 0 (fun _ => rfl) with ⟨-, q, -⟩ | q
                        · rw [q]; rfl
                        · omega
                      rw [hb0]; rfl
                    · rfl
                  rw [List.getElem?_eq_getElem hjl] at this
                  exact Option.some.inj this
                rw [← hrc]
                refine WMv.mono (c_M_addsForm (n := n - f) (wh := o) (f := f) (sk := 0) (tr := true) (s := b) F3 ⟨hre.1, by omega⟩ b1 b4 (hsrc 0 (fun _ => rfl)) (by omega) (Or.inl ⟨rfl, rfl⟩) (by omega) q3.2 k3l) (fun τ4 p4 q4 => ?_)
                have F4 := q4.1.fix F3 (by decide)
                have fr4 := fr3.tr q4.1
                rw [List.drop_zero, rc_gT b1 (by omega) 0 (by omega), e0] at q4
                have hnm : isM (shT f (tn b)) = false := by rw [(shT_n f (tn b)).2.2.1]; exact tn_isM' hbM
                have hn1 : nM (shT f (tn b)) = 1 := by
                  generalize shT f (tn b) = x at hnm
                  cases x <;> simp_all [isM, nM]
                rw [hrc]
                refine b_M_laysForms_103 _ _ _ _ _ _ _ F4 ⟨by omega, fun q => absurd rfl q, fun _ => ?_⟩
                refine fin τ4 2 (rc 0 (tn a) ++ rc 0 (shT f (tn b))) fr4 (by simpa using q4.2) ?_
                rw [hse2]
                simp only [rc, hn1, rc_nM hnm]
                rw [if_neg (by decide)]
                rfl
          refine b_M_laysForms_37 _ _ _ _ _ _ _ ⟨by omega, fun c2 => st50 2 ?_, fun c2 => st50 1 ?_⟩
          · rw [hpl, if_neg (by omega)]; rfl
          · rw [hpl, if_pos (by omega)]; rfl
        have h9 := key2 (0, τ) ⟨Nat.zero_le _, i2, i3, by simpa using i4, i5⟩
        exact h9
    exact key (0, σ) ⟨Nat.zero_le _, Fr.refl _ _, hlo, by simpa using hL, fun j _ => rfl⟩
  refine e_M_laysForms _ _ _ hF ⟨by omega, fun c => ⟨by omega, b_M_laysForms_22 _ _ _ _ _ ?_⟩, fun c => b_M_laysForms_22 _ _ _ _ _ ?_⟩
  · have h2 := (hlo (n - f) (by omega) (by omega)).1
    rw [hrc] at h2
    rw [h2]
    exact main
  · have e : (fF (n - f)).length = 1 := by rw [show n - f = 1 by omega, fF_1]; rfl
    rw [e] at main
    exact main
end MAllF
