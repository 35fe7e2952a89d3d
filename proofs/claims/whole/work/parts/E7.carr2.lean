/-! THE ARRANGER: pairs, spans, the best, its code -/
theorem Fr.foc {X : List (Int × Int)} {σ τ : St} {T : Tb} {g : Int} {t : Tr} {F : List Tr} (h : FoC σ T g t F) (hf : Fr X σ τ) (h0 : frO X 32 7 = true) (hX : ∀ a i, 33 ≤ a → a ≤ 39 → frO X a i = true) : FoC τ T g t F := h.keep (hf.2 _ _ h0) (fun a i h1 h2 _ => hf.2 _ _ (hX a i h1 h2))
theorem prL_snoc (A B : List Tr) (a : Tr) : prL (A ++ [a]) B = prL A B ++ B.flatMap (pr a) := by simp [prL]
theorem prL_cons (A B : List Tr) (a : Tr) : prL (a :: A) B = B.flatMap (pr a) ++ prL A B := by simp [prL]
theorem prL_app (A A2 B : List Tr) : prL (A ++ A2) B = prL A B ++ prL A2 B := by simp [prL]
def SpC (σ : St) (F : List Tr) (f n : Nat) : Prop := ∃ A B, F = A ++ (gS f n ++ B) ∧ σ.1 40 ((f : Int) * 7 + n) = (A.length : Int) ∧ σ.1 41 ((f : Int) * 7 + n) = (A.length : Int) + ((gS f n).length : Int)
theorem SpC.mono {σ τ : St} {F : List Tr} {f n : Nat} (h : SpC σ F f n) (G : List Tr) (e : τ.1 40 ((f : Int) * 7 + n) = σ.1 40 ((f : Int) * 7 + n) ∧ τ.1 41 ((f : Int) * 7 + n) = σ.1 41 ((f : Int) * 7 + n)) : SpC τ (F ++ G) f n := by
  obtain ⟨A, B, h1, h2, h3⟩ := h
  exact ⟨A, B ++ G, by rw [h1]; simp, by rw [e.1]; exact h2, by rw [e.2]; exact h3⟩
theorem getE_mid {A B C : List Tr} {a : Tr} {F : List Tr} (e : F = A ++ (B ++ (a :: C))) : F[A.length + B.length]? = some a := by
  rw [e, List.getElem?_append_right (by omega), show A.length + B.length - A.length = B.length by omega, List.getElem?_append_right (by omega)]
  simp
theorem app_mid {F A G B : List Tr} (h : F = A ++ (G ++ B)) {X : List Tr} : F ++ X = A ++ (G ++ (B ++ X)) := by rw [h]; simp
def fpX : List (Int × Int) := (40, -1) :: (41, -1) :: fqX
section CArr2
variable {E : EV} {d : Nat} {σ : St} {T : Tb} {g : Int} {t : Tr} {F : List Tr}
theorem c_Arranger_makePairs {x y : Int} {A B L1 L2 R1 R2 : List Tr} (hF : Fix σ) (h : FoC σ T g t F) (hT : okTab T) (hg : 0 ≤ g ∧ g ≤ 3) (ht : ok t) (e1 : F = L1 ++ (A ++ R1)) (e2 : F = L2 ++ (B ++ R2)) (hx : 0 ≤ x ∧ x < 49) (hy : 0 ≤ y ∧ y < 49) (s1 : σ.1 40 x = (L1.length : Int) ∧ σ.1 41 x = (L1.length : Int) + (A.length : Int)) (s2 : σ.1 40 y = (L2.length : Int) ∧ σ.1 41 y = (L2.length : Int) + (B.length : Int)) (hl : ∀ a ∈ A, ∀ b ∈ B, (lv a).length + (lv b).length ≤ 6) (hn : F.length + (prL A B).length ≤ 680) : WMv E m_Arranger_makePairs (d + 2) [aP 32, aI x, aI y, aI g] σ (fun τ => Fr fqX σ τ ∧ FoC τ T g t (F ++ prL A B)) := by
  have l1 := congrArg List.length e1
  have l2 := congrArg List.length e2
  simp only [List.length_append] at l1 l2
  refine e_Arranger_makePairs _ _ _ hF ⟨hx, ?_⟩
  rw [s1.1]
  have key : ∀ z : List Tr × List Tr × St, (A = z.1 ++ z.2.1 ∧ Fr fqX σ z.2.2 ∧ FoC z.2.2 T g t (F ++ prL z.1 B)) → WP E m_Arranger_makePairs (d + 2) 8 [(0, aP 32), (1, aI x), (2, aI y), (3, aI g), (4, aI ((L1.length : Int) + (z.1.length : Int)))] [] z.2.2 (fun r τ => r = none ∧ σ.2 <+: τ.2 ∧ Fr fqX σ τ ∧ FoC τ T g t (F ++ prL A B)) := by
    refine lpx (fun z => z.2.1.length) _ _ (fun z hI ih => ?_)
    obtain ⟨A1, A2, τ⟩ := z
    obtain ⟨i1, i2, i3⟩ := hI
    simp only at i1 i2 i3 ih ⊢
    have hT1 := i2.fix hF (by decide)
    have s41 : τ.1 41 x = (L1.length : Int) + (A.length : Int) := (i2.2 _ _ rfl).trans s1.2
    have hal := congrArg List.length i1
    simp only [List.length_append] at hal
    have i38 := i3.1.2
    refine b_Arranger_makePairs_8 _ _ _ _ hT1 ⟨hx, by omega, by omega, fun c => ?_, fun c => ⟨hy, ?_⟩⟩
    · have h0 : A2 = [] := List.eq_nil_of_length_eq_zero (by omega)
      subst h0
      rw [List.append_nil] at i1
      subst i1
      exact ⟨rfl, pre_eq i2.1, i2, i3⟩
    · cases A2 with
      | nil => simp at hal; omega
      | cons a A3 =>
        have ham : a ∈ A := by rw [i1]; simp
        have hpa : F[L1.length + A1.length]? = some a := getE_mid (A := L1) (B := A1) (C := A3 ++ R1) (by rw [e1, i1]; simp)
        have eL : prL A B = prL A1 B ++ (B.flatMap (pr a) ++ prL A3 B) := by rw [i1, prL_app, prL_cons]
        have eLl := congrArg List.length eL
        simp only [List.length_append] at eLl
        rw [(i2.2 40 y rfl).trans s2.1]
        have inner : ∀ z : List Tr × List Tr × St, (B = z.1 ++ z.2.1 ∧ Fr fqX σ z.2.2 ∧ FoC z.2.2 T g t (F ++ (prL A1 B ++ z.1.flatMap (pr a)))) → WP E m_Arranger_makePairs (d + 2) 27 [(0, aP 32), (1, aI x), (2, aI y), (3, aI g), (4, aI ((L1.length : Int) + (A1.length : Int))), (5, aI ((L2.length : Int) + (z.1.length : Int)))] [] z.2.2 (fun r τ => r = none ∧ σ.2 <+: τ.2 ∧ Fr fqX σ τ ∧ FoC τ T g t (F ++ prL A B)) := by
          refine lpx (fun z => z.2.1.length) _ _ (fun z hI ih2 => ?_)
          obtain ⟨B1, B2, υ⟩ := z
          obtain ⟨j1, j2, j3⟩ := hI
          simp only at j1 j2 j3 ih2 ⊢
          have hU := j2.fix hF (by decide)
          have s42 : υ.1 41 y = (L2.length : Int) + (B.length : Int) := (j2.2 _ _ rfl).trans s2.2
          have hbl := congrArg List.length j1
          simp only [List.length_append] at hbl
          have j38 := j3.1.2
          simp only [List.length_append] at j38
          refine b_Arranger_makePairs_27 _ _ _ _ _ hU ⟨hy, by omega, by omega, fun c => ?_, fun c => ?_⟩
          · have h0 : B2 = [] := List.eq_nil_of_length_eq_zero (by omega)
            subst h0
            rw [List.append_nil] at j1
            subst j1
            have h9 := ih (A1 ++ [a], A3, υ) (by show A3.length < (a :: A3).length; simp) ⟨by rw [i1]; simp, j2, by rw [prL_snoc]; exact j3⟩
            simp only [List.length_append, List.length_singleton] at h9
            rw [show ((A1.length + 1 : Nat) : Int) = (A1.length : Int) + 1 by omega, ← Int.add_assoc] at h9
            exact h9
          · cases B2 with
            | nil => simp at hbl; omega
            | cons b B3 =>
              have hbm : b ∈ B := by rw [j1]; simp
              have hpb : F[L2.length + B1.length]? = some b := getE_mid (A := L2) (B := B1) (C := B3 ++ R2) (by rw [e2, j1]; simp)
              have hlv := hl a ham b hbm
              have eB : B.flatMap (pr a) = B1.flatMap (pr a) ++ (pr a b ++ B3.flatMap (pr a)) := by rw [j1]; simp
              have eBl := congrArg List.length eB
              simp only [List.length_append] at eBl
              have hFa : ∀ G : List Tr, (F ++ G)[L1.length + A1.length]? = some a := fun G => getE_app hpa G
              have hFb : ∀ G : List Tr, (F ++ G)[L2.length + B1.length]? = some b := fun G => getE_app hpb G
              have pa := (List.getElem?_eq_some_iff.mp hpa).1
              have pb := (List.getElem?_eq_some_iff.mp hpb).1
              have ea : (L1.length : Int) + (A1.length : Int) = ((L1.length + A1.length : Nat) : Int) := by omega
              have eb : (L2.length : Int) + (B1.length : Int) = ((L2.length + B1.length : Nat) : Int) := by omega
              have kr := kd_r a
              have prl : (pr a b).length = (if isM a then 0 else 1) + (if isA a then 0 else 1) := by unfold pr; cases isM a <;> cases isA a <;> simp
              -- the end of a turn
              have last : ∀ ω : St, Fr fqX σ ω → FoC ω T g t (F ++ (prL A1 B ++ (B1.flatMap (pr a) ++ pr a b))) → WP E m_Arranger_makePairs (d + 2) 101 [(0, aP 32), (1, aI x), (2, aI y), (3, aI g), (4, aI ((L1.length : Int) + (A1.length : Int))), (5, aI ((L2.length : Int) + (B1.length : Int)))] [] ω (fun r τ => r = none ∧ σ.2 <+: τ.2 ∧ Fr fqX σ τ ∧ FoC τ T g t (F ++ prL A B)) := by
                intro ω w1 w2
                refine b_Arranger_makePairs_101 _ _ _ _ _ ?_
                have h9 := ih2 (B1 ++ [b], B3, ω) (by show B3.length < (b :: B3).length; simp) ⟨by rw [j1]; simp, w1, by
                  have e9 : (B1 ++ [b]).flatMap (pr a) = B1.flatMap (pr a) ++ pr a b := by simp
                  show FoC ω T g t (F ++ (prL A1 B ++ (B1 ++ [b]).flatMap (pr a)))
                  rw [e9]; exact w2⟩
                simp only [List.length_append, List.length_singleton] at h9
                rw [show ((B1.length + 1 : Nat) : Int) = (B1.length : Int) + 1 by omega, ← Int.add_assoc] at h9
                exact h9
              -- the second half
              have half : ∀ ω : St, Fr fqX σ ω → FoC ω T g t (F ++ (prL A1 B ++ (B1.flatMap (pr a) ++ (if isM a then [] else [.mul a b])))) → WP E m_Arranger_makePairs (d + 2) 80 [(0, aP 32), (1, aI x), (2, aI y), (3, aI g), (4, aI ((L1.length : Int) + (A1.length : Int))), (5, aI ((L2.length : Int) + (B1.length : Int)))] [] ω (fun r τ => r = none ∧ σ.2 <+: τ.2 ∧ Fr fqX σ τ ∧ FoC τ T g t (F ++ prL A B)) := by
                intro ω w1 w2
                have hW := w1.fix hF (by decide)
                have hI := w2.2.2 _ a (hFa _)
                rw [← ea] at hI
                refine b_Arranger_makePairs_80 _ _ _ _ _ hW ⟨by omega, by rw [hI.1]; omega, fun c2 => ?_, fun c2 => ?_⟩
                · rw [hI.1, kd_A] at c2
                  refine last ω w1 ?_
                  have : pr a b = (if isM a then [] else [.mul a b]) := by unfold pr; rw [if_pos c2]; simp
                  rw [this]; exact w2
                · rw [hI.1, kd_A] at c2
                  have c3 : isA a = false := by simpa using c2
                  rw [ea, eb]
                  have hlen : (F ++ (prL A1 B ++ (B1.flatMap (pr a) ++ (if isM a then [] else [(.mul a b : Tr)])))).length < 680 := by
                    have e3 : (if isM a then [] else [(.mul a b : Tr)]).length + 1 = (pr a b).length := by unfold pr; rw [c3]; cases isM a <;> rfl
                    simp only [List.length_append]
                    omega
                  refine WMv.mono (c_Arranger_makeAbove hW w2 hT hg ht (hFa _) (hFb _) c3 hlv hlen) (fun ψ hp hq => ?_)
                  rw [← ea, ← eb]
                  refine last ψ (w1.tr hq.1) ?_
                  have : pr a b = (if isM a then [] else [.mul a b]) ++ [.add a b] := by unfold pr; rw [c3]; simp
                  rw [this]
                  have h9 := hq.2
                  simp only [List.append_assoc] at h9 ⊢
                  exact h9
              have hI := j3.2.2 _ a (hFa _)
              rw [← ea] at hI
              have cf1 := c_Arranger_isForm (E := E) (d := d + 1) (i := (L1.length : Int) + (A1.length : Int)) hU j3 (by omega)
              have cf2 := c_Arranger_isForm (E := E) (d := d + 1) (i := (L2.length : Int) + (B1.length : Int)) hU j3 (by omega)
              rw [b2i_t (by simp only [List.length_append]; omega)] at cf1 cf2
              refine wmi_p cf1 ⟨hU, by decide, fun q => absurd q (by decide), fun _ => wmi_p cf2 ⟨hU, by decide, fun _ => ⟨by omega, by rw [hI.1]; omega, fun c2 => ?_, fun c2 => ?_⟩, fun q => absurd q (by decide)⟩⟩
              · rw [hI.1, kd_M] at c2
                refine half υ j2 ?_
                rw [if_pos c2, List.append_nil]; exact j3
              · rw [hI.1, kd_M] at c2
                have c3 : isM a = false := by simpa using c2
                rw [ea, eb]
                have hlen : (F ++ (prL A1 B ++ B1.flatMap (pr a))).length < 680 := by
                  rw [c3] at prl
                  simp only [List.length_append]
                  simp at prl
                  omega
                refine WMv.mono (c_Arranger_makeBeside hU j3 hT hg ht (hFa _) (hFb _) c3 hlv hlen) (fun ψ hp hq => ?_)
                rw [← ea, ← eb]
                refine half ψ (j2.tr hq.1) ?_
                rw [c3]
                have h9 := hq.2
                simp only [List.append_assoc] at h9 ⊢
                exact h9
        have h9 := inner ([], B, τ) ⟨rfl, i2, by simpa using i3⟩
        simp only [List.length_nil] at h9
        rw [show (L2.length : Int) + ((0 : Nat) : Int) = (L2.length : Int) by omega] at h9
        exact h9
  have h9 := key ([], A, σ) ⟨rfl, Fr.refl _ _, by simpa [prL] using h⟩
  simp only [List.length_nil] at h9
  rw [show (L1.length : Int) + ((0 : Nat) : Int) = (L1.length : Int) by omega] at h9
  exact h9
theorem rng_snoc {α : Type} (f : Nat → List α) (m : Nat) : (List.range (m + 1)).flatMap f = (List.range m).flatMap f ++ f m := by simp [List.range_succ]
theorem rng_le {α : Type} (f : Nat → List α) {m n : Nat} (h : m ≤ n) : ((List.range m).flatMap f).length ≤ ((List.range n).flatMap f).length := by
  induction n with
  | zero => obtain rfl : m = 0 := by omega
            exact Nat.le_refl _
  | succ n ih =>
    rw [rng_snoc, List.length_append]
    by_cases c : m ≤ n
    · have := ih c; omega
    · obtain rfl : m = n + 1 := by omega
      rw [rng_snoc, List.length_append]
      exact Nat.le_refl _
theorem c_Arranger_makeSpan {f n : Nat} (hF : Fix σ) (h : FoC σ T g t F) (hT : okTab T) (hg : 0 ≤ g ∧ g ≤ 3) (ht : ok t) (hn2 : 2 ≤ n) (h6 : f + n ≤ 6) (hsp : ∀ f' n', 1 ≤ n' → n' < n → f ≤ f' → f' + n' ≤ f + n → SpC σ F f' n') (hn : F.length + (gS f n).length ≤ 680) : WMv E m_Arranger_makeSpan (d + 3) [aP 32, aI f, aI n, aI g] σ (fun τ => Fr fpX σ τ ∧ FoC τ T g t (F ++ gS f n) ∧ SpC τ (F ++ gS f n) f n ∧ ∀ k, k ≠ (f : Int) * 7 + n → τ.1 40 k = σ.1 40 k ∧ τ.1 41 k = σ.1 41 k) := by
  have h7 := h.1.1
  have h8 := h.1.2
  have eg := gS_n (f := f) hn2 (show n ≤ 6 by omega)
  refine e_Arranger_makeSpan _ _ _ hF (wmi_p (c_Arranger_spanOfSigns (by omega) (by omega)) ⟨hF, by omega, ?_⟩)
  rw [h7]
  have f0 : Fr fpX σ (wr σ 40 ((f : Int) * 7 + n) F.length) := Fr.wr (frO_a (by decide) _)
  have key : ∀ z : Nat × St, (z.1 + 1 ≤ n ∧ Fr fqX (wr σ 40 ((f : Int) * 7 + n) F.length) z.2 ∧ FoC z.2 T g t (F ++ (List.range z.1).flatMap (fun j => prL (gS f (j + 1)) (gS (f + (j + 1)) (n - (j + 1)))))) → WP E m_Arranger_makeSpan (d + 3) 21 [(0, aP 32), (1, aI f), (2, aI n), (3, aI g), (4, aI ((f : Int) * 7 + n)), (5, aI ((z.1 : Int) + 1))] [] z.2 (fun r τ => r = none ∧ σ.2 <+: τ.2 ∧ Fr fpX σ τ ∧ FoC τ T g t (F ++ gS f n) ∧ SpC τ (F ++ gS f n) f n ∧ ∀ k, k ≠ (f : Int) * 7 + n → τ.1 40 k = σ.1 40 k ∧ τ.1 41 k = σ.1 41 k) := by
    refine lpx (fun z => n - z.1) _ _ (fun z hI ih => ?_)
    obtain ⟨c, τ⟩ := z
    obtain ⟨i1, i2, i3⟩ := hI
    simp only at i1 i2 i3 ih ⊢
    have f1 : Fr fpX σ τ := f0.tr (i2.mono (by decide))
    have hT1 := f1.fix hF (by decide)
    have e40 : ∀ k, τ.1 40 k = (wr σ 40 ((f : Int) * 7 + n) F.length).1 40 k := fun k => i2.2 _ _ rfl
    have e41 : ∀ k, τ.1 41 k = σ.1 41 k := fun k => (i2.2 _ _ rfl).trans (wr_na _ (by decide))
    refine b_Arranger_makeSpan_21 _ _ _ _ _ hT1 ⟨by omega, by omega, fun q => ⟨by omega, rfl, pre_eq f1.1, ?_⟩, fun q => ?_⟩
    · obtain rfl : c = n - 1 := by omega
      rw [← eg] at i3
      have f2 : Fr fpX σ (wr τ 41 ((f : Int) * 7 + n) (τ.1 32 7)) := f1.tr (Fr.wr (frO_a (by decide) _))
      refine ⟨f2, i3.keep (wr_na _ (by decide)) (fun a i h1 h2 _ => wr_na _ (by omega)), ⟨F, [], by simp, ?_, ?_⟩, fun k hk => ⟨?_, ?_⟩⟩
      · rw [wr_na _ (by decide), e40, wr_same]
      · rw [wr_same, i3.1.1]; simp
      · rw [wr_na _ (by decide), e40, wr_nk _ hk]
      · rw [wr_nk _ hk, e41]
    · have hcn : c + 1 < n := by omega
      obtain ⟨A1, B1, a1, a2, a3⟩ := hsp f (c + 1) (by omega) hcn (by omega) (by omega)
      obtain ⟨A2, B2, b1, b2, b3⟩ := hsp (f + (c + 1)) (n - (c + 1)) (by omega) (by omega) (by omega) (by omega)
      have i39 := i3.1.2
      have hgl := congrArg List.length eg
      have hle := rng_le (fun j => prL (gS f (j + 1)) (gS (f + (j + 1)) (n - (j + 1)))) (show c + 1 ≤ n - 1 by omega)
      rw [← eg, rng_snoc, List.length_append] at hle
      have ei : (c : Int) + 1 = ((c + 1 : Nat) : Int) := by omega
      have ej : (f : Int) + ((c + 1 : Nat) : Int) = ((f + (c + 1) : Nat) : Int) := by omega
      have ek : (n : Int) - ((c + 1 : Nat) : Int) = ((n - (c + 1) : Nat) : Int) := by omega
      rw [ei, ej, ek]
      refine wmi_p (c_Arranger_spanOfSigns (by omega) (by omega)) ⟨hT1, wmi_p (c_Arranger_spanOfSigns (by omega) (by omega)) ⟨hT1, ?_⟩⟩
      refine WMv.mono (c_Arranger_makePairs (A := gS f (c + 1)) (B := gS (f + (c + 1)) (n - (c + 1))) (L1 := A1) (L2 := A2) hT1 i3 hT hg ht (app_mid a1) (app_mid b1) (by omega) (by omega) ⟨?_, ?_⟩ ⟨?_, ?_⟩ (fun a ha b hb => ?_) (by simp only [List.length_append]; omega)) (fun υ hp hq => ?_)
      · rw [e40, wr_nk _ (by omega)]; exact a2
      · rw [e41]; exact a3
      · rw [e40, wr_nk _ (by omega)]; exact b2
      · rw [e41]; exact b3
      · have q1 := (gS_ok 6 f (c + 1) (by omega) (by omega) (by omega) a ha).2
        have q2 := (gS_ok 6 (f + (c + 1)) (n - (c + 1)) (by omega) (by omega) (by omega) b hb).2
        rw [q1, q2, List.length_range', List.length_range']
        omega
      · have h9 := ih (c + 1, υ) (by show n - (c + 1) < n - c; omega) ⟨by show c + 1 + 1 ≤ n; omega, i2.tr hq.1, by
          show FoC υ T g t (F ++ (List.range (c + 1)).flatMap _)
          rw [rng_snoc, ← List.append_assoc]; exact hq.2⟩
        simp only at h9
        exact h9
  have h9 := key (0, wr σ 40 ((f : Int) * 7 + n) F.length) ⟨by show 0 + 1 ≤ n; omega, Fr.refl _ _, by
    show FoC _ T g t (F ++ (List.range 0).flatMap _)
    rw [List.range_zero, List.flatMap_nil, List.append_nil]
    exact h.keep (wr_na _ (by decide)) (fun a i h1 h2 _ => wr_na _ (by omega))⟩
  exact h9
end CArr2
