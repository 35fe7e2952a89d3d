/-! the forms as the reference lays them -/
theorem shT_0 (s : Tr) : shT 0 s = s := by
  induction s with
  | mul a b iha ihb => simp [shT, iha, ihb]
  | add a b iha ihb => simp [shT, iha, ihb]
  | var l => rfl
  | _ => rfl
def FoAt (σ : St) (i : Nat) (s : Tr) : Prop := σ.1 69 (12 * (i : Int)) = (rc 0 s).length ∧ At (σ.1 69) (12 * (i : Int) + 1) (rc 0 s)
def LvOK (σ : St) (n : Nat) (L : List Tr) : Prop := σ.1 70 n = L.length ∧ σ.1 71 n = offF n ∧ ∀ (i : Nat) s, L[i]? = some s → FoAt σ (offF n + i) s
def FormsOK (σ : St) : Prop := ∀ n : Nat, 2 ≤ n → n ≤ 6 → LvOK σ n (fF n)
def FmOK (σ : St) : Prop := FormsOK σ ∨ ∀ n : Nat, 2 ≤ n → n ≤ 6 → σ.1 70 n = 0
theorem LvOK.keep {σ τ : St} {n B : Nat} {L : List Tr} (h : LvOK σ n L) (e1 : τ.1 70 n = σ.1 70 n) (e2 : τ.1 71 n = σ.1 71 n) (e3 : ∀ j : Int, j < 12 * (B : Int) → τ.1 69 j = σ.1 69 j) (hB : offF n + L.length ≤ B) (hl : ∀ s ∈ L, (rc 0 s).length ≤ 11) : LvOK τ n L := by
  refine ⟨e1.trans h.1, e2.trans h.2.1, fun i s hs => ?_⟩
  obtain ⟨h1, h2⟩ := h.2.2 i s hs
  have hi := (List.getElem?_eq_some_iff.mp hs).1
  have hs11 := hl s (List.mem_of_getElem? hs)
  exact ⟨(e3 _ (by omega)).trans h1, h2.congr (fun j hj => e3 _ (by omega))⟩
theorem fF_rc {n : Nat} (h1 : 1 ≤ n) (h2 : n ≤ 6) {s : Tr} (hs : s ∈ fF n) : (rc 0 s).length ≤ 11 ∧ 1 ≤ (rc 0 s).length := by
  obtain ⟨p1, p2, p3, p4⟩ := fF_ok h1 h2 hs
  have := rc_len2 (okP_ok p1) 0
  omega
def foX : List (Int × Int) := [(51, -1), (42, 12), (69, -1), (70, -1), (71, -1)]
theorem off_mono : ∀ m n, m ≤ n → n ≤ 7 → offF m ≤ offF n := by
  intro m n h1 h2
  match n, h2 with
  | 0, _ => match m, h1 with | 0, _ => decide
  | 1, _ => match m, h1 with | 0, _ => decide | 1, _ => decide
  | 2, _ => match m, h1 with | 0, _ => decide | 1, _ => decide | 2, _ => decide
  | 3, _ => match m, h1 with | 0, _ => decide | 1, _ => decide | 2, _ => decide | 3, _ => decide
  | 4, _ => match m, h1 with | 0, _ => decide | 1, _ => decide | 2, _ => decide | 3, _ => decide | 4, _ => decide
  | 5, _ => match m, h1 with | 0, _ => decide | 1, _ => decide | 2, _ => decide | 3, _ => decide | 4, _ => decide | 5, _ => decide
  | 6, _ => match m, h1 with | 0, _ => decide | 1, _ => decide | 2, _ => decide | 3, _ => decide | 4, _ => decide | 5, _ => decide | 6, _ => decide
  | 7, _ => match m, h1 with | 0, _ => decide | 1, _ => decide | 2, _ => decide | 3, _ => decide | 4, _ => decide | 5, _ => decide | 6, _ => decide | 7, _ => decide
section MForms
variable {E : EV} {d : Nat} {σ : St} {T : Tb} {M : Mo} {P : List Mo} {tp : List Int}
theorem c_M_addsForm {n wh f sk : Nat} {b : Int} {tr : Bool} {s : Tr} {K : List Int} (hF : Fix σ) (hn : 1 ≤ n ∧ n ≤ 6) (hp : okP s = true) (hsg : sg s = n) (hs : (n = 1 ∧ s = .var 0 ∧ sk = 0) ∨ (2 ≤ n ∧ σ.1 71 n = offF n ∧ FoAt σ (offF n + wh) s ∧ offF n + wh < 257)) (hsk : sk ≤ 1) (hb : b = 1 ∧ tr = true ∨ b = 0 ∧ tr = false) (hf : f ≤ 10) (hO : OwnIs σ K) (hK : K.length ≤ 30) :
    WMv E m_M_addsForm (d + 1) [aP 42, aI n, aI wh, aI f, aI b, aI sk] σ (fun τ => Fr [(51, -1), (42, 12)] σ τ ∧ OwnIs τ (K ++ ((rc 0 s).drop sk).map (gN f tr))) := by
  have hok := okP_ok hp
  have hrl := rc_len2 hok 0
  have hnod := rc_nod hok (by omega) 0
  refine e_M_addsForm _ _ _ _ _ hF ⟨by omega, fun c => ?_, fun c => ?_⟩
  · rcases hs with hs | ⟨h2, hfr, hfo, hof⟩
    · omega
    · refine ⟨by omega, ?_⟩
      rw [hfr]
      have key : ∀ z : Nat × St, (z.1 + sk ≤ (rc 0 s).length ∧ Fr [(51, -1), (42, 12)] σ z.2 ∧ OwnIs z.2 (K ++ (((rc 0 s).drop sk).take z.1).map (gN f tr))) → WP E m_M_addsForm (d + 1) 32 [(0, aP 42), (3, aI f), (4, aI b), (6, aI (12 * ((offF n : Int) + wh))), (7, aI ((1 : Int) + sk + z.1))] [] z.2 (fun r τ => r = none ∧ σ.2 <+: τ.2 ∧ Fr [(51, -1), (42, 12)] σ τ ∧ OwnIs τ (K ++ ((rc 0 s).drop sk).map (gN f tr))) := by
        refine lpx (fun z => (rc 0 s).length - z.1) _ _ (fun z hI ih => ?_)
        obtain ⟨j, τ⟩ := z
        obtain ⟨i1, i2, i3⟩ := hI
        simp only at i1 i2 i3 ih ⊢
        have hT := i2.fix hF (by decide)
        have e0 : (12 * ((offF n : Int) + wh)) = 12 * ((offF n + wh : Nat) : Int) := by omega
        have e1 : τ.1 69 (12 * ((offF n : Int) + wh)) = (rc 0 s).length := by rw [e0]; exact (i2.2 _ _ rfl).trans hfo.1
        refine b_M_addsForm_32 _ _ _ _ hT ⟨by omega, by omega, by rw [e1]; omega, fun c2 => ?_, fun c2 => ?_⟩
        · rw [e1] at c2
          refine ⟨rfl, pre_eq i2.1, i2, ?_⟩
          rw [List.take_of_length_le (by rw [List.length_drop]; omega)] at i3
          exact i3
        · rw [e1] at c2
          have hjl : sk + j < (rc 0 s).length := by omega
          have e2 : τ.1 69 (12 * ((offF n : Int) + wh) + (1 + sk + j)) = (rc 0 s).getD (sk + j) 0 := by
            rw [i2.2 _ _ rfl, ← hfo.2 (sk + j) hjl]
            exact cgA _ (by omega)
          have e3 : 1 ≤ (rc 0 s).getD (sk + j) 0 ∧ (rc 0 s).getD (sk + j) 0 ≤ 400 := by
            rw [List.getD_eq_getElem?_getD, List.getElem?_eq_getElem hjl]
            exact hnod _ (List.getElem_mem hjl)
          have hdj : j < ((rc 0 s).drop sk).length := by rw [List.length_drop]; omega
          have e4 : ((rc 0 s).drop sk).take (j + 1) = ((rc 0 s).drop sk).take j ++ [(rc 0 s).getD (sk + j) 0] := by
            rw [List.take_add_one, List.getElem?_eq_getElem hdj, List.getElem_drop, List.getD_eq_getElem?_getD, List.getElem?_eq_getElem hjl]; rfl
          have hol : (K ++ (((rc 0 s).drop sk).take j).map (gN f tr)).length < 48 := by rw [List.length_append, List.length_map, List.length_take, List.length_drop]; omega
          have nxt : ∀ (υ : St), Fr [(51, -1), (42, 12)] τ υ → OwnIs υ ((K ++ (((rc 0 s).drop sk).take j).map (gN f tr)) ++ [gN f tr ((rc 0 s).getD (sk + j) 0)]) → WP E m_M_addsForm (d + 1) 110 [(0, aP 42), (3, aI f), (4, aI b), (6, aI (12 * ((offF n : Int) + wh))), (7, aI ((1 : Int) + sk + j))] [] υ (fun r τ => r = none ∧ σ.2 <+: τ.2 ∧ Fr [(51, -1), (42, 12)] σ τ ∧ OwnIs τ (K ++ ((rc 0 s).drop sk).map (gN f tr))) := by
            intro υ f1 f2
            refine b_M_addsForm_110 _ _ _ _ ?_
            have h9 := ih (j + 1, υ) (by show (rc 0 s).length - (j + 1) < (rc 0 s).length - j; omega) ⟨by show j + 1 + sk ≤ _; omega, i2.tr f1, by
              show OwnIs υ (K ++ (((rc 0 s).drop sk).take (j + 1)).map (gN f tr))
              rw [e4, List.map_append, ← List.append_assoc]
              exact f2⟩
            simp only at h9
            rw [show (1 : Int) + sk + ((j + 1 : Nat) : Int) = 1 + sk + j + 1 by omega] at h9
            exact h9
          refine ⟨by omega, wmi_p (c_M_isSign (by rw [e2]; omega)) ⟨hT, b2i_r _, fun c3 => ⟨by omega, fun c4 => ⟨by rw [e2]; omega, fun c5 => ?_, fun c5 => ?_⟩, fun c4 => ?_⟩, fun c3 => ?_⟩⟩
          · rw [b2i_0] at c3
            rw [e2] at c3 c5 ⊢
            have htr : tr = true := by rcases hb with q | q; exact q.2; omega
            refine b_M_addsForm_107 _ _ _ _ _ _ ⟨sf_42 hT, WMv.mono (c_M_adds hT i3 hol) (fun υ hp hq => nxt υ hq.1 ?_)⟩
            have eg : gN f tr ((rc 0 s).getD (sk + j) 0) = (rc 0 s).getD (sk + j) 0 - 100 := by unfold gN; rw [if_neg c3, htr, if_pos rfl, if_neg (by omega)]
            rw [eg]; exact hq.2
          · rw [b2i_0] at c3
            rw [e2] at c3 c5 ⊢
            have htr : tr = true := by rcases hb with q | q; exact q.2; omega
            refine b_M_addsForm_107 _ _ _ _ _ _ ⟨sf_42 hT, WMv.mono (c_M_adds hT i3 hol) (fun υ hp hq => nxt υ hq.1 ?_)⟩
            have eg : gN f tr ((rc 0 s).getD (sk + j) 0) = (rc 0 s).getD (sk + j) 0 + 100 := by unfold gN; rw [if_neg c3, htr, if_pos rfl, if_pos (by omega)]
            rw [eg]; exact hq.2
          · rw [b2i_0] at c3
            rw [e2] at c3 ⊢
            have htr : tr = false := by rcases hb with q | q; omega; exact q.2
            refine b_M_addsForm_107 _ _ _ _ _ _ ⟨sf_42 hT, WMv.mono (c_M_adds hT i3 hol) (fun υ hp hq => nxt υ hq.1 ?_)⟩
            have eg : gN f tr ((rc 0 s).getD (sk + j) 0) = (rc 0 s).getD (sk + j) 0 := by unfold gN; rw [if_neg c3, htr]; rfl
            rw [eg]; exact hq.2
          · rw [b2i_n0] at c3
            rw [e2] at c3 ⊢
            refine WMv.mono (c_M_adds hT i3 hol) (fun υ hp hq => nxt υ hq.1 ?_)
            have eg : gN f tr ((rc 0 s).getD (sk + j) 0) = (rc 0 s).getD (sk + j) 0 + f := by unfold gN; rw [if_pos c3]
            rw [eg]; exact hq.2
      have h9 := key (0, σ) ⟨by show 0 + sk ≤ _; omega, Fr.refl _ _, by simpa using hO⟩
      simpa using h9
  · rcases hs with ⟨h1, rfl, rfl⟩ | hs
    · refine WMv.mono (c_M_adds hF hO (by omega)) (fun τ hp hq => ⟨rfl, hp, hq.1, ?_⟩)
      have e : ((rc 0 (.var 0)).drop 0).map (gN f tr) = [(f : Int) + 1] := by
        show [gN f tr ((vN 0 : Int) + 1)] = _
        have : gN f tr ((vN 0 : Int) + 1) = (f : Int) + 1 := by unfold gN; rw [if_pos (by decide)]; show (0 : Int) + 1 + f = _; omega
        rw [this]
      rw [e]
      exact hq.2
    · omega
theorem c_M_keepsForm {n p : Nat} {x : Int} {K : List Int} {L : List Tr} {s : Tr} (hF : Fix σ) (hn : 2 ≤ n ∧ n ≤ 6) (hO : OwnIs σ (x :: K)) (hK : K.length ≤ 10) (hL : LvOK σ n L) (hof : offF n + L.length < 257) (hs : rc 0 s = ((200 : Int) + p) :: K) (hl : ∀ s ∈ L, (rc 0 s).length ≤ 11) :
    WMv E m_M_keepsForm d [aP 42, aI n, aI p] σ (fun τ => Fr foX σ τ ∧ LvOK τ n (L ++ [s]) ∧ (∀ j : Int, j < 12 * ((offF n + L.length : Nat) : Int) → τ.1 69 j = σ.1 69 j) ∧ (∀ j : Int, j ≠ n → τ.1 70 j = σ.1 70 j) ∧ ∀ j, τ.1 71 j = σ.1 71 j) := by
  have hat : (12 * ((σ.1 71 n) + (σ.1 70 n))) = 12 * ((offF n + L.length : Nat) : Int) := by rw [hL.1, hL.2.1]; omega
  have hsz := hO.1
  simp only [List.length_cons] at hsz
  refine e_M_keepsForm _ _ hF ⟨by omega, by omega, by rw [hat]; omega, ?_⟩
  rw [hat]
  generalize hB : offF n + L.length = B at *
  have f1 : Fr foX σ (wr (wr σ 51 0 (200 + (p : Int))) 69 (12 * (B : Int)) (σ.1 42 12)) := (Fr.wr (frO_a (by decide) _)).tr (Fr.wr (frO_a (by decide) _))
  have hown : At ((wr (wr σ 51 0 (200 + (p : Int))) 69 (12 * (B : Int)) (σ.1 42 12)).1 51) 0 (rc 0 s) := by
    rw [hs, At.cons]
    refine ⟨by rw [wr_na _ (by decide), wr_same], (At.cons.mp hO.2).2.congr (fun i hi => ?_)⟩
    rw [wr_na _ (by decide), wr_nk _ (by omega)]
  have hrl : (rc 0 s).length = K.length + 1 := by rw [hs]; simp
  have key : ∀ z : Nat × St, (z.1 ≤ (rc 0 s).length ∧ Fr [(69, -1)] (wr (wr σ 51 0 (200 + (p : Int))) 69 (12 * (B : Int)) (σ.1 42 12)) z.2 ∧ z.2.1 69 (12 * (B : Int)) = (rc 0 s).length ∧ At (z.2.1 69) (12 * (B : Int) + 1) ((rc 0 s).take z.1) ∧ ∀ j : Int, j < 12 * (B : Int) → z.2.1 69 j = σ.1 69 j) → WP E m_M_keepsForm d 41 [(0, aP 42), (1, aI n), (3, aI (12 * (B : Int))), (4, aI z.1)] [] z.2 (fun r τ => r = none ∧ σ.2 <+: τ.2 ∧ Fr foX σ τ ∧ LvOK τ n (L ++ [s]) ∧ (∀ j : Int, j < 12 * (B : Int) → τ.1 69 j = σ.1 69 j) ∧ (∀ j : Int, j ≠ n → τ.1 70 j = σ.1 70 j) ∧ ∀ j, τ.1 71 j = σ.1 71 j) := by
    refine lpx (fun z => (rc 0 s).length - z.1) _ _ (fun z hI ih => ?_)
    obtain ⟨k, τ⟩ := z
    obtain ⟨i1, i2, i3, i4, i5⟩ := hI
    simp only at i1 i2 i3 i4 i5 ih ⊢
    have f2 : Fr foX σ τ := f1.tr (i2.mono (by decide))
    have hT := f2.fix hF (by decide)
    have hos : τ.1 42 12 = (rc 0 s).length := by
      rw [i2.2 _ _ rfl, wr_na _ (by decide), wr_na _ (by decide), hsz, hrl]
    have hfm : ∀ j, τ.1 70 j = σ.1 70 j := fun j => by rw [i2.2 _ _ rfl, wr_na _ (by decide), wr_na _ (by decide)]
    have hff : ∀ j, τ.1 71 j = σ.1 71 j := fun j => by rw [i2.2 _ _ rfl, wr_na _ (by decide), wr_na _ (by decide)]
    refine b_M_keepsForm_41 _ _ _ hT ⟨by omega, by rw [hos]; omega, fun c => ⟨by omega, by omega, ?_⟩, fun c => ⟨by omega, by omega, ?_⟩⟩
    · rw [hos] at c
      have hk : k = (rc 0 s).length := by omega
      subst hk
      rw [List.take_length] at i4
      have fw : Fr foX τ (wr τ 70 n (τ.1 70 n + 1)) := Fr.wr (frO_a (by decide) _)
      refine ⟨rfl, pre_eq (f2.tr fw).1, f2.tr fw, ⟨?_, ?_, fun i w hw => ?_⟩, fun j hj => ?_, fun j hj => ?_, fun j => ?_⟩
      · rw [wr_same, hfm, hL.1, List.length_append]; simp
      · rw [wr_na _ (by decide), hff]; exact hL.2.1
      · have hfo : ∀ j, (wr τ 70 n (τ.1 70 n + 1)).1 69 j = τ.1 69 j := fun j => wr_na _ (by decide)
        by_cases hi : i < L.length
        · rw [List.getElem?_append_left hi] at hw
          obtain ⟨w1, w2⟩ := hL.2.2 i w hw
          have w3 := hl w (List.mem_of_getElem? hw)
          exact ⟨by rw [hfo, i5 _ (by omega)]; exact w1, w2.congr (fun j hj => by rw [hfo, i5 _ (by omega)])⟩
        · have hlt := (List.getElem?_eq_some_iff.mp hw).1
          simp only [List.length_append, List.length_singleton] at hlt
          have hie : i = L.length := by omega
          subst hie
          have hws : w = s := by simpa using hw.symm
          subst hws
          rw [hB]
          exact ⟨by rw [hfo]; exact i3, i4.congr (fun j hj => hfo _)⟩
      · rw [wr_na _ (by decide)]; exact i5 j hj
      · rw [wr_nk _ hj]; exact hfm j
      · rw [wr_na _ (by decide)]; exact hff j
    · rw [hos] at c
      have hkl : k < (rc 0 s).length := by omega
      have h9 := ih (k + 1, wr τ 69 ((12 * (B : Int) + 1) + k) (τ.1 51 k)) (by show (rc 0 s).length - (k + 1) < (rc 0 s).length - k; omega) ⟨by show k + 1 ≤ _; omega, i2.tr (Fr.wr (frO_a (by decide) _)), ?_, ?_, fun j hj => ?_⟩
      · simp only at h9
        rw [show ((k + 1 : Nat) : Int) = (k : Int) + 1 by omega] at h9
        exact h9
      · show (wr τ 69 ((12 * (B : Int) + 1) + k) (τ.1 51 k)).1 69 (12 * (B : Int)) = _
        rw [wr_nk _ (by omega)]; exact i3
      · show At ((wr τ 69 ((12 * (B : Int) + 1) + k) (τ.1 51 k)).1 69) (12 * (B : Int) + 1) ((rc 0 s).take (k + 1))
        rw [take_succ_getD hkl, At.app]
        refine ⟨i4.congr (fun j hj => ?_), ?_⟩
        · rw [List.length_take] at hj
          exact wr_nk _ (by omega)
        · rw [At.cons]
          refine ⟨?_, At.nil _ _⟩
          rw [List.length_take, show min k (rc 0 s).length = k by omega, wr_same, i2.2 _ _ rfl]
          have := hown k hkl
          rw [show (0 : Int) + (k : Int) = k by omega] at this
          exact this
      · show (wr τ 69 ((12 * (B : Int) + 1) + k) (τ.1 51 k)).1 69 j = _
        rw [wr_nk _ (by omega)]; exact i5 j hj
  exact key (0, _) ⟨Nat.zero_le _, Fr.refl _ _, by show (wr (wr σ 51 0 (200 + (p : Int))) 69 (12 * (B : Int)) (σ.1 42 12)).1 69 (12 * (B : Int)) = _; rw [wr_same, hsz, hrl], At.nil _ _, fun j hj => by
    show (wr (wr σ 51 0 (200 + (p : Int))) 69 (12 * (B : Int)) (σ.1 42 12)).1 69 j = _
    rw [wr_nk _ (by omega), wr_na _ (by decide)]⟩
end MForms
