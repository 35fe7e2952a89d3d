theorem iand_255 (x : Int) : 0 ≤ iand x 255 ∧ iand x 255 ≤ 255 := by
  have h1 : ((Int32.ofInt x &&& Int32.ofInt 255).toBitVec).toNat ≤ 255 := by
    rw [Int32.toBitVec_and, BitVec.toNat_and]
    exact Nat.and_le_right
  have h2 : (Int32.ofInt x &&& Int32.ofInt 255).toInt = ((Int32.ofInt x &&& Int32.ofInt 255).toBitVec).toNat := by
    show ((Int32.ofInt x &&& Int32.ofInt 255).toBitVec).toInt = _
    exact BitVec.toInt_eq_toNat_of_lt (by omega)
  unfold iand
  rw [h2]
  omega
/-- the bytes of a number, the highest first -/
def bt (v : Int) (k : Nat) : Int := iand (ishr v (24 - 8 * (k : Int))) 255
def fed (a b c e f : Int) : List Int := [bt a 0, bt a 1, bt a 2, bt a 3, bt b 0, bt b 1, bt b 2, bt b 3, bt c 0, bt c 1, bt c 2, bt c 3, bt e 0, bt e 1, bt e 2, bt e 3, bt f 0, bt f 1, bt f 2, bt f 3]
theorem fed_b (a b c e f : Int) : ∀ x ∈ fed a b c e f, 0 ≤ x ∧ x ≤ 255 := by
  intro x hx
  simp only [fed, List.mem_cons, List.not_mem_nil, or_false] at hx
  rcases hx with h | h | h | h | h | h | h | h | h | h | h | h | h | h | h | h | h | h | h | h <;> (rw [h]; exact iand_255 _)
theorem fed_at (a b c e f : Int) : ∀ k : Nat, k < 20 → (fed a b c e f)[k]? = some (bt (if k < 4 then a else if k < 8 then b else if k < 12 then c else if k < 16 then e else f) (k % 4)) := by
  intro k hk
  have : k = 0 ∨ k = 1 ∨ k = 2 ∨ k = 3 ∨ k = 4 ∨ k = 5 ∨ k = 6 ∨ k = 7 ∨ k = 8 ∨ k = 9 ∨ k = 10 ∨ k = 11 ∨ k = 12 ∨ k = 13 ∨ k = 14 ∨ k = 15 ∨ k = 16 ∨ k = 17 ∨ k = 18 ∨ k = 19 := by omega
  rcases this with h | h | h | h | h | h | h | h | h | h | h | h | h | h | h | h | h | h | h | h <;> (subst h; rfl)
section MTape
variable {E : EV} {d : Nat} {σ : St} {T : Tb} {M : Mo} {P : List Mo} {tp : List Int}
theorem RS.tape {τ : St} {tp' : List Int} (h : RS σ T M P tp) (hf : Fr [(76, -1), (42, 47)] σ τ) (h1 : τ.1 42 47 = tp'.length) (h2 : At (τ.1 76) 0 tp') : RS τ T M P tp' := by
  obtain ⟨⟨a1, a2, a3⟩, ⟨h4, h5⟩, ⟨h6, h7⟩, h8⟩ := h
  have f1 : τ.1 47 = σ.1 47 := funext (fun k => hf.2 _ _ rfl)
  have f2 : τ.1 49 = σ.1 49 := funext (fun k => hf.2 _ _ rfl)
  have f4 : τ.1 77 = σ.1 77 := funext (fun k => hf.2 _ _ rfl)
  refine ⟨⟨hf.fix a1 (by decide), fun l hl => ?_, by rw [f1]; exact a3⟩, ⟨(hf.2 _ _ rfl).trans h4, by rw [f2]; exact h5⟩, ⟨h1, h2⟩, by rw [f4]; exact h8⟩
  rw [hf.2 _ _ rfl, hf.2 _ _ rfl, hf.2 _ _ rfl, hf.2 _ _ rfl]
  exact a2 l hl
theorem c_M_feed {a b c e f : Int} (h : RS σ T M P tp) (hk : okD T M P tp) : WMi E m_M_feed d [aP 42, aI a, aI b, aI c, aI e, aI f] σ (fun r τ => if tp.length + 20 ≤ 400 then r = tp.length + 20 ∧ Fr [(76, -1), (42, 47)] σ τ ∧ RS τ T M P (tp ++ fed a b c e f) else r = -1 ∧ τ = σ) := by
  have hF := h.1.1
  have ht := h.2.2.1.1
  have hl := hk.2.2.2.1
  refine e_M_feed _ _ _ _ _ hF ⟨by omega, fun c0 => ?_, fun c0 => ⟨_, rfl, List.prefix_refl _, ?_⟩⟩
  · have key : ∀ z : Nat × St, (z.1 ≤ 20 ∧ Fr [(76, -1), (42, 47)] σ z.2 ∧ RS z.2 T M P (tp ++ (fed a b c e f).take z.1)) → WP E m_M_feed d 18 [(0, aP 42), (1, aI a), (2, aI b), (3, aI c), (4, aI e), (5, aI f), (6, aI z.1)] [] z.2 (fun r τ => ∃ v, r = some (aI v) ∧ σ.2 <+: τ.2 ∧ (if tp.length + 20 ≤ 400 then v = tp.length + 20 ∧ Fr [(76, -1), (42, 47)] σ τ ∧ RS τ T M P (tp ++ fed a b c e f) else v = -1 ∧ τ = σ)) := by
      refine lpx (fun z => 20 - z.1) _ _ (fun z hI ih => ?_)
      obtain ⟨k, τ⟩ := z
      obtain ⟨i1, i2, i3⟩ := hI
      simp only at i1 i2 i3 ih ⊢
      have hT := i3.1.1
      have htk : τ.1 42 47 = tp.length + k := by
        rw [i3.2.2.1.1, List.length_append, List.length_take, show (fed a b c e f).length = 20 by rfl]
        omega
      have step : k < 20 → ∀ v, v = (if k < 4 then a else if k < 8 then b else if k < 12 then c else if k < 16 then e else f) → WP E m_M_feed d 71 [(0, aP 42), (1, aI a), (2, aI b), (3, aI c), (4, aI e), (5, aI f), (6, aI k)] [aI v] τ (fun r τ => ∃ v, r = some (aI v) ∧ σ.2 <+: τ.2 ∧ (if tp.length + 20 ≤ 400 then v = tp.length + 20 ∧ Fr [(76, -1), (42, 47)] σ τ ∧ RS τ T M P (tp ++ fed a b c e f) else v = -1 ∧ τ = σ)) := by
        intro hk20 v hv
        refine b_M_feed_71 _ _ _ _ _ _ _ hT ⟨by omega, by omega, ?_⟩
        have e1 : iand (ishr v (24 - 8 * ((k : Int) % 4))) 255 = bt v (k % 4) := by unfold bt; rw [show (((k % 4 : Nat)) : Int) = (k : Int) % 4 by omega]
        rw [e1]
        have e2 := fed_at a b c e f k hk20
        rw [← hv] at e2
        have fw : Fr [(76, -1), (42, 47)] τ (wr (wr τ 76 (τ.1 42 47) (bt v (k % 4))) 42 47 (τ.1 42 47 + 1)) := (Fr.wr (frO_a (by decide) _)).tr (Fr.wr (frO_k (by decide)))
        have e3 : (fed a b c e f).take (k + 1) = (fed a b c e f).take k ++ [bt v (k % 4)] := by rw [List.take_add_one, e2]; rfl
        have e4 : (tp ++ (fed a b c e f).take k).length = tp.length + k := by rw [List.length_append, List.length_take, show (fed a b c e f).length = 20 by rfl]; omega
        have h9 := ih (k + 1, wr (wr τ 76 (τ.1 42 47) (bt v (k % 4))) 42 47 (τ.1 42 47 + 1)) (by show 20 - (k + 1) < 20 - k; omega) ⟨by show k + 1 ≤ 20; omega, i2.tr fw, by
          show RS _ T M P (tp ++ (fed a b c e f).take (k + 1))
          rw [e3, ← List.append_assoc]
          refine i3.tape fw ?_ ?_
          · rw [wr_same, htk, List.length_append, e4]; simp
          · refine i3.2.2.1.2.push ?_ ?_
            · rw [wr_na _ (by decide), wr_at, if_pos ⟨rfl, by rw [htk, e4]; omega⟩]
            · intro i hi
              rw [wr_na _ (by decide), wr_nk _ (by rw [htk]; rw [e4] at hi; omega)]⟩
        simp only at h9
        rw [show ((k + 1 : Nat) : Int) = (k : Int) + 1 by omega] at h9
        exact h9
      refine b_M_feed_18 _ _ _ _ _ _ hT ⟨by omega, fun c1 => ?_, fun c1 => ⟨by omega, fun c2 => ⟨by omega, fun c3 => ⟨by omega, fun c4 => ⟨by omega, fun c5 => step (by omega) _ ?_, fun c5 => step (by omega) _ ?_⟩, fun c4 => step (by omega) _ ?_⟩, fun c3 => step (by omega) _ ?_⟩, fun c2 => step (by omega) _ ?_⟩⟩
      · have : k = 20 := by omega
        subst this
        refine ⟨_, rfl, pre_eq i2.1, ?_⟩
        rw [if_pos (by omega)]
        exact ⟨htk, i2, i3⟩
      · rw [if_neg (by omega), if_neg (by omega), if_neg (by omega), if_neg (by omega)]
      · rw [if_neg (by omega), if_neg (by omega), if_neg (by omega), if_pos (by omega)]
      · rw [if_neg (by omega), if_neg (by omega), if_pos (by omega)]
      · rw [if_neg (by omega), if_pos (by omega)]
      · rw [if_pos (by omega)]
    exact key (0, σ) ⟨Nat.zero_le _, Fr.refl _ _, by simpa using h⟩
  · dsimp only
    rw [if_neg (by omega)]
    exact ⟨rfl, rfl⟩
theorem c_M_back {n : Int} (h : RS σ T M P tp) (hk : okD T M P tp) (hn : rI n) : WMi E m_M_back (d + 1) [aP 42, aI n] σ (fun r τ => if 0 ≤ n ∧ n ≤ tp.length then r = tp.length - n ∧ Fr [(42, 47)] σ τ ∧ RS τ T M P (tp.take (tp.length - n.toNat)) else r = -1 ∧ τ = σ) := by
  have hF := h.1.1
  have ht := h.2.2.1.1
  have hl := hk.2.2.2.1
  refine e_M_back _ hF (wmi_p (c_M_in hn (by decide) (by omega)) ⟨hF, b2i_r _, fun c => ?_, fun c => ?_⟩)
  · rw [b2i_n0, ht] at c
    refine ⟨_, rfl, List.prefix_refl _, ?_⟩
    dsimp only
    have fw : Fr [(42, 47)] σ (wr σ 42 47 (σ.1 42 47 - n)) := Fr.wr (frO_k (by decide))
    rw [if_pos c]
    refine ⟨by rw [ht], fw, h.tape (fw.mono (by decide)) ?_ ?_⟩
    · rw [wr_same, ht, List.length_take]; omega
    · have h5 := h.2.2.1.2
      rw [← List.take_append_drop (tp.length - n.toNat) tp] at h5
      exact (At.app.mp h5).1.congr (fun i hi => wr_na _ (by decide))
  · rw [b2i_0, ht] at c
    refine ⟨_, rfl, List.prefix_refl _, ?_⟩
    dsimp only
    rw [if_neg c]; exact ⟨rfl, rfl⟩
end MTape
