theorem cH_take (p : Nat) (L : List Tr) (j : Nat) : cH p (L.take (p - j)) j = cH p L j := by
  induction L generalizing j with
  | nil => simp [cH]
  | cons u L ih =>
    by_cases h : j < p
    · rw [show p - j = (p - (j + 1)) + 1 by omega, List.take_succ_cons]
      show (if _ then 1 else 0) + cH p (L.take (p - (j + 1))) (j + 1) = (if _ then 1 else 0) + cH p L (j + 1)
      rw [ih]
    · rw [show p - j = 0 by omega, List.take_zero]
      have z : ∀ (K : List Tr) (i : Nat), p ≤ i → cH p K i = 0 := by
        intro K
        induction K with
        | nil => intro i hi; rfl
        | cons w K ihK => intro i hi; rw [cH_c0 (by omega)]; exact ihK (i + 1) (by omega)
      rw [z (u :: L) j (by omega)]
      rfl
theorem nd_hold {u : Tr} (h : ok u) (h50 : sg u ≤ 50) : (100 ≤ nd u ∧ nd u ≤ 199) ↔ holdsT u = true := by
  have h1 := nd_j h h50
  cases u with
  | var l => have h2 : vN l < 26 := h
             have e : nd (.var l) = (vN l : Int) + 1 := rfl
             rw [e]; simp [holdsT]; omega
  | pow t l => have h2 : l < 26 := h.2
               have e : nd (.pow t l) = (l : Int) + 101 := rfl
               rw [e]; simp [holdsT]; omega
  | mul a b => have e : nd (.mul a b) = (nM (.mul a b) : Int) + 200 := rfl
               rw [e]; simp [holdsT]; omega
  | add a b => have e : nd (.add a b) = (nA (.add a b) : Int) + 300 := rfl
               rw [e]; simp [holdsT]; omega
  | _ => exact absurd h (by simp [ok])
theorem dq_max {t : Tr} (h : ok t) : ∀ k e, (∀ x ∈ dq k e t, x ≤ e + dcp t) ∧ ∃ x ∈ dq k e t, x = e + dcp t := by
  induction t with
  | var l => intro k e; simp [dq, dcp]
  | pow t l ih =>
    intro k e
    obtain ⟨h1, x, h2, h3⟩ := ih h.1 0 (e + 1)
    simp only [dq, dcp]
    refine ⟨fun y hy => ?_, x, List.mem_cons_of_mem _ h2, by omega⟩
    rcases List.mem_cons.mp hy with h4 | h4
    · omega
    · have := h1 y h4; omega
  | mul a b iha ihb =>
    intro k e
    obtain ⟨a1, x, a2, a3⟩ := iha h.1 0 e
    obtain ⟨b1, y, b2, b3⟩ := ihb h.2.1 1 e
    simp only [dq, dcp]
    refine ⟨fun z hz => ?_, ?_⟩
    · rcases List.mem_append.mp hz with h4 | h4
      · split at h4 <;> simp at h4; omega
      · rcases List.mem_append.mp h4 with h4 | h4
        · have := a1 z h4; omega
        · have := b1 z h4; omega
    · by_cases hm : dcp b ≤ dcp a
      · exact ⟨x, List.mem_append_right _ (List.mem_append_left _ a2), by omega⟩
      · exact ⟨y, List.mem_append_right _ (List.mem_append_right _ b2), by omega⟩
  | add a b iha ihb =>
    intro k e
    obtain ⟨a1, x, a2, a3⟩ := iha h.1 0 e
    obtain ⟨b1, y, b2, b3⟩ := ihb h.2.1 2 e
    simp only [dq, dcp]
    refine ⟨fun z hz => ?_, ?_⟩
    · rcases List.mem_append.mp hz with h4 | h4
      · split at h4 <;> simp at h4; omega
      · rcases List.mem_append.mp h4 with h4 | h4
        · have := a1 z h4; omega
        · have := b1 z h4; omega
    · by_cases hm : dcp b ≤ dcp a
      · exact ⟨x, List.mem_append_right _ (List.mem_append_left _ a2), by omega⟩
      · exact ⟨y, List.mem_append_right _ (List.mem_append_right _ b2), by omega⟩
  | _ => exact absurd h (by simp [ok])
/-- how deep the i-th sign is -/
def dpS : Tr → Nat → Nat
  | .pow t _, i => if i = 0 then 0 else dpS t (i - 1) + 1
  | .mul a b, i => if i < sg a then dpS a i else dpS b (i - sg a)
  | .add a b, i => if i < sg a then dpS a i else dpS b (i - sg a)
  | _, _ => 0
/-- the place of the i-th sign has its depth -/
theorem dq_sign {t : Tr} (h : ok t) : ∀ i, i < sg t → ∀ k e, ∃ A B, cnt A = i ∧ rc k t = A ++ (rc 0 (sgi t i) ++ B) ∧ (dq k e t)[A.length]? = some (e + dpS t i) := by
  have sr : ∀ (u : Tr) (k : Nat), isS u = true → rc k u = rc 0 u := by
    intro u k hu
    cases u <;> simp_all [isS, rc]
  induction t with
  | var l => intro i hi k e; have : i = 0 := by simp [sg] at hi; omega
             subst this; exact ⟨[], [], rfl, by simp [sgi, sr (.var l) k rfl], by simp [dq, dpS]⟩
  | pow t l ih =>
    intro i hi k e
    have hl : l < 26 := h.2
    by_cases h0 : i = 0
    · subst h0
      exact ⟨[], [], rfl, by simp [sgi, sr (.pow t l) k rfl], by simp [dq, dpS]⟩
    · obtain ⟨A, B, h1, h2, h3⟩ := ih h.1 (i - 1) (by simp [sg] at hi; omega) 0 (e + 1)
      refine ⟨((l : Int) + 101) :: A, B, ?_, ?_, ?_⟩
      · have h3 : (l : Int) + 101 < 200 := by omega
        simp [cnt, h1, h3]; omega
      · simp [sgi, h0, rc, h2]
      · simp only [dq, dpS, List.length_cons, List.getElem?_cons_succ, h3, if_neg h0]
        congr 1; omega
  | mul a b iha ihb =>
    intro i hi k e
    simp only [sg] at hi
    have hx : ¬ ((nM b : Int) + 201 < 200) := by omega
    by_cases hlt : i < sg a
    · obtain ⟨A, B, h1, h2, h3⟩ := iha h.1 i hlt 0 e
      have hAl : A.length < (dq 0 e a).length := (List.getElem?_eq_some_iff.mp h3).1
      refine ⟨(if k = 1 then [] else [(nM b : Int) + 201]) ++ A, B ++ rc 1 b, ?_, ?_, ?_⟩
      · rw [cnt_app, h1]
        split <;> simp [cnt, hx]
      · simp only [sgi, if_pos hlt, rc, h2]
        split <;> simp
      · simp only [dq, dpS, if_pos hlt]
        split
        · simpa [List.getElem?_append_left hAl] using h3
        · simp only [List.length_append, List.length_cons, List.length_nil, List.cons_append, List.nil_append]
          rw [List.getElem?_cons_succ, List.getElem?_append_left hAl]
          exact h3
    · obtain ⟨A, B, h1, h2, h3⟩ := ihb h.2.1 (i - sg a) (by omega) 1 e
      refine ⟨(if k = 1 then [] else [(nM b : Int) + 201]) ++ (rc 0 a ++ A), B, ?_, ?_, ?_⟩
      · rw [cnt_app, cnt_app, h1, rc_cnt h.1]
        split <;> simp [cnt, hx] <;> omega
      · simp only [sgi, if_neg hlt, rc, h2]
        split <;> simp
      · simp only [dq, dpS, if_neg hlt]
        split
        · simp only [List.length_append, List.nil_append, List.length_nil]
          rw [List.getElem?_append_right (by rw [dq_len]; omega), dq_len, show (rc 0 a).length + A.length - (rc 0 a).length = A.length by omega]
          exact h3
        · simp only [List.length_append, List.length_cons, List.length_nil, List.cons_append, List.nil_append]
          rw [List.getElem?_cons_succ, List.getElem?_append_right (by rw [dq_len]; omega), dq_len, show (rc 0 a).length + A.length - (rc 0 a).length = A.length by omega]
          exact h3
  | add a b iha ihb =>
    intro i hi k e
    simp only [sg] at hi
    have hx : ¬ ((nA b : Int) + 301 < 200) := by omega
    by_cases hlt : i < sg a
    · obtain ⟨A, B, h1, h2, h3⟩ := iha h.1 i hlt 0 e
      have hAl : A.length < (dq 0 e a).length := (List.getElem?_eq_some_iff.mp h3).1
      refine ⟨(if k = 2 then [] else [(nA b : Int) + 301]) ++ A, B ++ rc 2 b, ?_, ?_, ?_⟩
      · rw [cnt_app, h1]
        split <;> simp [cnt, hx]
      · simp only [sgi, if_pos hlt, rc, h2]
        split <;> simp
      · simp only [dq, dpS, if_pos hlt]
        split
        · simpa [List.getElem?_append_left hAl] using h3
        · simp only [List.length_append, List.length_cons, List.length_nil, List.cons_append, List.nil_append]
          rw [List.getElem?_cons_succ, List.getElem?_append_left hAl]
          exact h3
    · obtain ⟨A, B, h1, h2, h3⟩ := ihb h.2.1 (i - sg a) (by omega) 2 e
      refine ⟨(if k = 2 then [] else [(nA b : Int) + 301]) ++ (rc 0 a ++ A), B, ?_, ?_, ?_⟩
      · rw [cnt_app, cnt_app, h1, rc_cnt h.1]
        split <;> simp [cnt, hx] <;> omega
      · simp only [sgi, if_neg hlt, rc, h2]
        split <;> simp
      · simp only [dq, dpS, if_neg hlt]
        split
        · simp only [List.length_append, List.nil_append, List.length_nil]
          rw [List.getElem?_append_right (by rw [dq_len]; omega), dq_len, show (rc 0 a).length + A.length - (rc 0 a).length = A.length by omega]
          exact h3
        · simp only [List.length_append, List.length_cons, List.length_nil, List.cons_append, List.nil_append]
          rw [List.getElem?_cons_succ, List.getElem?_append_right (by rw [dq_len]; omega), dq_len, show (rc 0 a).length + A.length - (rc 0 a).length = A.length by omega]
          exact h3
  | _ => exact absurd h (by simp [ok])
section MIns
variable {E : EV} {d : Nat} {σ : St} {T : Tb} {M : Mo} {P : List Mo} {tp : List Int}
theorem c_M_around {a o q : Int} {t : Tr} {p e : Nat} (ht : ok t) (h50 : sg t ≤ 50) (hA : At (σ.1 a) o (rc 0 t)) (ho : 0 ≤ o ∧ o ≤ 50000) (hs : ∃ n : Nat, sh σ a = some (20, n) ∧ o + (rc 0 t).length ≤ n) (hq : q = o + p) (hp : (dq 0 0 t)[p]? = some e) :
    WMi E m_M_around (d + 2) [aP a, aI o, aI q] σ (fun r τ => r = e ∧ τ = σ) := by
  subst hq
  obtain ⟨n, hs, hle⟩ := hs
  have hl2 := (rc_len2 ht 0).1
  have hpl : p < (rc 0 t).length := by have := (List.getElem?_eq_some_iff.mp hp).1; rw [dq_len] at this; exact this
  have hdq := (cH_dq ht p 0 0 0).2 (by omega) (by omega)
  rw [show p - 0 = p by omega, hp] at hdq
  have hec : e = cH p (sb 0 t) 0 := by have := Option.some.inj hdq; omega
  refine e_M_around _ _ _ ?_
  have key : ∀ s : Nat × Int, (s.1 ≤ p ∧ s.2 = cH p ((sb 0 t).take s.1) 0) → WP E m_M_around (d + 2) 5 [(0, aP a), (2, aI (o + p)), (3, aI s.2), (4, aI (o + s.1))] [] σ (fun r τ => ∃ v, r = some (aI v) ∧ σ.2 <+: τ.2 ∧ v = e ∧ τ = σ) := by
    refine lpx (fun s => p - s.1) _ _ (fun s hI ih => ?_)
    obtain ⟨j, v⟩ := s
    obtain ⟨i1, i2⟩ := hI
    simp only at i1 i2 ih ⊢
    refine b_M_around_5 _ _ _ _ ⟨by omega, by omega, fun c => ri_p ?_, fun c => ?_⟩
    · have hjp : j = p := by omega
      rw [i2, hjp, hec]
      have := cH_take p (sb 0 t) 0
      rw [show p - 0 = p by omega] at this
      rw [this]
    · have hj : j < (sb 0 t).length := by rw [sb_len]; omega
      obtain ⟨u1, u2, u3, u4⟩ := sbT_at ht 0 (σ.1 a) o hA j _ (List.getElem?_eq_getElem hj)
      have hx : σ.1 a (o + j) = nd (sb 0 t)[j] := by have h9 := u1; rw [rc0_nd u2] at h9; exact h9.hd
      have hnd := nd_pts u2 (by omega)
      have hh := nd_hold u2 (by omega)
      have htk : (sb 0 t).take (j + 1) = (sb 0 t).take j ++ [(sb 0 t)[j]] := by rw [List.take_add_one, List.getElem?_eq_getElem hj]; rfl
      have hlen : ((sb 0 t).take j).length = j := by rw [List.length_take]; omega
      have hcj : cH p ((sb 0 t).take (j + 1)) 0 = cH p ((sb 0 t).take j) 0 + cH p [(sb 0 t)[j]] j := by rw [htk, cH_app, hlen]; simp
      have nxt : ∀ w, w = (cH p ((sb 0 t).take (j + 1)) 0 : Int) → WP E m_M_around (d + 2) 39 [(0, aP a), (2, aI (o + p)), (3, aI w), (4, aI (o + j))] [] σ (fun r τ => ∃ v, r = some (aI v) ∧ σ.2 <+: τ.2 ∧ v = e ∧ τ = σ) := by
        intro w hw
        refine b_M_around_39 _ _ _ _ ?_
        have := ih (j + 1, w) (by show p - (j + 1) < p - j; omega) ⟨by show j + 1 ≤ p; omega, hw⟩
        rw [show o + (j : Int) + 1 = o + ((j + 1 : Nat) : Int) by omega]
        exact this
      refine ⟨⟨n, hs, by omega, by omega, by omega⟩, wmi_p (c_M_in (by rw [hx]; omega) (by decide) (by decide)) ⟨b2i_r _, fun c2 => nxt _ ?_, fun c2 => ?_⟩⟩
      · rw [b2i_0, hx] at c2
        rw [hcj, cH_c0 (fun q => c2 (hh.mpr q.2.1)), i2]
        simp [cH]
      · rw [b2i_n0, hx] at c2
        refine wmi_p (c_M_endOf u2 (by omega) u1 (by omega) ⟨n, hs, by omega⟩) ⟨by omega, by omega, fun c3 => nxt _ ?_, fun c3 => nxt _ ?_⟩
        · rw [hcj, cH_c0 (fun q => by omega), i2]
          simp [cH]
        · rw [hcj, cH_c1 ⟨by omega, hh.mp c2, by omega⟩, i2]
          simp [cH]
  have := key (0, 0) ⟨Nat.zero_le _, by simp [cH]⟩
  simpa using this
theorem c_M_deepIn {a o q : Int} {t : Tr} (ht : ok t) (h50 : sg t ≤ 50) (hA : At (σ.1 a) o (rc 0 t)) (ho : 0 ≤ o ∧ o ≤ 50000) (hs : ∃ n : Nat, sh σ a = some (20, n) ∧ o + (rc 0 t).length ≤ n) (hq : q = o + (rc 0 t).length) :
    WMi E m_M_deepIn (d + 3) [aP a, aI o, aI q] σ (fun r τ => r = dcp t ∧ τ = σ) := by
  subst hq
  have hl2 := (rc_len2 ht 0).1
  obtain ⟨m1, x, m2, m3⟩ := dq_max ht 0 0
  obtain ⟨px, hpx⟩ := List.getElem?_of_mem m2
  have hpl : px < (rc 0 t).length := by have := (List.getElem?_eq_some_iff.mp hpx).1; rw [dq_len] at this; exact this
  have hd50 : ∀ e, e ∈ dq 0 0 t → e ≤ 100 := by
    have hdc : dcp t ≤ sg t := by
      have : ∀ t : Tr, dcp t ≤ sg t := by
        intro t
        induction t with
        | pow t l ih => simp only [dcp, sg]; omega
        | mul a b iha ihb => simp only [dcp, sg]; omega
        | add a b iha ihb => simp only [dcp, sg]; omega
        | _ => simp [dcp]
      exact this t
    intro e he
    have := m1 e he
    omega
  refine e_M_deepIn _ _ _ ?_
  have key : ∀ s : Nat × Int, (s.1 ≤ (rc 0 t).length ∧ (0 ≤ s.2 ∧ s.2 ≤ dcp t) ∧ ∀ (j e : Nat), j < s.1 → (dq 0 0 t)[j]? = some e → (e : Int) ≤ s.2) → WP E m_M_deepIn (d + 3) 5 [(0, aP a), (1, aI o), (2, aI (o + (rc 0 t).length)), (3, aI s.2), (4, aI (o + s.1))] [] σ (fun r τ => ∃ v, r = some (aI v) ∧ σ.2 <+: τ.2 ∧ v = dcp t ∧ τ = σ) := by
    refine lpx (fun s => (rc 0 t).length - s.1) _ _ (fun s hI ih => ?_)
    obtain ⟨j, v⟩ := s
    obtain ⟨i1, i2, i3⟩ := hI
    simp only at i1 i2 i3 ih ⊢
    have hdl : (dcp t : Int) ≤ 100 := by have := hd50 x m2; omega
    refine b_M_deepIn_5 _ _ _ _ _ ⟨by omega, by omega, fun c => ri_p ?_, fun c => ?_⟩
    · have := i3 px x (by omega) hpx
      omega
    · have hj : j < (dq 0 0 t).length := by rw [dq_len]; omega
      have he := List.getElem?_eq_getElem hj
      have hem := m1 _ (List.getElem_mem hj)
      have nxt : ∀ w : Int, (0 ≤ w ∧ w ≤ dcp t) → v ≤ w → ((dq 0 0 t)[j] : Int) ≤ w → WP E m_M_deepIn (d + 3) 29 [(0, aP a), (1, aI o), (2, aI (o + (rc 0 t).length)), (3, aI w), (4, aI (o + j))] [] σ (fun r τ => ∃ v, r = some (aI v) ∧ σ.2 <+: τ.2 ∧ v = dcp t ∧ τ = σ) := by
        intro w h1 h2 h3
        refine b_M_deepIn_29 _ _ _ _ _ ?_
        have := ih (j + 1, w) (by show (rc 0 t).length - (j + 1) < (rc 0 t).length - j; omega) ⟨by show j + 1 ≤ (rc 0 t).length; omega, h1, fun j2 e2 hj2 he2 => ?_⟩
        · rw [show o + (j : Int) + 1 = o + ((j + 1 : Nat) : Int) by omega]
          exact this
        · have hj2' : j2 < j + 1 := hj2
          show (e2 : Int) ≤ w
          by_cases hjj : j2 = j
          · subst hjj
            rw [he] at he2
            have := Option.some.inj he2
            omega
          · have := i3 j2 e2 (by omega) he2
            omega
      refine wmi_p (c_M_around ht h50 hA ho hs rfl he) ⟨by omega, by omega, fun c2 => nxt v (by omega) (by omega) (by omega), fun c2 => nxt _ (by omega) (by omega) (by omega)⟩
  have := key (0, 0) ⟨Nat.zero_le _, by simp, fun j e hj => absurd hj (by simp)⟩
  simpa using this
end MIns
