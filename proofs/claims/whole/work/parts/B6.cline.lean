/-! LINES AND MOMENTS -/
/-- what the squares of a line are like -/
def okQs (L : Ln) : Prop := L.2.length ≤ 1000 ∧ ∀ t ∈ L.2, okw t ∧ (cC t).length ≤ 19
theorem okLn.qs {T : Tb} {L : Ln} (h : okLn T L) : okQs L := ⟨by have := h.1.2; omega, fun t ht => ⟨(h.2 t ht).1.w, by have := cC_len2 (h.2 t ht).1; have := (h.2 t ht).2.1; omega⟩⟩
/-- an array of refs being filled since σ -/
def Nw (kd : Nat) (σ : St) (n : Nat) (f : Int → Int) (k : Int) (τ : St) : Prop := τ.2 = (al σ kd n).2 ∧ (∀ b j, b ≠ nx σ → τ.1 b j = σ.1 b j) ∧ ∀ j : Int, 0 ≤ j → j < k → τ.1 (nx σ) j = f j
section CNew
variable {σ τ : St} {kd n : Nat} {f : Int → Int} {k : Int}
theorem Nw.start (kd : Nat) (σ : St) (n : Nat) (f : Int → Int) : Nw kd σ n f 0 (al σ kd n) := ⟨rfl, fun b j hb => if_neg hb, fun j h0 h1 => by omega⟩
theorem Nw.sh_ (h : Nw kd σ n f k τ) : sh τ (nx σ) = some (kd, n) := by
  have : sh τ = sh (al σ kd n) := by funext b; unfold sh; rw [h.1]
  rw [this]; exact sh_nx _ _ _
theorem Nw.cf (h : Nw kd σ n f k τ) (X : List (Int × Int)) : Cf 1 n X σ τ := by
  have c := Cf.al_ σ kd n X
  refine ⟨by rw [h.1]; exact c.1, by unfold tot; rw [h.1]; exact c.2.1, fun a j ha _ => h.2.1 a j (by unfold nx; omega)⟩
theorem Nw.step (h : Nw kd σ n f k τ) {v : Int} (hv : v = f k) : Nw kd σ n f (k + 1) (wr τ (nx σ) k v) := by
  refine ⟨h.1, fun b j hb => (wr_na _ hb).trans (h.2.1 b j hb), fun j h0 h1 => ?_⟩
  rw [wr_at]
  by_cases q : j = k
  · rw [if_pos ⟨rfl, q⟩, hv, q]
  · rw [if_neg (fun z => q z.2)]; exact h.2.2 j h0 (by omega)
/-- a cell of N fields (kind ci) made behind such an array, its first field the array -/
def New2 (kd ci N : Nat) (σ : St) (n : Nat) (f : Int → Int) (r : Int) (τ : St) : Prop := Cf 2 (n + N) [] σ τ ∧ r = nx σ + 1 ∧ sh τ r = some (ci, N) ∧ τ.1 r 0 = nx σ ∧ sh τ (nx σ) = some (kd, n) ∧ ∀ j : Int, 0 ≤ j → j < n → τ.1 (nx σ) j = f j
theorem Nw.nx_ (h : Nw kd σ n f k τ) : nx τ = nx σ + 1 := by unfold nx; rw [h.1]; simp [al]
theorem Nw.new2 {ci N : Nat} {υ : St} (h : Nw kd σ n f n τ) (h2 : υ.2 = (al τ ci N).2) (h3 : ∀ b j, b ≠ nx τ → υ.1 b j = τ.1 b j) (h4 : υ.1 (nx τ) 0 = nx σ) : New2 kd ci N σ n f (nx τ) υ := by
  have c := h.cf []
  have e := h.nx_
  have es : sh υ = sh (al τ ci N) := by funext b; unfold sh; rw [h2]
  have c2 := Cf.al_ τ ci N []
  refine ⟨⟨c.1.trans (by rw [h2]; exact c2.1), ⟨?_, ?_⟩, fun a j ha _ => ?_⟩, e, by rw [es]; exact sh_nx _ _ _, h4, by rw [es]; exact sh_al h.sh_, fun j h0 h1 => ?_⟩
  · have := c.2.1.1; have := c2.2.1.1; rw [h2]; omega
  · have := c.2.1.2; have := c2.2.1.2; unfold tot at *; rw [h2]; omega
  · rw [h3 _ _ (by rw [e]; unfold nx; omega)]; exact h.2.1 _ _ (by unfold nx; omega)
  · rw [h3 _ _ (by rw [e]; omega)]; exact h.2.2 j h0 h1
theorem New2.ln {b : Int} {l : Bool} {Ls : List Tr} {r : Int} (h : New2 24 3 2 σ Ls.length f r τ) (hl : τ.1 r 1 = (if l then 1 else 0)) (hb : b ≤ σ.2.length) (hs : ∀ (s : Nat) (t : Tr), Ls[s]? = some t → SqC b σ (f s) t) : LnC b τ r (l, Ls) := by
  obtain ⟨h1, h2, h3, h4, h5, h6⟩ := h
  have hnx : nx σ = σ.2.length + 1 := rfl
  refine ⟨⟨by omega, by rw [h4]; omega⟩, h3, by rw [h4]; exact h5, hl, fun s t ht => ?_⟩
  have ht2 : Ls[s]? = some t := ht
  have := (List.getElem?_eq_some_iff.mp ht2).1
  rw [h4, h6 _ (by omega) (by omega)]
  exact (hs s t ht).cf h1 (fun p hp => by cases hp)
theorem New2.mo {b : Int} {M : Mo} {r : Int} (h : New2 25 4 3 σ M.2.2.length f r τ) (hl : τ.1 r 1 = M.1 ∧ τ.1 r 2 = M.2.1) (hb : 92 ≤ σ.2.length) (hs : ∀ (s : Nat) (L : Ln), M.2.2[s]? = some L → LnC b σ (f s) L) : MoC b τ r M := by
  obtain ⟨h1, h2, h3, h4, h5, h6⟩ := h
  have hnx : nx σ = σ.2.length + 1 := rfl
  refine ⟨⟨Or.inr (by omega), Or.inr (by rw [h4]; omega)⟩, h3, by rw [h4]; exact h5, hl, fun s t ht => ?_⟩
  have := (List.getElem?_eq_some_iff.mp ht).1
  rw [h4, h6 _ (by omega) (by omega)]
  exact (hs s t ht).cf h1 (fun p hp => by cases hp)
end CNew
section CLine
variable {E : EV} {d : Nat} {σ : St} {a b s : Int} {L : Ln}
theorem c_Line_has (h : LnC b σ a L) (hn : L.2.length ≤ 1000) (h1 : rI s) : WMi E m_Line_has d [aP a, aI s] σ (fun r τ => r = b2i (0 ≤ s ∧ s < L.2.length) ∧ τ = σ) := by
  have hs := h.2.2.1
  refine e_Line_has _ _ ⟨h1, fun c => ri_p (b2i_f (by omega)).symm, fun c => ⟨h.2.1, ⟨_, hs⟩, h1, by rw [ln_of hs]; omega, fun c2 => ri_p (b2i_f ?_).symm, fun c2 => ri_p (b2i_t ?_).symm⟩⟩
  · rw [ln_of hs] at c2; omega
  · rw [ln_of hs] at c2; omega
theorem c_Line_size (h : LnC b σ a L) : WMi E m_Line_size d [aP a] σ (fun r τ => r = L.2.length ∧ τ = σ) :=
  e_Line_size _ ⟨h.2.1, ⟨_, h.2.2.1⟩, ri_p (ln_of h.2.2.1)⟩
/-- the cell at a place, 0 where there is none -/
def rf (σ : St) (a : Int) (n : Nat) (s : Int) : Int := if 0 ≤ s ∧ s < n then σ.1 (σ.1 a 0) s else 0
theorem c_Line_get (h : LnC b σ a L) (hn : L.2.length ≤ 1000) (h1 : rI s) : WMr E m_Line_get (d + 1) [aP a, aI s] σ (fun r τ => r = rf σ a L.2.length s ∧ τ = σ) := by
  refine e_Line_get _ _ ⟨h.2.1, wmi_p (c_Line_has h hn h1) ⟨b2i_r _, fun c => rr_p ?_, fun c => ⟨h.2.1, ?_, rr_p ?_⟩⟩⟩
  · rw [b2i_0] at c; unfold rf; rw [if_neg c]
  · rw [b2i_n0] at c; exact ⟨_, h.2.2.1, by omega, by omega, by omega⟩
  · rw [b2i_n0] at c; unfold rf; rw [if_pos c]
theorem rf_sq (h : LnC b σ a L) {t : Tr} (hs : sqIn L s = some t) : SqC b σ (rf σ a L.2.length s) t ∧ rf σ a L.2.length s ≠ 0 := by
  have h1 := h.sq hs
  have : SqC b σ (rf σ a L.2.length s) t := by unfold rf; rw [if_pos h1.1]; exact h1.2
  exact ⟨this, by have := (sh_len this.2.1).1; omega⟩
theorem rf_none (hs : sqIn L s = none) : rf σ a L.2.length s = 0 := if_neg (sqIn_none hs)
/-- a sum over an array of refs -/
theorem sum_take {α : Type} (g : α → Nat) {Ls : List α} {k : Nat} {x : α} (hx : Ls[k]? = some x) : ((Ls.take (k + 1)).map g).sum = ((Ls.take k).map g).sum + g x := by
  rw [List.take_succ, hx]; simp
theorem c_Line_signs (h : LnC b σ a L) (hk : okQs L) : WMi E m_Line_signs (d + 3) [aP a] σ (fun r τ => r = ((L.2.map sg).sum : Nat) ∧ τ = σ) := by
  have hsz := hk.1
  refine e_Line_signs _ ⟨h.2.1, ⟨_, h.2.2.1⟩, ?_⟩
  rw [ln_of h.2.2.1]
  refine lpu L.2.length (fun k τ => ∀ n : Nat, n = ((L.2.take k.toNat).map sg).sum → WP E m_Line_signs (d + 3) 13 [(1, aI n), (2, aP (σ.1 a 0)), (3, aI L.2.length), (4, aI k)] [] τ _) (fun k τ => (0 ≤ k ∧ k ≤ L.2.length) ∧ τ = σ) (fun k τ hI ih n hn => ?_) 0 σ ⟨by omega, rfl⟩ 0 (by simp)
  obtain ⟨i1, rfl⟩ := hI
  refine b_Line_signs_13 _ _ _ _ ⟨by omega, by omega, fun c => ri_p (by rw [hn, List.take_of_length_le (by omega)]), fun c => ?_⟩
  obtain ⟨t, ht⟩ : ∃ t, L.2[k.toNat]? = some t := ⟨_, List.getElem?_eq_getElem (by omega)⟩
  have hsq := h.2.2.2.2 _ _ ht
  rw [show ((k.toNat : Nat) : Int) = k by omega] at hsq
  have hp := (sh_len hsq.2.1).1
  have hw := hk.2 t (List.mem_of_getElem? ht)
  refine ⟨⟨_, h.2.2.1, by omega, by omega, by omega⟩, fun _ => ⟨hsq.2.1, wmi_p (c_Sq_signs hsq.2 hw.1 (by omega)) (b_Line_signs_40 _ _ _ _ _ ?_)⟩, fun q => by omega⟩
  have := ih (by omega) τ ⟨by omega, rfl⟩ (n + sg t) (by rw [show (k + 1).toNat = k.toNat + 1 by omega, sum_take sg ht, hn])
  rw [show (n : Int) + (sg t : Int) = ((n + sg t : Nat) : Int) by omega]
  exact this
theorem c_Line_timesOf {c : Nat} (h : LnC b σ a L) (hk : okQs L) (hc : c < 26) : WMi E m_Line_timesOf (d + 3) [aP a, aI c] σ (fun r τ => r = lcLn c L ∧ τ = σ) := by
  have hsz := hk.1
  refine e_Line_timesOf _ _ ⟨h.2.1, ⟨_, h.2.2.1⟩, ?_⟩
  rw [ln_of h.2.2.1]
  refine lpu L.2.length (fun k τ => ∀ n : Nat, n = ((L.2.take k.toNat).map (lc c)).sum → WP E m_Line_timesOf (d + 3) 14 [(1, aI c), (2, aI n), (3, aP (σ.1 a 0)), (4, aI L.2.length), (5, aI k)] [] τ _) (fun k τ => (0 ≤ k ∧ k ≤ L.2.length) ∧ τ = σ) (fun k τ hI ih n hn => ?_) 0 σ ⟨by omega, rfl⟩ 0 (by simp)
  obtain ⟨i1, rfl⟩ := hI
  refine b_Line_timesOf_14 _ _ _ _ _ ⟨by omega, by omega, fun g => ri_p (by rw [hn, List.take_of_length_le (by omega)]; rfl), fun g => ?_⟩
  obtain ⟨t, ht⟩ : ∃ t, L.2[k.toNat]? = some t := ⟨_, List.getElem?_eq_getElem (by omega)⟩
  have hsq := h.2.2.2.2 _ _ ht
  rw [show ((k.toNat : Nat) : Int) = k by omega] at hsq
  have hp := (sh_len hsq.2.1).1
  have hw := hk.2 t (List.mem_of_getElem? ht)
  refine ⟨⟨_, h.2.2.1, by omega, by omega, by omega⟩, fun _ => ⟨hsq.2.1, wmi_p (c_Sq_timesOf hsq.2 (by omega) (cC_sym hw.1) (by omega)) (b_Line_timesOf_43 _ _ _ _ _ _ ?_)⟩, fun q => by omega⟩
  rw [cC_lc hw.1 hc]
  have := ih (by omega) τ ⟨by omega, rfl⟩ (n + lc c t) (by rw [show (k + 1).toNat = k.toNat + 1 by omega, sum_take (lc c) ht, hn])
  rw [show (n : Int) + (lc c t : Int) = ((n + lc c t : Nat) : Int) by omega]
  exact this
/-- a line as it is where an array behind it is being filled -/
theorem Nw.lnc {kd n : Nat} {f : Int → Int} {k : Int} {τ : St} (hw : Nw kd σ n f k τ) (h : LnC b σ a L) : LnC b τ a L := h.cf (hw.cf []) (fun p hp => by cases hp)
theorem Nw.rf_ {kd n : Nat} {f : Int → Int} {k : Int} {τ : St} (hw : Nw kd σ n f k τ) (h : LnC b σ a L) (m : Nat) (s : Int) : rf τ a m s = rf σ a m s := by
  have l1 := sh_len h.2.1
  have l2 := sh_len h.2.2.1
  unfold rf
  rw [hw.2.1 a 0 (by unfold nx; omega), hw.2.1 (σ.1 a 0) s (by unfold nx; omega)]
/-- how the loops that make lines end -/
theorem l_Line_end {n : Nat} {f : Int → Int} {τ : St} (hw : Nw 24 σ n f n τ) (h : LnC b σ a L) {Q : St → Prop} (k : ∀ υ, New2 24 3 2 σ n f (nx τ) υ → υ.1 (nx τ) 1 = (if L.1 then 1 else 0) → (al τ 3 2).2 <+: υ.2 → Q υ) : WMv E m_Line_init (d + 1) [aP (nx τ), aP (nx σ), aI ((al τ 3 2).1 a 1)] (al τ 3 2) Q := by
  have l1 := sh_len h.2.1
  have e : (al τ 3 2).1 a 1 = (if L.1 then 1 else 0) := by
    rw [al_old (by have := (hw.cf []).1.length_le; omega), hw.2.1 a 1 (by unfold nx; omega)]
    exact h.2.2.2.1
  rw [e]
  have hs1 : sh (al τ 3 2) (nx τ) = some (3, 2) := sh_nx τ 3 2
  have h01 : (if L.1 = true then (1 : Int) else 0) = 0 ∨ (if L.1 = true then (1 : Int) else 0) = 1 := by split <;> simp
  have n2 : New2 24 3 2 σ n f (nx τ) (wr (wr (al τ 3 2) (nx τ) 0 (nx σ)) (nx τ) 1 (if L.1 = true then 1 else 0)) := by
    refine hw.new2 (ci := 3) (N := 2) ?_ (fun b j hb => ?_) ?_
    · rw [wr_2, wr_2]
    · rw [wr_na _ hb, wr_na _ hb]; exact if_neg hb
    · rw [wr_nk _ (by decide), wr_same]
  have fin := k _ n2 (wr_same _ _ _ _) (List.prefix_refl _)
  exact e_Line_init _ _ _ ⟨nx_pos τ, hs1, h01, hs1, rfl, List.prefix_refl _, fin⟩
theorem c_Line_with {x : Int} (h : LnC b σ a L) (hn : L.2.length ≤ 1000) (h1 : rI s) (hx : sh σ x = some (7, 1)) : WMr E m_Line_with (d + 2) [aP a, aI s, aP x] σ (fun r τ => New2 24 3 2 σ L.2.length (fun k => if k = s then x else rf σ a L.2.length k) r τ ∧ τ.1 r 1 = (if L.1 then 1 else 0)) := by
  refine e_Line_with _ _ _ ⟨h.2.1, ⟨_, h.2.2.1⟩, by rw [ln_of h.2.2.1]; omega, ?_⟩
  rw [ln_of h.2.2.1, show ((L.2.length : Nat) : Int).toNat = L.2.length by omega]
  refine lpu L.2.length (fun k τ => WP E m_Line_with (d + 2) 12 [(0, aP a), (1, aI s), (2, aP x), (3, aP (nx σ)), (4, aI k)] [] τ _) (fun k τ => (0 ≤ k ∧ k ≤ L.2.length) ∧ Nw 24 σ L.2.length (fun k => if k = s then x else rf σ a L.2.length k) k τ) (fun k τ hI ih => ?_) 0 _ ⟨by omega, Nw.start _ _ _ _⟩
  obtain ⟨i1, i2⟩ := hI
  have hT := i2.lnc h
  refine b_Line_with_12 _ _ _ _ _ ⟨⟨_, i2.sh_⟩, by omega, by rw [ln_of i2.sh_]; omega, fun c => ?_, fun c => ?_⟩
  · rw [ln_of i2.sh_] at c
    obtain rfl : k = L.2.length := by omega
    exact ⟨sh_al hT.2.1, nx_pos _, l_Line_end i2 h (fun υ q1 q2 q3 => ⟨_, rfl, q1.1.1, q1, q2⟩)⟩
  · rw [ln_of i2.sh_] at c
    have hpx := sh_pre (i2.cf []).1 hx
    refine ⟨by omega, h1, fun c2 => ⟨hT.2.1, wmr_p (c_Line_get hT hn (by omega)) ?_⟩, fun c2 => ?_⟩
    · refine b_Line_with_38 _ _ _ _ _ _ _ _ ⟨⟨_, i2.sh_, by omega, by omega, by omega⟩, ?_, ih (by omega) _ ⟨by omega, i2.step ?_⟩⟩
      · right
        have := hT.2.2.2.2 k.toNat _ (List.getElem?_eq_getElem (by omega))
        rw [show ((k.toNat : Nat) : Int) = k by omega] at this
        unfold rf; rw [if_pos (by omega)]; exact this.2.1
      · rw [if_neg c2, i2.rf_ h]
    · refine b_Line_with_38 _ _ _ _ _ _ _ _ ⟨⟨_, i2.sh_, by omega, by omega, by omega⟩, Or.inr hpx, ih (by omega) _ ⟨by omega, i2.step ?_⟩⟩
      rw [if_pos c2]
theorem c_Line_withNext {x y : Int} (h : LnC b σ a L) (hn : L.2.length ≤ 1000) (h1 : 0 ≤ s ∧ s < L.2.length) (hx : sh σ x = some (7, 1)) (hy : sh σ y = some (7, 1)) : WMr E m_Line_withNext (d + 2) [aP a, aI s, aP x, aP y] σ (fun r τ => New2 24 3 2 σ (L.2.length + 1) (fun k => if k = s then x else if k = s + 1 then y else rf σ a L.2.length (if k < s then k else k - 1)) r τ ∧ τ.1 r 1 = (if L.1 then 1 else 0)) := by
  refine e_Line_withNext _ _ _ _ ⟨h.2.1, ⟨_, h.2.2.1⟩, by rw [ln_of h.2.2.1]; omega, ?_⟩
  rw [ln_of h.2.2.1, show ((L.2.length : Nat) : Int) + 1 = ((L.2.length + 1 : Nat) : Int) by omega, show ((L.2.length + 1 : Nat) : Int).toNat = L.2.length + 1 by omega]
  refine lpu (L.2.length + 1 : Nat) (fun k τ => WP E m_Line_withNext (d + 2) 15 [(0, aP a), (1, aI s), (2, aP x), (3, aP y), (4, aP (nx σ)), (5, aI k)] [] τ _) (fun k τ => (0 ≤ k ∧ k ≤ (L.2.length + 1 : Nat)) ∧ Nw 24 σ (L.2.length + 1) (fun k => if k = s then x else if k = s + 1 then y else rf σ a L.2.length (if k < s then k else k - 1)) k τ) (fun k τ hI ih => ?_) 0 _ ⟨by omega, Nw.start _ _ _ _⟩
  obtain ⟨i1, i2⟩ := hI
  have hT := i2.lnc h
  have hgo : ∀ v : Int, (v = 0 ∨ sh τ v = some (7, 1)) → (¬ ((L.2.length + 1 : Nat) : Int) ≤ k) → v = (if k = s then x else if k = s + 1 then y else rf σ a L.2.length (if k < s then k else k - 1)) → WP E m_Line_withNext (d + 2) 68 [(0, aP a), (1, aI s), (2, aP x), (3, aP y), (4, aP (nx σ)), (5, aI k)] [aP v, aI k, aP (nx σ)] τ _ := fun v hv c he => b_Line_withNext_68 _ _ _ _ _ _ _ _ _ ⟨⟨_, i2.sh_, by omega, by omega, by omega⟩, hv, ih (by omega) _ ⟨by omega, i2.step he⟩⟩
  refine b_Line_withNext_15 _ _ _ _ _ _ ⟨⟨_, i2.sh_⟩, by omega, by rw [ln_of i2.sh_]; omega, fun c => ?_, fun c => ?_⟩
  · rw [ln_of i2.sh_] at c
    obtain rfl : k = (L.2.length + 1 : Nat) := by omega
    exact ⟨sh_al hT.2.1, nx_pos _, l_Line_end i2 h (fun υ q1 q2 q3 => ⟨_, rfl, q1.1.1, q1, q2⟩)⟩
  · rw [ln_of i2.sh_] at c
    have hgt : ∀ j : Int, 0 ≤ j → j < L.2.length → sh τ (rf τ a L.2.length j) = some (7, 1) := by
      intro j q1 q2
      have := hT.2.2.2.2 j.toNat _ (List.getElem?_eq_getElem (by omega))
      rw [show ((j.toNat : Nat) : Int) = j by omega] at this
      unfold rf; rw [if_pos (by omega)]; exact this.2.1
    refine ⟨by omega, by omega, fun c2 => ⟨by omega, by omega, fun c3 => ⟨by omega, by omega, fun c4 => ?_, fun c4 => ?_⟩, fun c3 => ?_⟩, fun c2 => ?_⟩
    · refine b_Line_withNext_65 _ _ _ _ _ _ _ _ _ _ ⟨hT.2.1, wmr_p (c_Line_get hT hn (by omega)) (hgo _ (Or.inr (hgt _ (by omega) (by omega))) c ?_)⟩
      rw [if_neg c2, if_neg c3, if_neg (by omega), i2.rf_ h]
    · refine b_Line_withNext_65 _ _ _ _ _ _ _ _ _ _ ⟨hT.2.1, wmr_p (c_Line_get hT hn (by omega)) (hgo _ (Or.inr (hgt _ (by omega) (by omega))) c ?_)⟩
      rw [if_neg c2, if_neg c3, if_pos (by omega), i2.rf_ h]
    · exact hgo _ (Or.inr (sh_pre (i2.cf []).1 hy)) c (by rw [if_neg c2, if_pos c3])
    · exact hgo _ (Or.inr (sh_pre (i2.cf []).1 hx)) c (by rw [if_pos c2])
theorem c_Line_withoutNext {x : Int} (h : LnC b σ a L) (hn : L.2.length ≤ 1000) (h1 : 0 ≤ s ∧ s + 1 < L.2.length) (hx : sh σ x = some (7, 1)) : WMr E m_Line_withoutNext (d + 2) [aP a, aI s, aP x] σ (fun r τ => New2 24 3 2 σ (L.2.length - 1) (fun k => if k = s then x else rf σ a L.2.length (if k < s then k else k + 1)) r τ ∧ τ.1 r 1 = (if L.1 then 1 else 0)) := by
  refine e_Line_withoutNext _ _ _ ⟨h.2.1, ⟨_, h.2.2.1⟩, by rw [ln_of h.2.2.1]; omega, by rw [ln_of h.2.2.1]; omega, ?_⟩
  rw [ln_of h.2.2.1, show (max 0 (((L.2.length : Nat) : Int) - 1)).toNat = L.2.length - 1 by omega]
  refine lpu (L.2.length - 1 : Nat) (fun k τ => WP E m_Line_withoutNext (d + 2) 18 [(0, aP a), (1, aI s), (2, aP x), (3, aP (nx σ)), (4, aI k)] [] τ _) (fun k τ => (0 ≤ k ∧ k ≤ (L.2.length - 1 : Nat)) ∧ Nw 24 σ (L.2.length - 1) (fun k => if k = s then x else rf σ a L.2.length (if k < s then k else k + 1)) k τ) (fun k τ hI ih => ?_) 0 _ ⟨by omega, Nw.start _ _ _ _⟩
  obtain ⟨i1, i2⟩ := hI
  have hT := i2.lnc h
  have hgo : ∀ v : Int, (v = 0 ∨ sh τ v = some (7, 1)) → (¬ ((L.2.length - 1 : Nat) : Int) ≤ k) → v = (if k = s then x else rf σ a L.2.length (if k < s then k else k + 1)) → WP E m_Line_withoutNext (d + 2) 57 [(0, aP a), (1, aI s), (2, aP x), (3, aP (nx σ)), (4, aI k)] [aP v, aI k, aP (nx σ)] τ _ := fun v hv c he => b_Line_withoutNext_57 _ _ _ _ _ _ _ _ ⟨⟨_, i2.sh_, by omega, by omega, by omega⟩, hv, ih (by omega) _ ⟨by omega, i2.step he⟩⟩
  refine b_Line_withoutNext_18 _ _ _ _ _ ⟨⟨_, i2.sh_⟩, by omega, by rw [ln_of i2.sh_]; omega, fun c => ?_, fun c => ?_⟩
  · rw [ln_of i2.sh_] at c
    obtain rfl : k = (L.2.length - 1 : Nat) := by omega
    exact ⟨sh_al hT.2.1, nx_pos _, l_Line_end i2 h (fun υ q1 q2 q3 => ⟨_, rfl, q1.1.1, q1, q2⟩)⟩
  · rw [ln_of i2.sh_] at c
    have hgt : ∀ j : Int, 0 ≤ j → j < L.2.length → sh τ (rf τ a L.2.length j) = some (7, 1) := by
      intro j q1 q2
      have := hT.2.2.2.2 j.toNat _ (List.getElem?_eq_getElem (by omega))
      rw [show ((j.toNat : Nat) : Int) = j by omega] at this
      unfold rf; rw [if_pos (by omega)]; exact this.2.1
    refine ⟨by omega, by omega, fun c2 => ⟨by omega, by omega, fun c4 => ?_, fun c4 => ?_⟩, fun c2 => ?_⟩
    · refine b_Line_withoutNext_54 _ _ _ _ _ _ _ _ _ ⟨hT.2.1, wmr_p (c_Line_get hT hn (by omega)) (hgo _ (Or.inr (hgt _ (by omega) (by omega))) c ?_)⟩
      rw [if_neg c2, if_neg (by omega), i2.rf_ h]
    · refine b_Line_withoutNext_54 _ _ _ _ _ _ _ _ _ ⟨hT.2.1, wmr_p (c_Line_get hT hn (by omega)) (hgo _ (Or.inr (hgt _ (by omega) (by omega))) c ?_)⟩
      rw [if_neg c2, if_pos (by omega), i2.rf_ h]
    · exact hgo _ (Or.inr (sh_pre (i2.cf []).1 hx)) c (by rw [if_pos c2])
/-- where the square that comes to place k of a moved line stands before -/
def mvI (s to k : Int) : Int := if k = to then s else if k < to then (if k < s then k else k + 1) else (if k ≤ s then k - 1 else k)
theorem c_Line_moved {to : Int} (h : LnC b σ a L) (hn : L.2.length ≤ 1000) (h1 : 0 ≤ s ∧ s < L.2.length) (h2 : 0 ≤ to ∧ to < L.2.length) (h3 : s ≠ to) : WMr E m_Line_moved (d + 2) [aP a, aI s, aI to] σ (fun r τ => New2 24 3 2 σ L.2.length (fun k => rf σ a L.2.length (mvI s to k)) r τ ∧ τ.1 r 1 = (if L.1 then 1 else 0)) := by
  refine e_Line_moved _ _ _ ⟨h.2.1, ⟨_, h.2.2.1⟩, by rw [ln_of h.2.2.1]; omega, ?_⟩
  rw [ln_of h.2.2.1, show ((L.2.length : Nat) : Int).toNat = L.2.length by omega]
  refine lpu L.2.length (fun k τ => ∀ m : Int, m = (if k ≤ to then (if k ≤ s then k else k + 1) else (if k - 1 ≤ s then k - 1 else k)) → WP E m_Line_moved (d + 2) 15 [(0, aP a), (1, aI s), (2, aI to), (3, aP (nx σ)), (4, aI m), (5, aI k)] [] τ _) (fun k τ => (0 ≤ k ∧ k ≤ L.2.length) ∧ Nw 24 σ L.2.length (fun k => rf σ a L.2.length (mvI s to k)) k τ) (fun k τ hI ih m hm => ?_) 0 _ ⟨by omega, Nw.start _ _ _ _⟩ 0 (by rw [if_pos (by omega), if_pos (by omega)])
  obtain ⟨i1, i2⟩ := hI
  have hT := i2.lnc h
  refine b_Line_moved_15 _ _ _ _ _ _ ⟨⟨_, i2.sh_⟩, by omega, by rw [ln_of i2.sh_]; omega, fun c => ?_, fun c => ?_⟩
  · rw [ln_of i2.sh_] at c
    obtain rfl : k = L.2.length := by omega
    exact ⟨sh_al hT.2.1, nx_pos _, l_Line_end i2 h (fun υ q1 q2 q3 => ⟨_, rfl, q1.1.1, q1, q2⟩)⟩
  · rw [ln_of i2.sh_] at c
    have hgt : ∀ j : Int, 0 ≤ j → j < L.2.length → sh τ (rf τ a L.2.length j) = some (7, 1) := by
      intro j q1 q2
      have := hT.2.2.2.2 j.toNat _ (List.getElem?_eq_getElem (by omega))
      rw [show ((j.toNat : Nat) : Int) = j by omega] at this
      unfold rf; rw [if_pos (by omega)]; exact this.2.1
    have tail : ∀ m1 : Int, m1 = (if m = s then m + 1 else m) → WP E m_Line_moved (d + 2) 35 [(0, aP a), (1, aI s), (2, aI to), (3, aP (nx σ)), (5, aI k)] [aI (if m = s then 1 else 0), aI m] τ (fun r σ' => ∃ v, r = some (aP v) ∧ σ.2 <+: σ'.2 ∧ New2 24 3 2 σ L.2.length (fun k => rf σ a L.2.length (mvI s to k)) v σ' ∧ σ'.1 v 1 = (if L.1 then 1 else 0)) := by
      intro m1 hm1
      have em : m + (if m = s then 1 else 0) = m1 := by rw [hm1]; split <;> omega
      refine b_Line_moved_35 _ _ _ _ _ _ _ ⟨by omega, by omega, fun c2 => ?_, fun c2 => ?_⟩
      · rw [em]
        have hmv : m1 = mvI s to k := by unfold mvI; rw [hm1, hm, if_neg c2]; split <;> split <;> (try split) <;> omega
        have hin : 0 ≤ m1 ∧ m1 < L.2.length := by rw [hm1, hm]; split <;> split <;> (try split) <;> omega
        refine b_Line_moved_54 _ _ _ _ _ _ _ _ _ _ ⟨hT.2.1, wmr_p (c_Line_get hT hn (by omega)) ⟨⟨_, i2.sh_, by omega, by omega, by omega⟩, Or.inr (hgt _ hin.1 hin.2), by omega, by omega, fun c3 => ?_, fun c3 => absurd c3 c2⟩⟩
        refine b_Line_moved_71 _ _ _ _ _ _ _ (ih (by omega) _ ⟨by omega, i2.step (by rw [i2.rf_ h, hmv])⟩ _ ?_)
        rw [hm1, hm]; split <;> split <;> (try split) <;> (try split) <;> omega
      · rw [em]
        have hin : 0 ≤ m1 ∧ m1 ≤ L.2.length := by rw [hm1, hm]; split <;> split <;> (try split) <;> omega
        refine b_Line_moved_54 _ _ _ _ _ _ _ _ _ _ ⟨hT.2.1, wmr_p (c_Line_get hT hn (by omega)) ⟨⟨_, i2.sh_, by omega, by omega, by omega⟩, Or.inr (hgt _ h1.1 h1.2), by omega, by omega, fun c3 => absurd c2 c3, fun c3 => ?_⟩⟩
        refine b_Line_moved_71 _ _ _ _ _ _ _ (ih (by omega) _ ⟨by omega, i2.step (by rw [i2.rf_ h]; unfold mvI; rw [if_pos c2])⟩ _ ?_)
        rw [hm1, hm]; split <;> split <;> (try split) <;> (try split) <;> omega
    have hmr : rI m := by rw [hm]; split <;> split <;> omega
    refine ⟨hmr, by omega, fun c2 => ?_, fun c2 => ?_⟩
    · have := tail m (by rw [if_neg c2])
      rw [if_neg c2] at this
      exact this
    · have := tail (m + 1) (by rw [if_pos c2])
      rw [if_pos c2] at this
      exact this
end CLine
