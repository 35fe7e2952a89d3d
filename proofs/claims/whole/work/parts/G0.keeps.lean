/-! ACTS KEEP WHAT A STATE IS -/
theorem sgi_dcp {t : Tr} (h : ok t) : ∀ i, i < sg t → dpS t i + dcp (sgi t i) ≤ dcp t := by
  induction t with
  | var l => intro i hi; simp [dpS, sgi, dcp]
  | pow t l ih =>
    intro i hi
    simp only [sg] at hi
    simp only [dpS, sgi, dcp]
    by_cases c : i = 0
    · rw [if_pos c, if_pos c]; simp only [dcp]; omega
    · rw [if_neg c, if_neg c]; have := ih h.1 (i - 1) (by omega); omega
  | mul a b iha ihb =>
    intro i hi
    simp only [sg] at hi
    simp only [dpS, sgi, dcp]
    by_cases c : i < sg a
    · rw [if_pos c, if_pos c]; have := iha h.1 i c; omega
    · rw [if_neg c, if_neg c]; have := ihb h.2.1 (i - sg a) (by omega); omega
  | add a b iha ihb =>
    intro i hi
    simp only [sg] at hi
    simp only [dpS, sgi, dcp]
    by_cases c : i < sg a
    · rw [if_pos c, if_pos c]; have := iha h.1 i c; omega
    · rw [if_neg c, if_neg c]; have := ihb h.2.1 (i - sg a) (by omega); omega
  | _ => exact absurd h (by simp [ok])
theorem sgi_tok {T : Tb} {t : Tr} (h : ok t) (ht : tok T t) : ∀ i, i < sg t → tok T (sgi t i) := by
  induction t with
  | var l => intro i hi; exact ht
  | pow t l ih =>
    intro i hi
    simp only [sg] at hi
    simp only [sgi]
    by_cases c : i = 0
    · rw [if_pos c]; exact ht
    · rw [if_neg c]; exact ih h.1 ht.2 (i - 1) (by omega)
  | mul a b iha ihb =>
    intro i hi
    simp only [sg] at hi
    simp only [sgi]
    by_cases c : i < sg a
    · rw [if_pos c]; exact iha h.1 ht.1 i c
    · rw [if_neg c]; exact ihb h.2.1 ht.2 (i - sg a) (by omega)
  | add a b iha ihb =>
    intro i hi
    simp only [sg] at hi
    simp only [sgi]
    by_cases c : i < sg a
    · rw [if_pos c]; exact iha h.1 ht.1 i c
    · rw [if_neg c]; exact ihb h.2.1 ht.2 (i - sg a) (by omega)
  | _ => exact absurd h (by simp [ok])
theorem rep_all {T : Tb} {t u : Tr} (h : ok t) (ht : tok T t) (hu : isS u = true) (ou : ok u) (tu : tok T u) : ∀ i, i < sg t → ok (rep t i u) ∧ tok T (rep t i u) ∧ sg (rep t i u) + sg (sgi t i) = sg t + sg u ∧ dcp (rep t i u) ≤ max (dcp t) (dpS t i + dcp u) := by
  induction t with
  | var l => intro i hi; exact ⟨ou, tu, by simp only [rep, sgi, sg]; omega, by simp only [rep, dcp, dpS]; omega⟩
  | pow t l ih =>
    intro i hi
    simp only [sg] at hi
    simp only [rep, sgi, dpS, dcp]
    by_cases c : i = 0
    · rw [if_pos c, if_pos c, if_pos c]; exact ⟨ou, tu, by simp only [sg]; omega, by omega⟩
    · rw [if_neg c, if_neg c, if_neg c]
      obtain ⟨a1, a2, a3, a4⟩ := ih h.1 ht.2 (i - 1) (by omega)
      exact ⟨⟨a1, h.2⟩, ⟨ht.1, a2⟩, by simp only [sg]; omega, by simp only [dcp]; omega⟩
  | mul a b iha ihb =>
    intro i hi
    simp only [sg] at hi
    simp only [rep, sgi, dpS, dcp]
    by_cases c : i < sg a
    · rw [if_pos c, if_pos c, if_pos c]
      obtain ⟨a1, a2, a3, a4⟩ := iha h.1 ht.1 i c
      exact ⟨⟨a1, h.2.1, by rw [(rep_M h.1 hu i c).1]; exact h.2.2⟩, ⟨a2, ht.2⟩, by simp only [sg]; omega, by simp only [dcp]; omega⟩
    · rw [if_neg c, if_neg c, if_neg c]
      obtain ⟨a1, a2, a3, a4⟩ := ihb h.2.1 ht.2 (i - sg a) (by omega)
      exact ⟨⟨h.1, a1, h.2.2⟩, ⟨ht.1, a2⟩, by simp only [sg]; omega, by simp only [dcp]; omega⟩
  | add a b iha ihb =>
    intro i hi
    simp only [sg] at hi
    simp only [rep, sgi, dpS, dcp]
    by_cases c : i < sg a
    · rw [if_pos c, if_pos c, if_pos c]
      obtain ⟨a1, a2, a3, a4⟩ := iha h.1 ht.1 i c
      exact ⟨⟨a1, h.2.1, by rw [(rep_M h.1 hu i c).2.1]; exact h.2.2⟩, ⟨a2, ht.2⟩, by simp only [sg]; omega, by simp only [dcp]; omega⟩
    · rw [if_neg c, if_neg c, if_neg c]
      obtain ⟨a1, a2, a3, a4⟩ := ihb h.2.1 ht.2 (i - sg a) (by omega)
      exact ⟨⟨h.1, a1, h.2.2⟩, ⟨ht.1, a2⟩, by simp only [sg]; omega, by simp only [dcp]; omega⟩
  | _ => exact absurd h (by simp [ok])
theorem okS_rep {T : Tb} {t u : Tr} {i : Nat} (h : okS T t) (hi : i < sg t) (hu : isS u = true) (ou : ok u) (tu : tok T u) (hs : sg t + sg u ≤ 10 + sg (sgi t i)) (hd : dpS t i + dcp u ≤ 3) : okS T (rep t i u) := by
  obtain ⟨a1, a2, a3, a4⟩ := rep_all h.1 h.2.2.2 hu ou tu i hi
  have := h.2.2.1
  exact ⟨a1, by omega, by omega, a2⟩
theorem okS_exch {T : Tb} {t : Tr} {i c : Nat} (h : okS T t) (hi : i < sg t) (hc : c < 26) (h1 : 0 < (T c).1) (h2 : holdsT (sgi t i) = true → 0 < (T c).2.2.1) : okS T (rep t i (relab c (sgi t i))) := by
  obtain ⟨s1, s2, s3⟩ := sgi_isS h.1 i hi
  have hd := sgi_dcp h.1 i hi
  have ht := sgi_tok h.1 h.2.2.2 i hi
  have h10 := h.2.1
  have h3 := h.2.2.1
  generalize hu : sgi t i = u at *
  cases u with
  | var l => exact okS_rep h hi rfl hc h1 (by rw [hu]; simp only [relab, sg]; omega) (by simp only [relab, dcp] at hd ⊢; omega)
  | pow w l => exact okS_rep h hi rfl ⟨s2.1, hc⟩ ⟨⟨h1, h2 rfl⟩, ht.2⟩ (by rw [hu]; simp only [relab, sg]; omega) (by simp only [relab, dcp] at hd ⊢; omega)
  | _ => simp [isS] at s1
theorem okS_tn {T : Tb} {t : Tr} (h : okS T t) : okS T (tn t) := by
  have d1 : ∀ t : Tr, dcp (tn t) = dcp t := by
    intro t
    induction t with
    | mul a b iha ihb => simp only [tn, dcp, iha, ihb]
    | add a b iha ihb => simp only [tn, dcp, iha, ihb]
    | _ => rfl
  have t1 : ∀ t : Tr, tok T t → tok T (tn t) := by
    intro t
    induction t with
    | mul a b iha ihb => intro q; exact ⟨iha q.1, ihb q.2⟩
    | add a b iha ihb => intro q; exact ⟨iha q.1, ihb q.2⟩
    | _ => intro q; exact q
  exact ⟨tn_ok h.1, by rw [tn_sg]; exact h.2.1, by rw [d1]; exact h.2.2.1, t1 t h.2.2.2⟩
theorem okS_parts {T : Tb} {t : Tr} (h : okS T t) (hj : isJ t = true) : okS T (fstT t) ∧ okS T (rstT t) := by
  have h10 := h.2.1
  have h3 := h.2.2.1
  cases t with
  | mul a b => simp only [sg, dcp] at h10 h3; exact ⟨⟨h.1.1, by simp only [fstT]; omega, by simp only [fstT]; omega, h.2.2.2.1⟩, h.1.2.1, by simp only [rstT]; omega, by simp only [rstT]; omega, h.2.2.2.2⟩
  | add a b => simp only [sg, dcp] at h10 h3; exact ⟨⟨h.1.1, by simp only [fstT]; omega, by simp only [fstT]; omega, h.2.2.2.1⟩, h.1.2.1, by simp only [rstT]; omega, by simp only [rstT]; omega, h.2.2.2.2⟩
  | _ => simp [isJ, isM, isA] at hj
theorem un_all {T : Tb} {n : Nat} : ∀ (ps : List Tr), (∀ u ∈ ps, dcp u ≤ n ∧ tok T u) → ps ≠ [] → (sg (unM ps) = (ps.map sg).sum ∧ dcp (unM ps) ≤ n ∧ tok T (unM ps)) ∧ sg (unA ps) = (ps.map sg).sum ∧ dcp (unA ps) ≤ n ∧ tok T (unA ps)
  | [], _, h => absurd rfl h
  | [x], h, _ => by have := h x (by simp); simp [unM, unA, this]
  | x :: y :: r, h, _ => by
    have h1 := h x (by simp)
    obtain ⟨⟨a1, a2, a3⟩, b1, b2, b3⟩ := un_all (y :: r) (fun u hu => h u (List.mem_cons_of_mem _ hu)) (by simp)
    simp only [List.map_cons, List.sum_cons] at a1 b1 ⊢
    refine ⟨⟨by simp only [unM, sg]; omega, by simp only [unM, dcp]; omega, h1.2, a3⟩, by simp only [unA, sg]; omega, by simp only [unA, dcp]; omega, h1.2, b3⟩
theorem p_all {T : Tb} (t : Tr) : ((∀ u ∈ pM t, dcp u ≤ dcp t ∧ (tok T t → tok T u)) ∧ ((pM t).map sg).sum = sg t) ∧ (∀ u ∈ pA t, dcp u ≤ dcp t ∧ (tok T t → tok T u)) ∧ ((pA t).map sg).sum = sg t := by
  induction t with
  | mul a b iha ihb =>
    refine ⟨⟨fun u hu => ?_, by simp [pM, sg, ihb.1.2]⟩, fun u hu => by simp [pA] at hu; subst hu; exact ⟨Nat.le_refl _, id⟩, by simp [pA]⟩
    simp only [pM, List.mem_cons] at hu
    simp only [dcp]
    rcases hu with rfl | hu
    · exact ⟨by omega, fun q => q.1⟩
    · have := ihb.1.1 u hu; exact ⟨by omega, fun q => this.2 q.2⟩
  | add a b iha ihb =>
    refine ⟨⟨fun u hu => by simp [pM] at hu; subst hu; exact ⟨Nat.le_refl _, id⟩, by simp [pM]⟩, fun u hu => ?_, by simp [pA, sg, ihb.2.2]⟩
    simp only [pA, List.mem_cons] at hu
    simp only [dcp]
    rcases hu with rfl | hu
    · exact ⟨by omega, fun q => q.1⟩
    · have := ihb.2.1 u hu; exact ⟨by omega, fun q => this.2 q.2⟩
  | _ => exact ⟨⟨fun u hu => by simp [pM] at hu; subst hu; exact ⟨Nat.le_refl _, id⟩, by simp [pM]⟩, fun u hu => by simp [pA] at hu; subst hu; exact ⟨Nat.le_refl _, id⟩, by simp [pA]⟩
theorem swL_mem {ps : List Tr} {a b : Int} (ha : 0 ≤ a ∧ a < ps.length) (hb : 0 ≤ b ∧ b < ps.length) : ∀ u ∈ swL ps a b, u ∈ ps := by
  intro u hu
  unfold swL at hu
  have g : ∀ i : Nat, i < ps.length → ps.getD i (.var 0) ∈ ps := fun i hi => by rw [List.getD_eq_getElem?_getD, List.getElem?_eq_getElem hi]; exact List.getElem_mem _
  rcases List.mem_or_eq_of_mem_set hu with q | q
  · rcases List.mem_or_eq_of_mem_set q with q2 | q2
    · exact q2
    · rw [q2]; exact g _ (by omega)
  · rw [q]; exact g _ (by omega)
theorem okS_swap {T : Tb} {t : Tr} {a b : Int} (h : okS T t) (hj : isJ t = true) (hab : a ≠ b) (ha : 0 ≤ a ∧ a < (ch t).length) (hb : 0 ≤ b ∧ b < (ch t).length) : okS T (reb t (swL (ch t) a b)) := by
  have hl : (swL (ch t) a b).length = (ch t).length := by unfold swL; simp
  have hm := swL_mem ha hb
  have ho := (reb_p h.1 hj hm hl).2
  have hs := swL_sum sg hab ha hb
  have hp := p_all (T := T) t
  have h10 := h.2.1
  have h3 := h.2.2.1
  have hne : swL (ch t) a b ≠ [] := by intro q; rw [q] at hl; simp at hl; omega
  cases t with
  | mul x y =>
    have this := (un_all (T := T) (n := 3) (swL (ch (.mul x y)) a b) (fun u hu => by have := hp.1.1 u (hm u hu); exact ⟨by omega, this.2 h.2.2.2⟩) hne).1
    have er : reb (.mul x y) (swL (ch (.mul x y)) a b) = unM (swL (ch (.mul x y)) a b) := rfl
    rw [er] at ho ⊢
    refine ⟨ho, ?_, this.2.1, this.2.2⟩
    rw [this.1, hs]
    show ((pM (.mul x y)).map sg).sum ≤ 10
    rw [hp.1.2]
    exact h10
  | add x y =>
    have this := (un_all (T := T) (n := 3) (swL (ch (.add x y)) a b) (fun u hu => by have := hp.2.1 u (hm u hu); exact ⟨by omega, this.2 h.2.2.2⟩) hne).2
    have er : reb (.add x y) (swL (ch (.add x y)) a b) = unA (swL (ch (.add x y)) a b) := rfl
    rw [er] at ho ⊢
    refine ⟨ho, ?_, this.2.1, this.2.2⟩
    rw [this.1, hs]
    show ((pA (.add x y)).map sg).sum ≤ 10
    rw [hp.2.2]
    exact h10
  | _ => simp [isJ, isM, isA] at hj
theorem bstO_okS {T : Tb} {M : Mo} {t u : Tr} (h : okS T t) (h6 : so t ≤ 6) (hu : bstO T M t = some u) : okS T u := by
  have h1 := so_pos h.1
  have ho := oS_ok (T := T) h.1
  have hS : ∀ u ∈ oS t, isS u = true ∧ ok u := fun u hu => ⟨(ho u hu).1, (ho u hu).2.1⟩
  have hall : ∀ s ∈ cnd (so t), okP s = true ∧ lv s = List.range (oS t).length := by
    intro s hs
    have := gS_ok 6 0 (so t) h1 h6 (by omega) s (cnd_gS h1 h6 hs)
    rw [oS_len, List.range_eq_range']
    exact this
  unfold bstO at hu
  cases hc : cnd (so t) with
  | nil => rw [hc] at hu; simp [bstF] at hu
  | cons c L =>
    rw [hc] at hall hu
    obtain ⟨m', k1, k2, k3⟩ := bstF_min (T := T) (M := M) hS L c hall
    have e : bstF T M none ((c :: L).map (sbs (oS t))) = bstF T M (some (sbs (oS t) c)) (L.map (sbs (oS t))) := rfl
    rw [e, k2] at hu
    cases hu
    have := hall m' k1
    exact (sbs_okS h this.1 (by rw [this.2, oS_len])).1
section GKeep
variable {T : Tb} {M : Mo} {l s : Int} {L : Ln}
theorem okMo_setLn {L' : Ln} (h : okMo T M) (hL : okLn T L') : okMo T (setLn M l L') := by
  refine ⟨h.1, h.2.1, by simp only [setLn, List.length_set]; exact h.2.2.1, fun K hK => ?_⟩
  rcases List.mem_or_eq_of_mem_set hK with q | q
  · exact h.2.2.2 K q
  · rw [q]; exact hL
theorem okLn_set {t' : Tr} (h : okLn T L) (ht : okS T t') : okLn T (L.1, L.2.set s.toNat t') := by
  refine ⟨by simp only [List.length_set]; exact h.1, fun u hu => ?_⟩
  rcases List.mem_or_eq_of_mem_set hu with q | q
  · exact h.2 u q
  · rw [q]; exact ht
theorem okMo_setSq {t' : Tr} (h : okMo T M) (hl : lnAt M l = some L) (ht : okS T t') : okMo T (setSq M l s L t') := okMo_setLn h (okLn_set (h.ln hl).1 ht)
theorem okMo_two {a b t : Tr} (h : okMo T M) (hl : lnAt M l = some L) (hs : sqIn L s = some t) (h8 : L.2.length ≠ 8) (ha : okS T a) (hb : okS T b) : okMo T (twoSq M l s L a b) := by
  have hL := (h.ln hl).1
  have h1 := sqIn_some hs
  have h2 := hL.1
  refine okMo_setLn h ⟨by simp only [List.length_append, List.length_take, List.length_cons, List.length_drop]; omega, fun u hu => ?_⟩
  simp only [List.mem_append, List.mem_cons] at hu
  rcases hu with q | q | q | q
  · exact hL.2 u (List.mem_of_mem_take q)
  · rw [q]; exact ha
  · rw [q]; exact hb
  · exact hL.2 u (List.mem_of_mem_drop q)
theorem okMo_one {a t u : Tr} (h : okMo T M) (hl : lnAt M l = some L) (hs : sqIn L s = some t) (hs2 : sqIn L (s + 1) = some u) (ha : okS T a) : okMo T (oneSq M l s L a) := by
  have hL := (h.ln hl).1
  have h1 := sqIn_some hs
  have h2 := hL.1
  have h3 := sqIn_some hs2
  refine okMo_setLn h ⟨by simp only [List.length_append, List.length_take, List.length_cons, List.length_drop]; omega, fun u hu => ?_⟩
  simp only [List.mem_append, List.mem_cons] at hu
  rcases hu with q | q | q
  · exact hL.2 u (List.mem_of_mem_take q)
  · rw [q]; exact ha
  · exact hL.2 u (List.mem_of_mem_drop q)
theorem k_exchange {i c : Int} {M' : Mo} (hk : okMo T M) (h : sp_exchange T M l s i c = some M') : okMo T M' := by
  unfold sp_exchange at h
  split at h
  · cases h
  · rename_i L hl
    split at h
    · cases h
    · rename_i t hs
      split at h
      · rename_i q
        cases h
        have ht := ((hk.ln hl).1.sq hs).1
        exact okMo_setSq hk hl (okS_exch ht (by omega) (by omega) q.2.2.1 q.2.2.2.2)
      · cases h
theorem k_turn {M' : Mo} (hk : okMo T M) (h : sp_turn M l s = some M') : okMo T M' := by
  unfold sp_turn at h
  split at h
  · cases h
  · rename_i L hl
    split at h
    · cases h
    · rename_i t hs
      split at h
      · cases h
        exact okMo_setSq hk hl (okS_tn ((hk.ln hl).1.sq hs).1)
      · cases h
theorem k_part {M' : Mo} (hk : okMo T M) (h : sp_part M l s = some M') : okMo T M' := by
  unfold sp_part at h
  split at h
  · cases h
  · rename_i L hl
    split at h
    · cases h
    · rename_i t hs
      split at h
      · rename_i q
        cases h
        have := okS_parts ((hk.ln hl).1.sq hs).1 q.1
        exact okMo_two hk hl hs q.2 this.1 this.2
      · cases h
theorem k_release {i : Int} {M' : Mo} (hk : okMo T M) (h : sp_release M l s i = some M') : okMo T M' := by
  unfold sp_release at h
  split at h
  · cases h
  · rename_i L hl
    split at h
    · cases h
    · rename_i t hs
      split at h
      · rename_i q
        cases h
        have ht := ((hk.ln hl).1.sq hs).1
        have hi : i.toNat < sg t := by omega
        obtain ⟨s1, s2, s3⟩ := sgi_isS ht.1 i.toNat hi
        have hd := sgi_dcp ht.1 i.toNat hi
        have htk := sgi_tok ht.1 ht.2.2.2 i.toNat hi
        have h10 := ht.2.1
        have h3 := ht.2.2.1
        have hh := q.2.1
        have hsp := sg_pos s2
        generalize hu : sgi t i.toNat = u at *
        cases u with
        | pow w k =>
          refine okMo_two hk hl hs q.2.2 (okS_rep ht hi rfl s2.2 htk.1.1 (by rw [hu]; simp only [sg]; omega) (by simp only [dcp] at hd ⊢; omega)) ⟨s2.1, ?_, ?_, htk.2⟩
          · simp only [sg, inn] at s3 ⊢; omega
          · simp only [dcp, inn] at hd ⊢; omega
        | _ => simp [holdsT] at hh
      · cases h
theorem k_mirror {M' : Mo} (hk : okMo T M) (h : sp_mirror M l = some M') : okMo T M' := by
  unfold sp_mirror at h
  split at h
  · cases h
  · rename_i L hl
    cases h
    exact okMo_setLn hk (hk.ln hl).1
theorem k_move {to : Int} {M' : Mo} (hk : okMo T M) (h : sp_move M l s to = some M') : okMo T M' := by
  unfold sp_move at h
  split at h
  · cases h
  · rename_i L hl
    split at h
    · cases h
    · rename_i t hs
      split at h
      · rename_i q
        cases h
        have hL := (hk.ln hl).1
        have h1 := sqIn_some hs
        refine okMo_setLn hk ⟨?_, fun u hu => ?_⟩
        · show 1 ≤ (mvL L.2 s.toNat to.toNat t).length ∧ (mvL L.2 s.toNat to.toNat t).length ≤ 8
          rw [mvL_len (by omega) (by omega)]
          exact hL.1
        · have hu' : u ∈ mvL L.2 s.toNat to.toNat t := hu
          unfold mvL at hu'
          rcases (List.mem_insertIdx (by rw [List.length_eraseIdx_of_lt (by omega)]; omega)).mp hu' with e | e
          · rw [e]; exact hL.2 t (List.mem_of_getElem? h1.2.1)
          · exact hL.2 u (List.mem_of_mem_eraseIdx e)
      · cases h
theorem k_join {M' : Mo} (hk : okMo T M) (h : sp_join M l s = some M') : okMo T M' := by
  unfold sp_join at h
  split at h
  · cases h
  · rename_i L hl
    split at h
    · rename_i t u hs hs2
      split at h
      · rename_i q
        cases h
        have ht := ((hk.ln hl).1.sq hs).1
        have hu := ((hk.ln hl).1.sq hs2).1
        exact okMo_one hk hl hs hs2 ⟨jn_ok ht.1 hu.1, by rw [jn_sg]; exact q, by rw [jn_dcp]; have := ht.2.2.1; have := hu.2.2.1; omega, jn_tok ht.2.2.2 hu.2.2.2⟩
      · cases h
    · cases h
theorem k_insert {i : Int} {M' : Mo} (hk : okMo T M) (h : sp_insert T M l s i = some M') : okMo T M' := by
  unfold sp_insert at h
  split at h
  · cases h
  · rename_i L hl
    split at h
    · rename_i t u hs hs2
      split at h
      · rename_i q
        cases h
        have ht := ((hk.ln hl).1.sq hs).1
        have hu := ((hk.ln hl).1.sq hs2).1
        have hi : i.toNat < sg t := by omega
        obtain ⟨s1, s2, s3⟩ := sgi_isS ht.1 i.toNat hi
        have htk := sgi_tok ht.1 ht.2.2.2 i.toNat hi
        have hh := q.2.1
        have hc := q.2.2.1
        have hd := q.2.2.2.2
        have h10 := q.2.2.2.1
        generalize hv : sgi t i.toNat = v at *
        cases v with
        | var k => exact okMo_one hk hl hs hs2 (okS_rep ht hi rfl ⟨hu.1, s2⟩ ⟨⟨htk, hc⟩, hu.2.2.2⟩ (by rw [hv]; simp only [sg]; omega) (by simp only [dcp]; omega))
        | pow w k => simp [holdsT] at hh
        | _ => simp [isS] at s1
      · cases h
    · cases h
theorem k_swap {a b : Int} {M' : Mo} (hk : okMo T M) (h : sp_swap M l s a b = some M') : okMo T M' := by
  unfold sp_swap at h
  split at h
  · cases h
  · rename_i L hl
    split at h
    · cases h
    · rename_i t hs
      split at h
      · rename_i q
        cases h
        exact okMo_setSq hk hl (okS_swap ((hk.ln hl).1.sq hs).1 q.2.1 q.1 q.2.2.1 q.2.2.2)
      · cases h
theorem k_arrange {M' : Mo} (hk : okMo T M) (h : sp_arrange T M l s = some M') : okMo T M' := by
  unfold sp_arrange at h
  split at h
  · cases h
  · rename_i L hl
    split at h
    · cases h
    · rename_i t hs
      split at h
      · rename_i q
        split at h
        · cases h
        · rename_i u hu
          split at h
          · cases h
          · cases h
            exact okMo_setSq hk hl (bstO_okS ((hk.ln hl).1.sq hs).1 q hu)
      · cases h
end GKeep
