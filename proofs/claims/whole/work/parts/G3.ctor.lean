/-! BOTH CONSTRUCTORS WALKED: shapes are those of FS, memory is a list of writes -/
def lk : List (Int × Int × Int) → Int → Int → Int
  | [], _, _ => 0
  | w :: W, a, k => if a = w.1 ∧ k = w.2.1 then w.2.2 else lk W a k
theorem lk_0 {W : List (Int × Int × Int)} {a : Int} (h : W.all (fun w => w.1 != a) = true) (k : Int) : lk W a k = 0 := by
  induction W with
  | nil => rfl
  | cons w W ih =>
    simp only [List.all_cons, Bool.and_eq_true, bne_iff_ne] at h
    rw [lk, if_neg (fun q => h.1 q.1.symm)]
    exact ih h.2
def Is (σ : St) (n : Nat) (W : List (Int × Int × Int)) : Prop := σ.2 = FS.take n ∧ (∀ a k, σ.1 a k = lk W a k) ∧ (∀ w ∈ W, w.1 ≤ n) ∧ n ≤ 92
theorem FS_l : FS.length = 92 := by decide
section GCtor
variable {E : EV} {d n n' k N : Nat} {σ : St} {W : List (Int × Int × Int)} {a j v : Int}
theorem Is.len (h : Is σ n W) : σ.2.length = n := by
  rw [h.1, List.length_take, FS_l]; have := h.2.2.2; omega
theorem Is.n_ (h : Is σ n W) (hv : v = (n : Int) + 1) : nx σ = v := by unfold nx; rw [h.len, hv]
theorem Is.a_ (h : Is σ n W) (hs : FS[n]? = some (k, N)) (hn : n' = n + 1) : Is (al σ k N) n' W := by
  subst hn
  have hl := (List.getElem?_eq_some_iff.mp hs).1
  rw [FS_l] at hl
  refine ⟨?_, fun b i => ?_, fun w hw => by have := h.2.2.1 w hw; omega, by omega⟩
  · show σ.2 ++ [(k, N)] = _
    rw [h.1, List.take_succ, hs]; rfl
  · show (if b = nx σ then 0 else σ.1 b i) = _
    by_cases q : b = nx σ
    · rw [if_pos q, q, h.n_ rfl]
      symm
      apply lk_0
      rw [List.all_eq_true]
      intro w hw
      have := h.2.2.1 w hw
      rw [bne_iff_ne]
      omega
    · rw [if_neg q]; exact h.2.1 b i
theorem Is.w_ (h : Is σ n W) (ha : a ≤ n) : Is (wr σ a j v) n ((a, j, v) :: W) := by
  refine ⟨h.1, fun b i => ?_, fun w hw => ?_, h.2.2.2⟩
  · show (if b = a ∧ i = j then v else σ.1 b i) = _
    rw [lk, h.2.1]
  · rcases List.mem_cons.mp hw with rfl | hw
    · exact ha
    · exact h.2.2.1 w hw
theorem Is.alw (h : Is σ n W) (hs : FS[n]? = some (k, N)) (hn : n' = n + 1) (hv : v = (n' : Int)) (ha : a ≤ n') : Is (wr (al σ k N) a j (nx σ)) n' ((a, j, v) :: W) := by
  have e : nx σ = v := h.n_ (by rw [hv, hn]; omega)
  rw [e]
  exact (h.a_ hs hn).w_ ha
theorem Is.s_ {q : Nat × Nat} (h : Is σ n W) (h0 : 0 < a) (hq : (FS.take n)[(a - 1).toNat]? = some q) : sh σ a = some q := by
  unfold sh
  rw [if_pos h0, h.1]
  exact hq
theorem Is.pre {τ : St} {W' : List (Int × Int × Int)} (h : Is σ n W) (h' : Is τ n' W') (hn : n ≤ n') : σ.2 <+: τ.2 := by
  rw [h.1, h'.1]
  exact List.take_prefix_take_left hn
theorem w_Draft_init (h : Is σ n W) (h0 : 0 < a) (ha : a ≤ n) (hq : (FS.take n)[(a - 1).toNat]? = some (1, 2)) (hs : FS[n]? = some (21, 24)) (hn : n' = n + 1) (hv : v = (n' : Int)) : WMv E m_Draft_init (d + 1) [aP a] σ (fun τ => Is τ n' ((a, 1, 0) :: (a, 0, v) :: W)) := by
  have h1 := h.alw (a := a) (j := 0) hs hn hv (by omega)
  have h2 := h1.w_ (a := a) (j := 1) (v := 0) (by omega)
  exact e_Draft_init _ ⟨h0, sh_al (h.s_ h0 hq), sh_al (h.s_ h0 hq), rfl, h.pre h2 (by omega), h2⟩
theorem w_Table_init (h : Is σ n W) (h0 : 0 < a) (ha : a ≤ n) (hq : (FS.take n)[(a - 1).toNat]? = some (8, 4)) (hs : FS[n]? = some (21, 26) ∧ FS[n + 1]? = some (21, 26) ∧ FS[n + 2]? = some (21, 26) ∧ FS[n + 3]? = some (21, 26)) : WMv E m_Table_init (d + 1) [aP a] σ (fun τ => Is τ (n + 4) ((a, 3, (n : Int) + 4) :: (a, 2, (n : Int) + 3) :: (a, 1, (n : Int) + 2) :: (a, 0, (n : Int) + 1) :: W)) := by
  refine WMv.mono (c_Table_init (h.s_ h0 hq)) (fun τ _ e => ?_)
  subst e
  have h1 := h.alw (a := a) (j := 0) (n' := n + 1) (v := (n : Int) + 1) hs.1 rfl (by omega) (by omega)
  have h2 := h1.alw (a := a) (j := 1) (n' := n + 2) (v := (n : Int) + 2) hs.2.1 rfl (by omega) (by omega)
  have h3 := h2.alw (a := a) (j := 2) (n' := n + 3) (v := (n : Int) + 3) hs.2.2.1 rfl (by omega) (by omega)
  exact h3.alw (a := a) (j := 3) (n' := n + 4) (v := (n : Int) + 4) hs.2.2.2 rfl (by omega) (by omega)
set_option maxRecDepth 8000 in
theorem w_Reader_init (h0 : Is σ 12 W) : WMv E m_Reader_init (d + 2) [aP 12] σ (fun τ => Is τ 22 ((12, 11, 0) :: (12, 10, 1) :: (12, 9, 12) :: (12, 8, 0) :: (12, 7, 18) :: (18, 3, 22) :: (18, 2, 21) :: (18, 1, 20) :: (18, 0, 19) :: (12, 6, 0) :: (12, 5, 0) :: (12, 4, 17) :: (12, 3, 16) :: (12, 2, 14) :: (14, 1, 0) :: (14, 0, 15) :: (12, 1, 0) :: (12, 0, 13) :: W)) := by
  have hI := h0
  refine ne_Reader_init ⟨sh_al (hI.s_ (by decide) (by decide)), ?_⟩
  replace hI := hI.alw (k := 21) (N := 400) (a := 12) (j := 0) (n' := 13) (v := 13) (by decide) rfl rfl (by decide)
  generalize wr (al σ 21 400) 12 0 (nx σ) = σ at hI ⊢
  refine n_Reader_init_13 ⟨hI.s_ (by decide) (by decide), ?_⟩
  replace hI := hI.w_ (a := 12) (j := 1) (v := 0) (by decide)
  generalize wr σ 12 1 0 = σ at hI ⊢
  refine n_Reader_init_18 ⟨nx_pos _, ?_⟩
  have h1 := hI.a_ (k := 1) (N := 2) (n' := 14) (by decide) rfl
  rw [hI.n_ (v := 14) rfl]
  refine WMv.mono (w_Draft_init (a := 14) (n' := 15) (v := 15) h1 (by decide) (by decide) (by decide) (by decide) rfl rfl) (fun τ _ hI => ?_)
  refine ⟨hI.s_ (by decide) (by decide), ?_⟩
  replace hI := hI.w_ (a := 12) (j := 2) (v := 14) (by decide)
  generalize wr τ 12 2 14 = σ at hI ⊢
  refine n_Reader_init_29 ⟨sh_al (hI.s_ (by decide) (by decide)), ?_⟩
  replace hI := hI.alw (k := 24) (N := 8) (a := 12) (j := 3) (n' := 16) (v := 16) (by decide) rfl rfl (by decide)
  generalize wr (al σ 24 8) 12 3 (nx σ) = σ at hI ⊢
  refine n_Reader_init_38 ⟨sh_al (hI.s_ (by decide) (by decide)), ?_⟩
  replace hI := hI.alw (k := 25) (N := 4) (a := 12) (j := 4) (n' := 17) (v := 17) (by decide) rfl rfl (by decide)
  generalize wr (al σ 25 4) 12 4 (nx σ) = σ at hI ⊢
  refine n_Reader_init_46 ⟨hI.s_ (by decide) (by decide), ?_⟩
  replace hI := hI.w_ (a := 12) (j := 5) (v := 0) (by decide)
  generalize wr σ 12 5 0 = σ at hI ⊢
  refine n_Reader_init_51 ⟨hI.s_ (by decide) (by decide), ?_⟩
  replace hI := hI.w_ (a := 12) (j := 6) (v := 0) (by decide)
  generalize wr σ 12 6 0 = σ at hI ⊢
  refine n_Reader_init_56 ⟨nx_pos _, ?_⟩
  have h1 := hI.a_ (k := 8) (N := 4) (n' := 18) (by decide) rfl
  rw [hI.n_ (v := 18) rfl]
  refine WMv.mono (w_Table_init (a := 18) h1 (by decide) (by decide) (by decide) (by decide)) (fun τ _ hI => ?_)
  replace hI : Is τ 22 ((18, 3, 22) :: (18, 2, 21) :: (18, 1, 20) :: (18, 0, 19) :: _) := hI
  refine ⟨hI.s_ (by decide) (by decide), ?_⟩
  replace hI := hI.w_ (a := 12) (j := 7) (v := 18) (by decide)
  generalize wr τ 12 7 18 = σ at hI ⊢
  refine n_Reader_init_67 ⟨hI.s_ (by decide) (by decide), ?_⟩
  replace hI := hI.w_ (a := 12) (j := 8) (v := 0) (by decide)
  generalize wr σ 12 8 0 = σ at hI ⊢
  refine n_Reader_init_72 ⟨hI.s_ (by decide) (by decide), ?_⟩
  replace hI := hI.w_ (a := 12) (j := 9) (v := 12) (by decide)
  generalize wr σ 12 9 12 = σ at hI ⊢
  refine n_Reader_init_78 ⟨hI.s_ (by decide) (by decide), ?_⟩
  replace hI := hI.w_ (a := 12) (j := 10) (v := 1) (by decide)
  generalize wr σ 12 10 1 = σ at hI ⊢
  refine n_Reader_init_83 ⟨hI.s_ (by decide) (by decide), ?_⟩
  replace hI := hI.w_ (a := 12) (j := 11) (v := 0) (by decide)
  generalize wr σ 12 11 0 = σ at hI ⊢
  exact n_Reader_init_88 ⟨rfl, h0.pre hI (by decide), hI⟩
set_option maxRecDepth 8000 in
theorem w_Layout_init (h0 : Is σ 23 W) : WMv E m_Layout_init (d + 2) [aP 23] σ (fun τ => Is τ 30 ((23, 7, 0) :: (23, 6, 30) :: (23, 5, 29) :: (23, 4, 28) :: (23, 3, 27) :: (23, 2, 26) :: (23, 1, 25) :: (23, 0, 24) :: W)) := by
  have hI := h0
  refine ne_Layout_init ⟨sh_al (hI.s_ (by decide) (by decide)), ?_⟩
  replace hI := hI.alw (k := 20) (N := 24) (a := 23) (j := 0) (n' := 24) (v := 24) (by decide) rfl rfl (by decide)
  generalize wr (al σ 20 24) 23 0 (nx σ) = σ at hI ⊢
  refine n_Layout_init_12 ⟨sh_al (hI.s_ (by decide) (by decide)), ?_⟩
  replace hI := hI.alw (k := 20) (N := 24) (a := 23) (j := 1) (n' := 25) (v := 25) (by decide) rfl rfl (by decide)
  generalize wr (al σ 20 24) 23 1 (nx σ) = σ at hI ⊢
  refine n_Layout_init_20 ⟨sh_al (hI.s_ (by decide) (by decide)), ?_⟩
  replace hI := hI.alw (k := 20) (N := 24) (a := 23) (j := 2) (n' := 26) (v := 26) (by decide) rfl rfl (by decide)
  generalize wr (al σ 20 24) 23 2 (nx σ) = σ at hI ⊢
  refine n_Layout_init_28 ⟨sh_al (hI.s_ (by decide) (by decide)), ?_⟩
  replace hI := hI.alw (k := 22) (N := 24) (a := 23) (j := 3) (n' := 27) (v := 27) (by decide) rfl rfl (by decide)
  generalize wr (al σ 22 24) 23 3 (nx σ) = σ at hI ⊢
  refine n_Layout_init_36 ⟨sh_al (hI.s_ (by decide) (by decide)), ?_⟩
  replace hI := hI.alw (k := 22) (N := 24) (a := 23) (j := 4) (n' := 28) (v := 28) (by decide) rfl rfl (by decide)
  generalize wr (al σ 22 24) 23 4 (nx σ) = σ at hI ⊢
  refine n_Layout_init_44 ⟨sh_al (hI.s_ (by decide) (by decide)), ?_⟩
  replace hI := hI.alw (k := 22) (N := 24) (a := 23) (j := 5) (n' := 29) (v := 29) (by decide) rfl rfl (by decide)
  generalize wr (al σ 22 24) 23 5 (nx σ) = σ at hI ⊢
  refine n_Layout_init_52 ⟨sh_al (hI.s_ (by decide) (by decide)), ?_⟩
  replace hI := hI.alw (k := 22) (N := 24) (a := 23) (j := 6) (n' := 30) (v := 30) (by decide) rfl rfl (by decide)
  generalize wr (al σ 22 24) 23 6 (nx σ) = σ at hI ⊢
  refine n_Layout_init_60 ⟨hI.s_ (by decide) (by decide), ?_⟩
  replace hI := hI.w_ (a := 23) (j := 7) (v := 0) (by decide)
  generalize wr σ 23 7 0 = σ at hI ⊢
  exact n_Layout_init_65 ⟨rfl, h0.pre hI (by decide), hI⟩
set_option maxRecDepth 8000 in
theorem w_Arranger_init (h0 : Is σ 32 W) : WMv E m_Arranger_init (d + 2) [aP 32] σ (fun τ => Is τ 41 ((32, 13, 0) :: (32, 12, 0) :: (32, 11, 0) :: (32, 10, 0) :: (32, 9, 41) :: (32, 8, 40) :: (32, 7, 0) :: (32, 6, 39) :: (32, 5, 38) :: (32, 4, 37) :: (32, 3, 36) :: (32, 2, 35) :: (32, 1, 34) :: (32, 0, 33) :: W)) := by
  have hI := h0
  refine ne_Arranger_init ⟨sh_al (hI.s_ (by decide) (by decide)), ?_⟩
  replace hI := hI.alw (k := 20) (N := 680) (a := 32) (j := 0) (n' := 33) (v := 33) (by decide) rfl rfl (by decide)
  generalize wr (al σ 20 680) 32 0 (nx σ) = σ at hI ⊢
  refine n_Arranger_init_13 ⟨sh_al (hI.s_ (by decide) (by decide)), ?_⟩
  replace hI := hI.alw (k := 20) (N := 680) (a := 32) (j := 1) (n' := 34) (v := 34) (by decide) rfl rfl (by decide)
  generalize wr (al σ 20 680) 32 1 (nx σ) = σ at hI ⊢
  refine n_Arranger_init_22 ⟨sh_al (hI.s_ (by decide) (by decide)), ?_⟩
  replace hI := hI.alw (k := 20) (N := 680) (a := 32) (j := 2) (n' := 35) (v := 35) (by decide) rfl rfl (by decide)
  generalize wr (al σ 20 680) 32 2 (nx σ) = σ at hI ⊢
  refine n_Arranger_init_31 ⟨sh_al (hI.s_ (by decide) (by decide)), ?_⟩
  replace hI := hI.alw (k := 20) (N := 680) (a := 32) (j := 3) (n' := 36) (v := 36) (by decide) rfl rfl (by decide)
  generalize wr (al σ 20 680) 32 3 (nx σ) = σ at hI ⊢
  refine n_Arranger_init_40 ⟨sh_al (hI.s_ (by decide) (by decide)), ?_⟩
  replace hI := hI.alw (k := 20) (N := 680) (a := 32) (j := 4) (n' := 37) (v := 37) (by decide) rfl rfl (by decide)
  generalize wr (al σ 20 680) 32 4 (nx σ) = σ at hI ⊢
  refine n_Arranger_init_49 ⟨sh_al (hI.s_ (by decide) (by decide)), ?_⟩
  replace hI := hI.alw (k := 20) (N := 680) (a := 32) (j := 5) (n' := 38) (v := 38) (by decide) rfl rfl (by decide)
  generalize wr (al σ 20 680) 32 5 (nx σ) = σ at hI ⊢
  refine n_Arranger_init_58 ⟨sh_al (hI.s_ (by decide) (by decide)), ?_⟩
  replace hI := hI.alw (k := 22) (N := 680) (a := 32) (j := 6) (n' := 39) (v := 39) (by decide) rfl rfl (by decide)
  generalize wr (al σ 22 680) 32 6 (nx σ) = σ at hI ⊢
  refine n_Arranger_init_67 ⟨hI.s_ (by decide) (by decide), ?_⟩
  replace hI := hI.w_ (a := 32) (j := 7) (v := 0) (by decide)
  generalize wr σ 32 7 0 = σ at hI ⊢
  refine n_Arranger_init_72 ⟨sh_al (hI.s_ (by decide) (by decide)), ?_⟩
  replace hI := hI.alw (k := 20) (N := 49) (a := 32) (j := 8) (n' := 40) (v := 40) (by decide) rfl rfl (by decide)
  generalize wr (al σ 20 49) 32 8 (nx σ) = σ at hI ⊢
  refine n_Arranger_init_80 ⟨sh_al (hI.s_ (by decide) (by decide)), ?_⟩
  replace hI := hI.alw (k := 20) (N := 49) (a := 32) (j := 9) (n' := 41) (v := 41) (by decide) rfl rfl (by decide)
  generalize wr (al σ 20 49) 32 9 (nx σ) = σ at hI ⊢
  refine n_Arranger_init_88 ⟨hI.s_ (by decide) (by decide), ?_⟩
  replace hI := hI.w_ (a := 32) (j := 10) (v := 0) (by decide)
  generalize wr σ 32 10 0 = σ at hI ⊢
  refine n_Arranger_init_93 ⟨hI.s_ (by decide) (by decide), ?_⟩
  replace hI := hI.w_ (a := 32) (j := 11) (v := 0) (by decide)
  generalize wr σ 32 11 0 = σ at hI ⊢
  refine n_Arranger_init_98 ⟨hI.s_ (by decide) (by decide), ?_⟩
  replace hI := hI.w_ (a := 32) (j := 12) (v := 0) (by decide)
  generalize wr σ 32 12 0 = σ at hI ⊢
  refine n_Arranger_init_103 ⟨hI.s_ (by decide) (by decide), ?_⟩
  replace hI := hI.w_ (a := 32) (j := 13) (v := 0) (by decide)
  generalize wr σ 32 13 0 = σ at hI ⊢
  exact n_Arranger_init_108 ⟨rfl, h0.pre hI (by decide), hI⟩
set_option maxRecDepth 8000 in
theorem w_S_init (h0 : Is σ 1 W) : WMv E m_S_init (d + 3) [aP 1] σ (fun τ => Is τ 41 ((1, 8, 32) :: (32, 13, 0) :: (32, 12, 0) :: (32, 11, 0) :: (32, 10, 0) :: (32, 9, 41) :: (32, 8, 40) :: (32, 7, 0) :: (32, 6, 39) :: (32, 5, 38) :: (32, 4, 37) :: (32, 3, 36) :: (32, 2, 35) :: (32, 1, 34) :: (32, 0, 33) :: (1, 7, 31) :: (1, 6, 23) :: (23, 7, 0) :: (23, 6, 30) :: (23, 5, 29) :: (23, 4, 28) :: (23, 3, 27) :: (23, 2, 26) :: (23, 1, 25) :: (23, 0, 24) :: (1, 5, 12) :: (12, 11, 0) :: (12, 10, 1) :: (12, 9, 12) :: (12, 8, 0) :: (12, 7, 18) :: (18, 3, 22) :: (18, 2, 21) :: (18, 1, 20) :: (18, 0, 19) :: (12, 6, 0) :: (12, 5, 0) :: (12, 4, 17) :: (12, 3, 16) :: (12, 2, 14) :: (14, 1, 0) :: (14, 0, 15) :: (12, 1, 0) :: (12, 0, 13) :: (1, 4, 10) :: (10, 1, 0) :: (10, 0, 11) :: (1, 3, 0) :: (1, 2, 9) :: (1, 1, 7) :: (7, 2, 1) :: (7, 1, 12) :: (7, 0, 8) :: (1, 0, 2) :: (2, 3, 6) :: (2, 2, 5) :: (2, 1, 4) :: (2, 0, 3) :: W)) := by
  have hI := h0
  refine ne_S_init ⟨nx_pos _, ?_⟩
  have h1 := hI.a_ (k := 8) (N := 4) (n' := 2) (by decide) rfl
  rw [hI.n_ (v := 2) rfl]
  refine WMv.mono (w_Table_init (a := 2) h1 (by decide) (by decide) (by decide) (by decide)) (fun τ _ hI => ?_)
  replace hI : Is τ 6 ((2, 3, 6) :: (2, 2, 5) :: (2, 1, 4) :: (2, 0, 3) :: _) := hI
  refine ⟨hI.s_ (by decide) (by decide), ?_⟩
  replace hI := hI.w_ (a := 1) (j := 0) (v := 2) (by decide)
  generalize wr τ 1 0 2 = σ at hI ⊢
  refine n_S_init_15 ⟨nx_pos _, ?_⟩
  have h1 := hI.a_ (k := 4) (N := 3) (n' := 7) (by decide) rfl
  have h2 := h1.a_ (k := 25) (N := 0) (n' := 8) (by decide) rfl
  rw [hI.n_ (v := 7) rfl, h1.n_ (v := 8) rfl]
  have h3 := ((h2.w_ (a := 7) (j := 0) (v := 8) (by decide)).w_ (a := 7) (j := 1) (v := 12) (by decide)).w_ (a := 7) (j := 2) (v := 1) (by decide)
  have hs : sh (al (al σ 4 3) 25 0) 7 = some (4, 3) := h2.s_ (by decide) (by decide)
  refine e_Moment_init _ _ _ _ ⟨by decide, hs, hs, hs, rfl, List.prefix_refl _, ?_⟩
  replace hI := h3
  generalize wr (wr (wr (al (al σ 4 3) 25 0) 7 0 8) 7 1 12) 7 2 1 = τ at hI ⊢
  refine ⟨hI.s_ (by decide) (by decide), ?_⟩
  replace hI := hI.w_ (a := 1) (j := 1) (v := 7) (by decide)
  generalize wr τ 1 1 7 = σ at hI ⊢
  refine n_S_init_33 ⟨sh_al (hI.s_ (by decide) (by decide)), ?_⟩
  replace hI := hI.alw (k := 26) (N := 12) (a := 1) (j := 2) (n' := 9) (v := 9) (by decide) rfl rfl (by decide)
  generalize wr (al σ 26 12) 1 2 (nx σ) = σ at hI ⊢
  refine n_S_init_42 ⟨hI.s_ (by decide) (by decide), ?_⟩
  replace hI := hI.w_ (a := 1) (j := 3) (v := 0) (by decide)
  generalize wr σ 1 3 0 = σ at hI ⊢
  refine n_S_init_47 ⟨nx_pos _, ?_⟩
  have h1 := hI.a_ (k := 1) (N := 2) (n' := 10) (by decide) rfl
  rw [hI.n_ (v := 10) rfl]
  refine WMv.mono (w_Draft_init (a := 10) (n' := 11) (v := 11) h1 (by decide) (by decide) (by decide) (by decide) rfl rfl) (fun τ _ hI => ?_)
  refine ⟨hI.s_ (by decide) (by decide), ?_⟩
  replace hI := hI.w_ (a := 1) (j := 4) (v := 10) (by decide)
  generalize wr τ 1 4 10 = σ at hI ⊢
  refine n_S_init_58 ⟨nx_pos _, ?_⟩
  have h1 := hI.a_ (k := 5) (N := 12) (n' := 12) (by decide) rfl
  rw [hI.n_ (v := 12) rfl]
  refine WMv.mono (w_Reader_init h1) (fun τ _ hI => ?_)
  refine ⟨hI.s_ (by decide) (by decide), ?_⟩
  replace hI := hI.w_ (a := 1) (j := 5) (v := 12) (by decide)
  generalize wr τ 1 5 12 = σ at hI ⊢
  refine n_S_init_69 ⟨nx_pos _, ?_⟩
  have h1 := hI.a_ (k := 2) (N := 8) (n' := 23) (by decide) rfl
  rw [hI.n_ (v := 23) rfl]
  refine WMv.mono (w_Layout_init h1) (fun τ _ hI => ?_)
  refine ⟨hI.s_ (by decide) (by decide), ?_⟩
  replace hI := hI.w_ (a := 1) (j := 6) (v := 23) (by decide)
  generalize wr τ 1 6 23 = σ at hI ⊢
  refine n_S_init_80 ⟨nx_pos _, ?_⟩
  have h1 := hI.a_ (k := 6) (N := 9) (n' := 31) (by decide) rfl
  rw [hI.n_ (v := 31) rfl]
  refine e_Speller_init ⟨rfl, List.prefix_refl _, ?_⟩
  replace hI := h1
  generalize al σ 6 9 = τ at hI ⊢
  refine ⟨hI.s_ (by decide) (by decide), ?_⟩
  replace hI := hI.w_ (a := 1) (j := 7) (v := 31) (by decide)
  generalize wr τ 1 7 31 = σ at hI ⊢
  refine n_S_init_91 ⟨nx_pos _, ?_⟩
  have h1 := hI.a_ (k := 0) (N := 14) (n' := 32) (by decide) rfl
  rw [hI.n_ (v := 32) rfl]
  refine WMv.mono (w_Arranger_init h1) (fun τ _ hI => ?_)
  refine ⟨hI.s_ (by decide) (by decide), ?_⟩
  replace hI := hI.w_ (a := 1) (j := 8) (v := 32) (by decide)
  generalize wr τ 1 8 32 = σ at hI ⊢
  exact n_S_init_102 ⟨rfl, h0.pre hI (by decide), hI⟩
set_option maxRecDepth 8000 in
theorem w_M_init (h0 : Is σ 42 W) : WMv E m_M_init (d + 2) [aP 42] σ (fun τ => Is τ 92 ((47, 1, 1) :: (47, 0, 12) :: (42, 73, 92) :: (42, 69, 91) :: (42, 68, 90) :: (42, 67, 89) :: (42, 65, 88) :: (42, 64, 87) :: (42, 63, 86) :: (42, 62, 85) :: (42, 61, 84) :: (42, 60, 83) :: (42, 59, 82) :: (42, 57, 81) :: (42, 56, 80) :: (42, 55, 79) :: (42, 54, 78) :: (42, 48, 77) :: (77, 28, 0) :: (77, 27, 116) :: (77, 26, 102) :: (77, 25, 101) :: (77, 24, 108) :: (77, 23, 0) :: (77, 22, 101) :: (77, 21, 110) :: (77, 20, 105) :: (77, 19, 108) :: (77, 18, 0) :: (77, 17, 101) :: (77, 16, 114) :: (77, 15, 111) :: (77, 14, 99) :: (77, 13, 0) :: (77, 12, 110) :: (77, 11, 103) :: (77, 10, 105) :: (77, 9, 115) :: (77, 8, 0) :: (77, 7, 112) :: (77, 6, 97) :: (77, 5, 103) :: (77, 4, 0) :: (77, 3, 101) :: (77, 2, 100) :: (77, 1, 105) :: (77, 0, 115) :: (42, 46, 76) :: (42, 44, 75) :: (42, 40, 74) :: (42, 38, 73) :: (42, 37, 72) :: (42, 36, 71) :: (42, 35, 70) :: (42, 34, 69) :: (42, 33, 68) :: (42, 32, 67) :: (42, 31, 66) :: (42, 30, 65) :: (42, 28, 64) :: (42, 26, 63) :: (42, 25, 62) :: (42, 24, 61) :: (42, 23, 60) :: (42, 22, 59) :: (42, 21, 58) :: (42, 20, 57) :: (42, 19, 56) :: (42, 18, 55) :: (42, 15, 54) :: (42, 14, 53) :: (42, 13, 52) :: (42, 11, 51) :: (42, 9, 50) :: (42, 7, 49) :: (42, 6, 48) :: (42, 5, 47) :: (42, 4, 46) :: (42, 3, 45) :: (42, 2, 44) :: (42, 1, 43) :: W)) := by
  have hI := h0
  refine ne_M_init ⟨sh_al (hI.s_ (by decide) (by decide)), ?_⟩
  replace hI := hI.alw (k := 20) (N := 26) (a := 42) (j := 1) (n' := 43) (v := 43) (by decide) rfl rfl (by decide)
  generalize wr (al σ 20 26) 42 1 (nx σ) = σ at hI ⊢
  refine n_M_init_12 ⟨sh_al (hI.s_ (by decide) (by decide)), ?_⟩
  replace hI := hI.alw (k := 20) (N := 26) (a := 42) (j := 2) (n' := 44) (v := 44) (by decide) rfl rfl (by decide)
  generalize wr (al σ 20 26) 42 2 (nx σ) = σ at hI ⊢
  refine n_M_init_20 ⟨sh_al (hI.s_ (by decide) (by decide)), ?_⟩
  replace hI := hI.alw (k := 20) (N := 26) (a := 42) (j := 3) (n' := 45) (v := 45) (by decide) rfl rfl (by decide)
  generalize wr (al σ 20 26) 42 3 (nx σ) = σ at hI ⊢
  refine n_M_init_28 ⟨sh_al (hI.s_ (by decide) (by decide)), ?_⟩
  replace hI := hI.alw (k := 20) (N := 26) (a := 42) (j := 4) (n' := 46) (v := 46) (by decide) rfl rfl (by decide)
  generalize wr (al σ 20 26) 42 4 (nx σ) = σ at hI ⊢
  refine n_M_init_36 ⟨sh_al (hI.s_ (by decide) (by decide)), ?_⟩
  replace hI := hI.alw (k := 20) (N := 683) (a := 42) (j := 5) (n' := 47) (v := 47) (by decide) rfl rfl (by decide)
  generalize wr (al σ 20 683) 42 5 (nx σ) = σ at hI ⊢
  refine n_M_init_45 ⟨sh_al (hI.s_ (by decide) (by decide)), ?_⟩
  replace hI := hI.alw (k := 20) (N := 683) (a := 42) (j := 6) (n' := 48) (v := 48) (by decide) rfl rfl (by decide)
  generalize wr (al σ 20 683) 42 6 (nx σ) = σ at hI ⊢
  refine n_M_init_54 ⟨sh_al (hI.s_ (by decide) (by decide)), ?_⟩
  replace hI := hI.alw (k := 20) (N := 8196) (a := 42) (j := 7) (n' := 49) (v := 49) (by decide) rfl rfl (by decide)
  generalize wr (al σ 20 8196) 42 7 (nx σ) = σ at hI ⊢
  refine n_M_init_63 ⟨sh_al (hI.s_ (by decide) (by decide)), ?_⟩
  replace hI := hI.alw (k := 20) (N := 24) (a := 42) (j := 9) (n' := 50) (v := 50) (by decide) rfl rfl (by decide)
  generalize wr (al σ 20 24) 42 9 (nx σ) = σ at hI ⊢
  refine n_M_init_71 ⟨sh_al (hI.s_ (by decide) (by decide)), ?_⟩
  replace hI := hI.alw (k := 20) (N := 48) (a := 42) (j := 11) (n' := 51) (v := 51) (by decide) rfl rfl (by decide)
  generalize wr (al σ 20 48) 42 11 (nx σ) = σ at hI ⊢
  refine n_M_init_79 ⟨sh_al (hI.s_ (by decide) (by decide)), ?_⟩
  replace hI := hI.alw (k := 20) (N := 24) (a := 42) (j := 13) (n' := 52) (v := 52) (by decide) rfl rfl (by decide)
  generalize wr (al σ 20 24) 42 13 (nx σ) = σ at hI ⊢
  refine n_M_init_87 ⟨sh_al (hI.s_ (by decide) (by decide)), ?_⟩
  replace hI := hI.alw (k := 20) (N := 24) (a := 42) (j := 14) (n' := 53) (v := 53) (by decide) rfl rfl (by decide)
  generalize wr (al σ 20 24) 42 14 (nx σ) = σ at hI ⊢
  refine n_M_init_95 ⟨sh_al (hI.s_ (by decide) (by decide)), ?_⟩
  replace hI := hI.alw (k := 20) (N := 24) (a := 42) (j := 15) (n' := 54) (v := 54) (by decide) rfl rfl (by decide)
  generalize wr (al σ 20 24) 42 15 (nx σ) = σ at hI ⊢
  refine n_M_init_103 ⟨sh_al (hI.s_ (by decide) (by decide)), ?_⟩
  replace hI := hI.alw (k := 22) (N := 12) (a := 42) (j := 18) (n' := 55) (v := 55) (by decide) rfl rfl (by decide)
  generalize wr (al σ 22 12) 42 18 (nx σ) = σ at hI ⊢
  refine n_M_init_111 ⟨sh_al (hI.s_ (by decide) (by decide)), ?_⟩
  replace hI := hI.alw (k := 22) (N := 12) (a := 42) (j := 19) (n' := 56) (v := 56) (by decide) rfl rfl (by decide)
  generalize wr (al σ 22 12) 42 19 (nx σ) = σ at hI ⊢
  refine n_M_init_119 ⟨sh_al (hI.s_ (by decide) (by decide)), ?_⟩
  replace hI := hI.alw (k := 22) (N := 12) (a := 42) (j := 20) (n' := 57) (v := 57) (by decide) rfl rfl (by decide)
  generalize wr (al σ 22 12) 42 20 (nx σ) = σ at hI ⊢
  refine n_M_init_127 ⟨sh_al (hI.s_ (by decide) (by decide)), ?_⟩
  replace hI := hI.alw (k := 22) (N := 12) (a := 42) (j := 21) (n' := 58) (v := 58) (by decide) rfl rfl (by decide)
  generalize wr (al σ 22 12) 42 21 (nx σ) = σ at hI ⊢
  refine n_M_init_135 ⟨sh_al (hI.s_ (by decide) (by decide)), ?_⟩
  replace hI := hI.alw (k := 22) (N := 12) (a := 42) (j := 22) (n' := 59) (v := 59) (by decide) rfl rfl (by decide)
  generalize wr (al σ 22 12) 42 22 (nx σ) = σ at hI ⊢
  refine n_M_init_143 ⟨sh_al (hI.s_ (by decide) (by decide)), ?_⟩
  replace hI := hI.alw (k := 22) (N := 12) (a := 42) (j := 23) (n' := 60) (v := 60) (by decide) rfl rfl (by decide)
  generalize wr (al σ 22 12) 42 23 (nx σ) = σ at hI ⊢
  refine n_M_init_151 ⟨sh_al (hI.s_ (by decide) (by decide)), ?_⟩
  replace hI := hI.alw (k := 20) (N := 24) (a := 42) (j := 24) (n' := 61) (v := 61) (by decide) rfl rfl (by decide)
  generalize wr (al σ 20 24) 42 24 (nx σ) = σ at hI ⊢
  refine n_M_init_159 ⟨sh_al (hI.s_ (by decide) (by decide)), ?_⟩
  replace hI := hI.alw (k := 20) (N := 24) (a := 42) (j := 25) (n' := 62) (v := 62) (by decide) rfl rfl (by decide)
  generalize wr (al σ 20 24) 42 25 (nx σ) = σ at hI ⊢
  refine n_M_init_167 ⟨sh_al (hI.s_ (by decide) (by decide)), ?_⟩
  replace hI := hI.alw (k := 20) (N := 24) (a := 42) (j := 26) (n' := 63) (v := 63) (by decide) rfl rfl (by decide)
  generalize wr (al σ 20 24) 42 26 (nx σ) = σ at hI ⊢
  refine n_M_init_175 ⟨sh_al (hI.s_ (by decide) (by decide)), ?_⟩
  replace hI := hI.alw (k := 20) (N := 2600) (a := 42) (j := 28) (n' := 64) (v := 64) (by decide) rfl rfl (by decide)
  generalize wr (al σ 20 2600) 42 28 (nx σ) = σ at hI ⊢
  refine n_M_init_184 ⟨sh_al (hI.s_ (by decide) (by decide)), ?_⟩
  replace hI := hI.alw (k := 20) (N := 24) (a := 42) (j := 30) (n' := 65) (v := 65) (by decide) rfl rfl (by decide)
  generalize wr (al σ 20 24) 42 30 (nx σ) = σ at hI ⊢
  refine n_M_init_192 ⟨sh_al (hI.s_ (by decide) (by decide)), ?_⟩
  replace hI := hI.alw (k := 20) (N := 24) (a := 42) (j := 31) (n' := 66) (v := 66) (by decide) rfl rfl (by decide)
  generalize wr (al σ 20 24) 42 31 (nx σ) = σ at hI ⊢
  refine n_M_init_200 ⟨sh_al (hI.s_ (by decide) (by decide)), ?_⟩
  replace hI := hI.alw (k := 20) (N := 24) (a := 42) (j := 32) (n' := 67) (v := 67) (by decide) rfl rfl (by decide)
  generalize wr (al σ 20 24) 42 32 (nx σ) = σ at hI ⊢
  refine n_M_init_208 ⟨sh_al (hI.s_ (by decide) (by decide)), ?_⟩
  replace hI := hI.alw (k := 23) (N := 24) (a := 42) (j := 33) (n' := 68) (v := 68) (by decide) rfl rfl (by decide)
  generalize wr (al σ 23 24) 42 33 (nx σ) = σ at hI ⊢
  refine n_M_init_216 ⟨sh_al (hI.s_ (by decide) (by decide)), ?_⟩
  replace hI := hI.alw (k := 20) (N := 3084) (a := 42) (j := 34) (n' := 69) (v := 69) (by decide) rfl rfl (by decide)
  generalize wr (al σ 20 3084) 42 34 (nx σ) = σ at hI ⊢
  refine n_M_init_225 ⟨sh_al (hI.s_ (by decide) (by decide)), ?_⟩
  replace hI := hI.alw (k := 20) (N := 7) (a := 42) (j := 35) (n' := 70) (v := 70) (by decide) rfl rfl (by decide)
  generalize wr (al σ 20 7) 42 35 (nx σ) = σ at hI ⊢
  refine n_M_init_233 ⟨sh_al (hI.s_ (by decide) (by decide)), ?_⟩
  replace hI := hI.alw (k := 20) (N := 8) (a := 42) (j := 36) (n' := 71) (v := 71) (by decide) rfl rfl (by decide)
  generalize wr (al σ 20 8) 42 36 (nx σ) = σ at hI ⊢
  refine n_M_init_241 ⟨sh_al (hI.s_ (by decide) (by decide)), ?_⟩
  replace hI := hI.alw (k := 20) (N := 24) (a := 42) (j := 37) (n' := 72) (v := 72) (by decide) rfl rfl (by decide)
  generalize wr (al σ 20 24) 42 37 (nx σ) = σ at hI ⊢
  refine n_M_init_249 ⟨sh_al (hI.s_ (by decide) (by decide)), ?_⟩
  replace hI := hI.alw (k := 20) (N := 10) (a := 42) (j := 38) (n' := 73) (v := 73) (by decide) rfl rfl (by decide)
  generalize wr (al σ 20 10) 42 38 (nx σ) = σ at hI ⊢
  refine n_M_init_257 ⟨sh_al (hI.s_ (by decide) (by decide)), ?_⟩
  replace hI := hI.alw (k := 20) (N := 24) (a := 42) (j := 40) (n' := 74) (v := 74) (by decide) rfl rfl (by decide)
  generalize wr (al σ 20 24) 42 40 (nx σ) = σ at hI ⊢
  refine n_M_init_265 ⟨sh_al (hI.s_ (by decide) (by decide)), ?_⟩
  replace hI := hI.alw (k := 20) (N := 80) (a := 42) (j := 44) (n' := 75) (v := 75) (by decide) rfl rfl (by decide)
  generalize wr (al σ 20 80) 42 44 (nx σ) = σ at hI ⊢
  refine n_M_init_273 ⟨sh_al (hI.s_ (by decide) (by decide)), ?_⟩
  replace hI := hI.alw (k := 20) (N := 400) (a := 42) (j := 46) (n' := 76) (v := 76) (by decide) rfl rfl (by decide)
  generalize wr (al σ 20 400) 42 46 (nx σ) = σ at hI ⊢
  have h1 := hI.a_ (k := 21) (N := 29) (n' := 77) (by decide) rfl
  refine n_M_init_282 ⟨?_, ?_⟩
  · rw [hI.n_ (v := 77) rfl]; exact ⟨29, h1.s_ (by decide) (by decide), by decide, by decide, by decide⟩
  rw [hI.n_ (v := 77) rfl]
  replace hI := h1.w_ (a := 77) (j := 0) (v := 115) (by decide)
  generalize wr (al σ 21 29) 77 0 115 = σ at hI ⊢
  refine n_M_init_292 _ _ ⟨⟨29, hI.s_ (by decide) (by decide), by decide, by decide, by decide⟩, ?_⟩
  replace hI := hI.w_ (a := 77) (j := 1) (v := 105) (by decide)
  generalize wr σ 77 1 105 = σ at hI ⊢
  refine n_M_init_297 _ _ ⟨⟨29, hI.s_ (by decide) (by decide), by decide, by decide, by decide⟩, ?_⟩
  replace hI := hI.w_ (a := 77) (j := 2) (v := 100) (by decide)
  generalize wr σ 77 2 100 = σ at hI ⊢
  refine n_M_init_302 _ _ ⟨⟨29, hI.s_ (by decide) (by decide), by decide, by decide, by decide⟩, ?_⟩
  replace hI := hI.w_ (a := 77) (j := 3) (v := 101) (by decide)
  generalize wr σ 77 3 101 = σ at hI ⊢
  refine n_M_init_307 _ _ ⟨⟨29, hI.s_ (by decide) (by decide), by decide, by decide, by decide⟩, ?_⟩
  replace hI := hI.w_ (a := 77) (j := 4) (v := 0) (by decide)
  generalize wr σ 77 4 0 = σ at hI ⊢
  refine n_M_init_311 _ _ ⟨⟨29, hI.s_ (by decide) (by decide), by decide, by decide, by decide⟩, ?_⟩
  replace hI := hI.w_ (a := 77) (j := 5) (v := 103) (by decide)
  generalize wr σ 77 5 103 = σ at hI ⊢
  refine n_M_init_316 _ _ ⟨⟨29, hI.s_ (by decide) (by decide), by decide, by decide, by decide⟩, ?_⟩
  replace hI := hI.w_ (a := 77) (j := 6) (v := 97) (by decide)
  generalize wr σ 77 6 97 = σ at hI ⊢
  refine n_M_init_322 _ _ ⟨⟨29, hI.s_ (by decide) (by decide), by decide, by decide, by decide⟩, ?_⟩
  replace hI := hI.w_ (a := 77) (j := 7) (v := 112) (by decide)
  generalize wr σ 77 7 112 = σ at hI ⊢
  refine n_M_init_328 _ _ ⟨⟨29, hI.s_ (by decide) (by decide), by decide, by decide, by decide⟩, ?_⟩
  replace hI := hI.w_ (a := 77) (j := 8) (v := 0) (by decide)
  generalize wr σ 77 8 0 = σ at hI ⊢
  refine n_M_init_333 _ _ ⟨⟨29, hI.s_ (by decide) (by decide), by decide, by decide, by decide⟩, ?_⟩
  replace hI := hI.w_ (a := 77) (j := 9) (v := 115) (by decide)
  generalize wr σ 77 9 115 = σ at hI ⊢
  refine n_M_init_339 _ _ ⟨⟨29, hI.s_ (by decide) (by decide), by decide, by decide, by decide⟩, ?_⟩
  replace hI := hI.w_ (a := 77) (j := 10) (v := 105) (by decide)
  generalize wr σ 77 10 105 = σ at hI ⊢
  refine n_M_init_345 _ _ ⟨⟨29, hI.s_ (by decide) (by decide), by decide, by decide, by decide⟩, ?_⟩
  replace hI := hI.w_ (a := 77) (j := 11) (v := 103) (by decide)
  generalize wr σ 77 11 103 = σ at hI ⊢
  refine n_M_init_351 _ _ ⟨⟨29, hI.s_ (by decide) (by decide), by decide, by decide, by decide⟩, ?_⟩
  replace hI := hI.w_ (a := 77) (j := 12) (v := 110) (by decide)
  generalize wr σ 77 12 110 = σ at hI ⊢
  refine n_M_init_357 _ _ ⟨⟨29, hI.s_ (by decide) (by decide), by decide, by decide, by decide⟩, ?_⟩
  replace hI := hI.w_ (a := 77) (j := 13) (v := 0) (by decide)
  generalize wr σ 77 13 0 = σ at hI ⊢
  refine n_M_init_362 _ _ ⟨⟨29, hI.s_ (by decide) (by decide), by decide, by decide, by decide⟩, ?_⟩
  replace hI := hI.w_ (a := 77) (j := 14) (v := 99) (by decide)
  generalize wr σ 77 14 99 = σ at hI ⊢
  refine n_M_init_368 _ _ ⟨⟨29, hI.s_ (by decide) (by decide), by decide, by decide, by decide⟩, ?_⟩
  replace hI := hI.w_ (a := 77) (j := 15) (v := 111) (by decide)
  generalize wr σ 77 15 111 = σ at hI ⊢
  refine n_M_init_374 _ _ ⟨⟨29, hI.s_ (by decide) (by decide), by decide, by decide, by decide⟩, ?_⟩
  replace hI := hI.w_ (a := 77) (j := 16) (v := 114) (by decide)
  generalize wr σ 77 16 114 = σ at hI ⊢
  refine n_M_init_380 _ _ ⟨⟨29, hI.s_ (by decide) (by decide), by decide, by decide, by decide⟩, ?_⟩
  replace hI := hI.w_ (a := 77) (j := 17) (v := 101) (by decide)
  generalize wr σ 77 17 101 = σ at hI ⊢
  refine n_M_init_386 _ _ ⟨⟨29, hI.s_ (by decide) (by decide), by decide, by decide, by decide⟩, ?_⟩
  replace hI := hI.w_ (a := 77) (j := 18) (v := 0) (by decide)
  generalize wr σ 77 18 0 = σ at hI ⊢
  refine n_M_init_391 _ _ ⟨⟨29, hI.s_ (by decide) (by decide), by decide, by decide, by decide⟩, ?_⟩
  replace hI := hI.w_ (a := 77) (j := 19) (v := 108) (by decide)
  generalize wr σ 77 19 108 = σ at hI ⊢
  refine n_M_init_397 _ _ ⟨⟨29, hI.s_ (by decide) (by decide), by decide, by decide, by decide⟩, ?_⟩
  replace hI := hI.w_ (a := 77) (j := 20) (v := 105) (by decide)
  generalize wr σ 77 20 105 = σ at hI ⊢
  refine n_M_init_403 _ _ ⟨⟨29, hI.s_ (by decide) (by decide), by decide, by decide, by decide⟩, ?_⟩
  replace hI := hI.w_ (a := 77) (j := 21) (v := 110) (by decide)
  generalize wr σ 77 21 110 = σ at hI ⊢
  refine n_M_init_409 _ _ ⟨⟨29, hI.s_ (by decide) (by decide), by decide, by decide, by decide⟩, ?_⟩
  replace hI := hI.w_ (a := 77) (j := 22) (v := 101) (by decide)
  generalize wr σ 77 22 101 = σ at hI ⊢
  refine n_M_init_415 _ _ ⟨⟨29, hI.s_ (by decide) (by decide), by decide, by decide, by decide⟩, ?_⟩
  replace hI := hI.w_ (a := 77) (j := 23) (v := 0) (by decide)
  generalize wr σ 77 23 0 = σ at hI ⊢
  refine n_M_init_420 _ _ ⟨⟨29, hI.s_ (by decide) (by decide), by decide, by decide, by decide⟩, ?_⟩
  replace hI := hI.w_ (a := 77) (j := 24) (v := 108) (by decide)
  generalize wr σ 77 24 108 = σ at hI ⊢
  refine n_M_init_426 _ _ ⟨⟨29, hI.s_ (by decide) (by decide), by decide, by decide, by decide⟩, ?_⟩
  replace hI := hI.w_ (a := 77) (j := 25) (v := 101) (by decide)
  generalize wr σ 77 25 101 = σ at hI ⊢
  refine n_M_init_432 _ _ ⟨⟨29, hI.s_ (by decide) (by decide), by decide, by decide, by decide⟩, ?_⟩
  replace hI := hI.w_ (a := 77) (j := 26) (v := 102) (by decide)
  generalize wr σ 77 26 102 = σ at hI ⊢
  refine n_M_init_438 _ _ ⟨⟨29, hI.s_ (by decide) (by decide), by decide, by decide, by decide⟩, ?_⟩
  replace hI := hI.w_ (a := 77) (j := 27) (v := 116) (by decide)
  generalize wr σ 77 27 116 = σ at hI ⊢
  refine n_M_init_444 _ _ ⟨⟨29, hI.s_ (by decide) (by decide), by decide, by decide, by decide⟩, ?_⟩
  replace hI := hI.w_ (a := 77) (j := 28) (v := 0) (by decide)
  generalize wr σ 77 28 0 = σ at hI ⊢
  refine n_M_init_449 _ _ ⟨hI.s_ (by decide) (by decide), ?_⟩
  replace hI := hI.w_ (a := 42) (j := 48) (v := 77) (by decide)
  generalize wr σ 42 48 77 = σ at hI ⊢
  refine n_M_init_452 ⟨sh_al (hI.s_ (by decide) (by decide)), ?_⟩
  replace hI := hI.alw (k := 20) (N := 26) (a := 42) (j := 54) (n' := 78) (v := 78) (by decide) rfl rfl (by decide)
  generalize wr (al σ 20 26) 42 54 (nx σ) = σ at hI ⊢
  refine n_M_init_460 ⟨sh_al (hI.s_ (by decide) (by decide)), ?_⟩
  replace hI := hI.alw (k := 20) (N := 26) (a := 42) (j := 55) (n' := 79) (v := 79) (by decide) rfl rfl (by decide)
  generalize wr (al σ 20 26) 42 55 (nx σ) = σ at hI ⊢
  refine n_M_init_468 ⟨sh_al (hI.s_ (by decide) (by decide)), ?_⟩
  replace hI := hI.alw (k := 20) (N := 26) (a := 42) (j := 56) (n' := 80) (v := 80) (by decide) rfl rfl (by decide)
  generalize wr (al σ 20 26) 42 56 (nx σ) = σ at hI ⊢
  refine n_M_init_476 ⟨sh_al (hI.s_ (by decide) (by decide)), ?_⟩
  replace hI := hI.alw (k := 20) (N := 26) (a := 42) (j := 57) (n' := 81) (v := 81) (by decide) rfl rfl (by decide)
  generalize wr (al σ 20 26) 42 57 (nx σ) = σ at hI ⊢
  refine n_M_init_484 ⟨sh_al (hI.s_ (by decide) (by decide)), ?_⟩
  replace hI := hI.alw (k := 20) (N := 200) (a := 42) (j := 59) (n' := 82) (v := 82) (by decide) rfl rfl (by decide)
  generalize wr (al σ 20 200) 42 59 (nx σ) = σ at hI ⊢
  refine n_M_init_493 ⟨sh_al (hI.s_ (by decide) (by decide)), ?_⟩
  replace hI := hI.alw (k := 20) (N := 200) (a := 42) (j := 60) (n' := 83) (v := 83) (by decide) rfl rfl (by decide)
  generalize wr (al σ 20 200) 42 60 (nx σ) = σ at hI ⊢
  refine n_M_init_502 ⟨sh_al (hI.s_ (by decide) (by decide)), ?_⟩
  replace hI := hI.alw (k := 20) (N := 200) (a := 42) (j := 61) (n' := 84) (v := 84) (by decide) rfl rfl (by decide)
  generalize wr (al σ 20 200) 42 61 (nx σ) = σ at hI ⊢
  refine n_M_init_511 ⟨sh_al (hI.s_ (by decide) (by decide)), ?_⟩
  replace hI := hI.alw (k := 20) (N := 200) (a := 42) (j := 62) (n' := 85) (v := 85) (by decide) rfl rfl (by decide)
  generalize wr (al σ 20 200) 42 62 (nx σ) = σ at hI ⊢
  refine n_M_init_520 ⟨sh_al (hI.s_ (by decide) (by decide)), ?_⟩
  replace hI := hI.alw (k := 20) (N := 200) (a := 42) (j := 63) (n' := 86) (v := 86) (by decide) rfl rfl (by decide)
  generalize wr (al σ 20 200) 42 63 (nx σ) = σ at hI ⊢
  refine n_M_init_529 ⟨sh_al (hI.s_ (by decide) (by decide)), ?_⟩
  replace hI := hI.alw (k := 20) (N := 200) (a := 42) (j := 64) (n' := 87) (v := 87) (by decide) rfl rfl (by decide)
  generalize wr (al σ 20 200) 42 64 (nx σ) = σ at hI ⊢
  refine n_M_init_538 ⟨sh_al (hI.s_ (by decide) (by decide)), ?_⟩
  replace hI := hI.alw (k := 20) (N := 200) (a := 42) (j := 65) (n' := 88) (v := 88) (by decide) rfl rfl (by decide)
  generalize wr (al σ 20 200) 42 65 (nx σ) = σ at hI ⊢
  refine n_M_init_547 ⟨sh_al (hI.s_ (by decide) (by decide)), ?_⟩
  replace hI := hI.alw (k := 20) (N := 8) (a := 42) (j := 67) (n' := 89) (v := 89) (by decide) rfl rfl (by decide)
  generalize wr (al σ 20 8) 42 67 (nx σ) = σ at hI ⊢
  refine n_M_init_555 ⟨sh_al (hI.s_ (by decide) (by decide)), ?_⟩
  replace hI := hI.alw (k := 20) (N := 8) (a := 42) (j := 68) (n' := 90) (v := 90) (by decide) rfl rfl (by decide)
  generalize wr (al σ 20 8) 42 68 (nx σ) = σ at hI ⊢
  refine n_M_init_563 ⟨sh_al (hI.s_ (by decide) (by decide)), ?_⟩
  replace hI := hI.alw (k := 20) (N := 8) (a := 42) (j := 69) (n' := 91) (v := 91) (by decide) rfl rfl (by decide)
  generalize wr (al σ 20 8) 42 69 (nx σ) = σ at hI ⊢
  refine n_M_init_571 ⟨sh_al (hI.s_ (by decide) (by decide)), ?_⟩
  replace hI := hI.alw (k := 20) (N := 48) (a := 42) (j := 73) (n' := 92) (v := 92) (by decide) rfl rfl (by decide)
  generalize wr (al σ 20 48) 42 73 (nx σ) = σ at hI ⊢
  have e5 : σ.1 42 5 = 47 := (hI.2.1 42 5).trans rfl
  refine n_M_init_579 ?_
  rw [e5, wr_na _ (show (42 : Int) ≠ 47 by decide), e5]
  replace hI := (hI.w_ (a := 47) (j := 0) (v := 12) (by decide)).w_ (a := 47) (j := 1) (v := 1) (by decide)
  have hs : sh σ 42 = some (10, 74) := hI.s_ (by decide) (by decide)
  have ha : sh σ 47 = some (20, 683) := hI.s_ (by decide) (by decide)
  exact ⟨hs, ⟨683, ha, by decide, by decide, by decide⟩, hs, ⟨683, ha, by decide, by decide, by decide⟩, rfl, h0.pre hI (by decide), hI⟩
end GCtor
