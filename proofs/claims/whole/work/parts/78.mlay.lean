/-! PLACES: (S, D, X, Y): the scale S by D, the middle X, Y in halves of 1 by D -/
abbrev Qd : Type := Int × Int × Int × Int
def inA (T : Tb) (g : Int) (l : Nat) (t : Tr) : Int × Int :=
  if (T l).2.2.2 * (if (T l).2.2.1 < wid T g t then ((T l).2.2.1, wid T g t) else ((1 : Int), (1 : Int))).2 < (if (T l).2.2.1 < wid T g t then ((T l).2.2.1, wid T g t) else ((1 : Int), (1 : Int))).1 * hei T g t then ((T l).2.2.2, hei T g t)
  else (if (T l).2.2.1 < wid T g t then ((T l).2.2.1, wid T g t) else ((1 : Int), (1 : Int)))
def insQ (T : Tb) (g : Int) (l : Nat) (t : Tr) (q : Qd) : Qd := (q.1 * (inA T g l t).1, q.2.1 * (inA T g l t).2, q.2.2.1 * (inA T g l t).2, q.2.2.2 * (inA T g l t).2)
def qMa (T : Tb) (g : Int) (a b : Tr) (q : Qd) : Qd := (q.1, q.2.1, q.2.2.1 + q.1 * (wid T g a - wid T g (.mul a b)), q.2.2.2)
def qMb (T : Tb) (g : Int) (a b : Tr) (q : Qd) : Qd := (q.1, q.2.1, q.2.2.1 + q.1 * (wid T g (.mul a b) - wid T g b), q.2.2.2)
def qAa (T : Tb) (g : Int) (a b : Tr) (q : Qd) : Qd := (q.1, q.2.1, q.2.2.1, q.2.2.2 + q.1 * (hei T g a - hei T g (.add a b)))
def qAb (T : Tb) (g : Int) (a b : Tr) (q : Qd) : Qd := (q.1, q.2.1, q.2.2.1, q.2.2.2 + q.1 * (hei T g (.add a b) - hei T g b))
theorem inA_b {T : Tb} {g : Int} {l : Nat} {t : Tr} (hc : 1 ≤ (T l).2.2.1 ∧ 1 ≤ (T l).2.2.2) (hw : 1 ≤ wid T g t ∧ wid T g t ≤ 147) (hh : 1 ≤ hei T g t ∧ hei T g t ≤ 147) : (0 < (inA T g l t).1 ∧ (inA T g l t).1 ≤ (inA T g l t).2 ∧ (inA T g l t).2 ≤ 147) ∧ (inA T g l t).1 * wid T g t ≤ (inA T g l t).2 * (T l).2.2.1 ∧ (inA T g l t).1 * hei T g t ≤ (inA T g l t).2 * (T l).2.2.2 := by
  unfold inA
  generalize (T l).2.2.1 = cw at *
  generalize (T l).2.2.2 = ch at *
  generalize wid T g t = w at *
  generalize hei T g t = h at *
  by_cases c1 : cw < w
  · rw [if_pos c1]
    dsimp only
    by_cases c2 : ch * w < cw * h
    · rw [if_pos c2]
      dsimp only
      have h1 : cw * h ≤ w * h := Int.mul_le_mul_of_nonneg_right (by omega) (by omega)
      have h2 : ch < h := by
        refine Int.not_le.mp (fun q => ?_)
        have := Int.mul_le_mul_of_nonneg_right q (show 0 ≤ w by omega)
        rw [Int.mul_comm h w] at this
        omega
      rw [Int.mul_comm h cw, Int.mul_comm h ch]
      omega
    · rw [if_neg c2]
      dsimp only
      rw [Int.mul_comm w cw, Int.mul_comm w ch]
      omega
  · rw [if_neg c1]
    dsimp only
    by_cases c2 : ch * 1 < 1 * h
    · rw [if_pos c2]
      dsimp only
      have h1 : ch * w ≤ h * cw := Int.mul_le_mul (by omega) (by omega) (by omega) (by omega)
      rw [Int.mul_comm h ch]
      omega
    · rw [if_neg c2]
      dsimp only
      omega
def pw : Nat → Int
  | 0 => 1
  | n + 1 => 147 * pw n
theorem pw_pos (n : Nat) : 1 ≤ pw n := by
  induction n with
  | zero => simp [pw]
  | succ n ih => simp only [pw]; omega
theorem pw_mono {m n : Nat} (h : m ≤ n) : pw m ≤ pw n := by
  induction n with
  | zero => have : m = 0 := by omega
            subst this; exact Int.le_refl _
  | succ n ih =>
    by_cases h2 : m = n + 1
    · subst h2; exact Int.le_refl _
    · have := ih (by omega)
      have := pw_pos n
      simp only [pw]; omega
def okQ (T : Tb) (g sd : Int) (u : Tr) (q : Qd) : Prop := (0 < q.1 ∧ q.1 ≤ q.2.1) ∧ q.2.1 * pw (dcp u) ≤ 466948881 ∧ (0 ≤ q.2.2.1 - q.1 * wid T g u ∧ q.2.2.1 + q.1 * wid T g u ≤ 2 * sd * q.2.1) ∧ 0 ≤ q.2.2.2 - q.1 * hei T g u ∧ q.2.2.2 + q.1 * hei T g u ≤ 2 * sd * q.2.1
theorem okQ_pw {q : Qd} {m n : Nat} (h : q.2.1 * pw n ≤ 466948881) (hD : 0 < q.2.1) (hm : m ≤ n) : q.2.1 * pw m ≤ 466948881 := Int.le_trans (Int.mul_le_mul_of_nonneg_left (pw_mono hm) (by omega)) h
theorem okQ_M {T : Tb} {g sd : Int} {a b : Tr} {q : Qd} (h : okQ T g sd (.mul a b) q) (hg : 0 ≤ g) (ha : 1 ≤ wid T g a) (hb : 1 ≤ wid T g b) : okQ T g sd a (qMa T g a b q) ∧ okQ T g sd b (qMb T g a b q) := by
  obtain ⟨⟨h1, h2⟩, h3, ⟨h4, h5⟩, h6, h7⟩ := h
  obtain ⟨S, D, X, Y⟩ := q
  have e : wid T g (.mul a b) = wid T g a + g + wid T g b := rfl
  have eh : hei T g (.mul a b) = max (hei T g a) (hei T g b) := rfl
  have m1 : S * hei T g a ≤ S * hei T g (.mul a b) := Int.mul_le_mul_of_nonneg_left (by omega) (by simp only at h1; omega)
  have m2 : S * hei T g b ≤ S * hei T g (.mul a b) := Int.mul_le_mul_of_nonneg_left (by omega) (by simp only at h1; omega)
  have m3 : S * wid T g a ≤ S * wid T g (.mul a b) := Int.mul_le_mul_of_nonneg_left (by omega) (by simp only at h1; omega)
  have m4 : S * wid T g b ≤ S * wid T g (.mul a b) := Int.mul_le_mul_of_nonneg_left (by omega) (by simp only at h1; omega)
  have d1 : dcp a ≤ dcp (.mul a b) ∧ dcp b ≤ dcp (.mul a b) := by simp only [dcp]; omega
  simp only at h1 h2 h3 h4 h5 h6 h7
  unfold okQ qMa qMb
  dsimp only
  rw [Int.mul_sub, Int.mul_sub]
  exact ⟨⟨⟨h1, h2⟩, okQ_pw (q := (S, D, X, Y)) h3 (by dsimp only; omega) d1.1, ⟨by omega, by omega⟩, by omega, by omega⟩, ⟨h1, h2⟩, okQ_pw (q := (S, D, X, Y)) h3 (by dsimp only; omega) d1.2, ⟨by omega, by omega⟩, by omega, by omega⟩
theorem okQ_A {T : Tb} {g sd : Int} {a b : Tr} {q : Qd} (h : okQ T g sd (.add a b) q) (hg : 0 ≤ g) (ha : 1 ≤ hei T g a) (hb : 1 ≤ hei T g b) : okQ T g sd a (qAa T g a b q) ∧ okQ T g sd b (qAb T g a b q) := by
  obtain ⟨⟨h1, h2⟩, h3, ⟨h4, h5⟩, h6, h7⟩ := h
  obtain ⟨S, D, X, Y⟩ := q
  have e : hei T g (.add a b) = hei T g a + g + hei T g b := rfl
  have eh : wid T g (.add a b) = max (wid T g a) (wid T g b) := rfl
  have m1 : S * hei T g a ≤ S * hei T g (.add a b) := Int.mul_le_mul_of_nonneg_left (by omega) (by simp only at h1; omega)
  have m2 : S * hei T g b ≤ S * hei T g (.add a b) := Int.mul_le_mul_of_nonneg_left (by omega) (by simp only at h1; omega)
  have m3 : S * wid T g a ≤ S * wid T g (.add a b) := Int.mul_le_mul_of_nonneg_left (by omega) (by simp only at h1; omega)
  have m4 : S * wid T g b ≤ S * wid T g (.add a b) := Int.mul_le_mul_of_nonneg_left (by omega) (by simp only at h1; omega)
  have d1 : dcp a ≤ dcp (.add a b) ∧ dcp b ≤ dcp (.add a b) := by simp only [dcp]; omega
  simp only at h1 h2 h3 h4 h5 h6 h7
  unfold okQ qAa qAb
  dsimp only
  rw [Int.mul_sub, Int.mul_sub]
  exact ⟨⟨⟨h1, h2⟩, okQ_pw (q := (S, D, X, Y)) h3 (by dsimp only; omega) d1.1, ⟨by omega, by omega⟩, by omega, by omega⟩, ⟨h1, h2⟩, okQ_pw (q := (S, D, X, Y)) h3 (by dsimp only; omega) d1.2, ⟨by omega, by omega⟩, by omega, by omega⟩
theorem okQ_I {T : Tb} {g sd : Int} {l : Nat} {t : Tr} {q : Qd} (h : okQ T g sd (.pow t l) q) (hc : 1 ≤ (T l).2.2.1 ∧ (T l).2.2.1 ≤ (T l).1 ∧ 1 ≤ (T l).2.2.2 ∧ (T l).2.2.2 ≤ (T l).2.1) (hw : 1 ≤ wid T g t ∧ wid T g t ≤ 147) (hh : 1 ≤ hei T g t ∧ hei T g t ≤ 147) : okQ T g sd t (insQ T g l t q) := by
  obtain ⟨⟨h1, h2⟩, h3, ⟨h4, h5⟩, h6, h7⟩ := h
  obtain ⟨S, D, X, Y⟩ := q
  obtain ⟨⟨b1, b2, b3⟩, b4, b5⟩ := inA_b (T := T) (g := g) (l := l) (t := t) ⟨hc.1, hc.2.2.1⟩ hw hh
  unfold okQ insQ
  dsimp only at *
  generalize (inA T g l t).1 = n at *
  generalize (inA T g l t).2 = k at *
  have e1 : wid T g (.pow t l) = (T l).1 := rfl
  have e2 : hei T g (.pow t l) = (T l).2.1 := rfl
  have e3 : dcp (.pow t l) = dcp t + 1 := rfl
  rw [e1] at h4 h5
  rw [e2] at h6 h7
  rw [e3] at h3
  have hk : 0 < k := by omega
  have hp := pw_pos (dcp t)
  have s1 : S * n * wid T g t ≤ k * (S * (T l).1) := by
    have q1 : n * wid T g t ≤ k * (T l).1 := Int.le_trans b4 (Int.mul_le_mul_of_nonneg_left hc.2.1 (by omega))
    rw [Int.mul_assoc, Int.mul_left_comm k S]
    exact Int.mul_le_mul_of_nonneg_left q1 (by omega)
  have s2 : S * n * hei T g t ≤ k * (S * (T l).2.1) := by
    have q1 : n * hei T g t ≤ k * (T l).2.1 := Int.le_trans b5 (Int.mul_le_mul_of_nonneg_left hc.2.2.2 (by omega))
    rw [Int.mul_assoc, Int.mul_left_comm k S]
    exact Int.mul_le_mul_of_nonneg_left q1 (by omega)
  have t1 := Int.mul_nonneg (show 0 ≤ k by omega) h4
  have t2 := Int.mul_le_mul_of_nonneg_left h5 (show 0 ≤ k by omega)
  have t3 := Int.mul_nonneg (show 0 ≤ k by omega) h6
  have t4 := Int.mul_le_mul_of_nonneg_left h7 (show 0 ≤ k by omega)
  rw [Int.mul_sub] at t1 t3
  rw [Int.mul_add] at t2 t4
  have u1 : k * (2 * sd * D) = 2 * sd * (D * k) := by rw [Int.mul_left_comm, Int.mul_comm k D]
  rw [u1] at t2 t4
  rw [Int.mul_comm X k, Int.mul_comm Y k]
  refine ⟨⟨Int.mul_pos h1 b1, Int.mul_le_mul h2 b2 (by omega) (by omega)⟩, ?_, ⟨by omega, by omega⟩, by omega, by omega⟩
  have v1 : D * k * pw (dcp t) ≤ D * (147 * pw (dcp t)) := by
    rw [Int.mul_assoc]
    exact Int.mul_le_mul_of_nonneg_left (Int.mul_le_mul_of_nonneg_right b3 (by omega)) (by omega)
  exact Int.le_trans v1 h3
def rootQ (T : Tb) (M : Mo) (t : Tr) : Qd := (M.1, gr T M t, M.1 * gr T M t, M.1 * gr T M t)
theorem okQ_R {T : Tb} {M : Mo} {t : Tr} (hkT : okTab T) (hk : okMo T M) (ht : okS T t) : okQ T M.2.1 M.1 t (rootQ T M t) := by
  have hg := gr_b hkT hk ht
  have h1 := hk.1
  have e : gr T M t = max M.1 (max (wid T M.2.1 t) (hei T M.2.1 t)) := rfl
  unfold okQ rootQ
  dsimp only
  have hd : pw (dcp t) ≤ pw 3 := pw_mono ht.2.2.1
  have e3 : pw 3 = 3176523 := by decide
  have hp := pw_pos (dcp t)
  have m1 : M.1 * wid T M.2.1 t ≤ M.1 * gr T M t := Int.mul_le_mul_of_nonneg_left (by omega) (by omega)
  have m2 : M.1 * hei T M.2.1 t ≤ M.1 * gr T M t := Int.mul_le_mul_of_nonneg_left (by omega) (by omega)
  have m3 : 2 * M.1 * gr T M t = M.1 * gr T M t + M.1 * gr T M t := by rw [Int.mul_assoc]; omega
  have m4 : gr T M t * pw (dcp t) ≤ 147 * 3176523 := Int.mul_le_mul hg.2.1 (by omega) (by omega) (by omega)
  exact ⟨⟨by omega, by omega⟩, by omega, ⟨by omega, by omega⟩, by omega, by omega⟩
def ly (T : Tb) (g : Int) : Nat → Qd → Tr → List Qd
  | _, q, .var _ => [q]
  | _, q, .pow t l => q :: ly T g 0 (insQ T g l t q) t
  | k, q, .mul a b => (if k = 1 then [] else [q]) ++ (ly T g 0 (qMa T g a b q) a ++ ly T g 1 (qMb T g a b q) b)
  | k, q, .add a b => (if k = 2 then [] else [q]) ++ (ly T g 0 (qAa T g a b q) a ++ ly T g 2 (qAb T g a b q) b)
  | _, _, _ => []
theorem ly_len (T : Tb) (g : Int) (t : Tr) : ∀ k q, (ly T g k q t).length = (rc k t).length := by
  induction t with
  | mul a b iha ihb => intro k q; simp only [ly, rc]; split <;> simp [iha, ihb] <;> omega
  | add a b iha ihb => intro k q; simp only [ly, rc]; split <;> simp [iha, ihb] <;> omega
  | pow t l ih => intro k q; simp [ly, rc, ih]
  | _ => intro k q; simp [ly, rc]
def pMq (T : Tb) (g : Int) : Qd → Tr → List (Tr × Qd)
  | q, .mul a b => (a, qMa T g a b q) :: pMq T g (qMb T g a b q) b
  | q, t => [(t, q)]
def pAq (T : Tb) (g : Int) : Qd → Tr → List (Tr × Qd)
  | q, .add a b => (a, qAa T g a b q) :: pAq T g (qAb T g a b q) b
  | q, t => [(t, q)]
def chq (T : Tb) (g : Int) (q : Qd) : Tr → List (Tr × Qd)
  | .pow t l => [(t, insQ T g l t q)]
  | .mul a b => pMq T g q (.mul a b)
  | .add a b => pAq T g q (.add a b)
  | _ => []
def lyF (T : Tb) (g : Int) (zs : List (Tr × Qd)) : List Qd := (zs.map (fun z => ly T g 0 z.2 z.1)).flatten
theorem lyF_cons (T : Tb) (g : Int) (z : Tr × Qd) (zs : List (Tr × Qd)) : lyF T g (z :: zs) = ly T g 0 z.2 z.1 ++ lyF T g zs := by simp [lyF]
theorem lyF_app (T : Tb) (g : Int) (zs ws : List (Tr × Qd)) : lyF T g (zs ++ ws) = lyF T g zs ++ lyF T g ws := by simp [lyF]
theorem pMq_fst (T : Tb) (g : Int) (t : Tr) : ∀ q, (pMq T g q t).map Prod.fst = pM t := by
  induction t with
  | mul a b iha ihb => intro q; simp [pMq, pM, ihb]
  | _ => intro q; simp [pMq, pM]
theorem pAq_fst (T : Tb) (g : Int) (t : Tr) : ∀ q, (pAq T g q t).map Prod.fst = pA t := by
  induction t with
  | add a b iha ihb => intro q; simp [pAq, pA, ihb]
  | _ => intro q; simp [pAq, pA]
theorem chq_fst (T : Tb) (g : Int) (q : Qd) (t : Tr) : (chq T g q t).map Prod.fst = ch t := by
  cases t with
  | mul a b => exact pMq_fst T g _ q
  | add a b => exact pAq_fst T g _ q
  | _ => simp [chq, ch]
theorem ly1_F (T : Tb) (g : Int) (t : Tr) : ∀ q, ly T g 1 q t = lyF T g (pMq T g q t) := by
  induction t with
  | mul a b iha ihb => intro q; simp [ly, pMq, lyF_cons, ihb]
  | _ => intro q; simp [ly, pMq, lyF]
theorem ly2_F (T : Tb) (g : Int) (t : Tr) : ∀ q, ly T g 2 q t = lyF T g (pAq T g q t) := by
  induction t with
  | add a b iha ihb => intro q; simp [ly, pAq, lyF_cons, ihb]
  | _ => intro q; simp [ly, pAq, lyF]
theorem ly0_ch {T : Tb} {g : Int} {t : Tr} (h : ok t) (q : Qd) : ly T g 0 q t = q :: lyF T g (chq T g q t) := by
  cases t with
  | var l => simp [ly, chq, lyF]
  | pow t l => simp [ly, chq, lyF]
  | mul a b => have := ly1_F T g (.mul a b) q; simp only [chq, ← this]; simp [ly]
  | add a b => have := ly2_F T g (.add a b) q; simp only [chq, ← this]; simp [ly]
  | _ => exact absurd h (by simp [ok])
/-- what a part must be to lie in its place -/
def okU (T : Tb) (u : Tr) : Prop := ok u ∧ sg u ≤ 10 ∧ tok T u
theorem okU_sz {T : Tb} {g : Int} (hT : okTab T) (hg : 0 ≤ g ∧ g ≤ 3) {u : Tr} (h : okU T u) : (1 ≤ wid T g u ∧ wid T g u ≤ 147) ∧ 1 ≤ hei T g u ∧ hei T g u ≤ 147 := by
  have h1 := size_b hT hg h.1 h.2.2
  have h2 := h.2.1
  omega
theorem okU_mul {T : Tb} {a b : Tr} (h : okU T (.mul a b)) : okU T a ∧ okU T b := by
  obtain ⟨h1, h2, h3⟩ := h
  simp only [sg] at h2
  exact ⟨⟨h1.1, by omega, h3.1⟩, h1.2.1, by omega, h3.2⟩
theorem okU_add {T : Tb} {a b : Tr} (h : okU T (.add a b)) : okU T a ∧ okU T b := by
  obtain ⟨h1, h2, h3⟩ := h
  simp only [sg] at h2
  exact ⟨⟨h1.1, by omega, h3.1⟩, h1.2.1, by omega, h3.2⟩
theorem okU_pow {T : Tb} {t : Tr} {l : Nat} (h : okU T (.pow t l)) : okU T t := by
  obtain ⟨h1, h2, h3⟩ := h
  simp only [sg] at h2
  exact ⟨h1.1, by omega, h3.2⟩
theorem core_b {T : Tb} (hT : okTab T) {t : Tr} {l : Nat} (h : okU T (.pow t l)) : 1 ≤ (T l).2.2.1 ∧ (T l).2.2.1 ≤ (T l).1 ∧ 1 ≤ (T l).2.2.2 ∧ (T l).2.2.2 ≤ (T l).2.1 := by
  have h1 := hT l h.1.2
  have h2 : 0 < (T l).1 ∧ 0 < (T l).2.2.1 := h.2.2.1
  omega
theorem pMq_ok {T : Tb} {g sd : Int} (hT : okTab T) (hg : 0 ≤ g ∧ g ≤ 3) {t : Tr} : ∀ q, okU T t → okQ T g sd t q → ∀ z ∈ pMq T g q t, okU T z.1 ∧ okQ T g sd z.1 z.2 ∧ z.2.1 = q.1 ∧ z.2.2.1 = q.2.1 := by
  induction t with
  | mul a b iha ihb =>
    intro q hu hq z hz
    have hab := okU_mul hu
    have h1 := okQ_M hq hg.1 (okU_sz hT hg hab.1).1.1 (okU_sz hT hg hab.2).1.1
    simp only [pMq, List.mem_cons] at hz
    rcases hz with rfl | hz
    · exact ⟨hab.1, h1.1, rfl, rfl⟩
    · exact ihb _ hab.2 h1.2 z hz
  | _ => intro q hu hq z hz; simp only [pMq, List.mem_singleton] at hz; subst hz; exact ⟨hu, hq, rfl, rfl⟩
theorem pAq_ok {T : Tb} {g sd : Int} (hT : okTab T) (hg : 0 ≤ g ∧ g ≤ 3) {t : Tr} : ∀ q, okU T t → okQ T g sd t q → ∀ z ∈ pAq T g q t, okU T z.1 ∧ okQ T g sd z.1 z.2 ∧ z.2.1 = q.1 ∧ z.2.2.1 = q.2.1 := by
  induction t with
  | add a b iha ihb =>
    intro q hu hq z hz
    have hab := okU_add hu
    have h1 := okQ_A hq hg.1 (okU_sz hT hg hab.1).2.1 (okU_sz hT hg hab.2).2.1
    simp only [pAq, List.mem_cons] at hz
    rcases hz with rfl | hz
    · exact ⟨hab.1, h1.1, rfl, rfl⟩
    · exact ihb _ hab.2 h1.2 z hz
  | _ => intro q hu hq z hz; simp only [pAq, List.mem_singleton] at hz; subst hz; exact ⟨hu, hq, rfl, rfl⟩
theorem chq_ok {T : Tb} {g sd : Int} (hT : okTab T) (hg : 0 ≤ g ∧ g ≤ 3) {t : Tr} {q : Qd} (hu : okU T t) (hq : okQ T g sd t q) : ∀ z ∈ chq T g q t, okU T z.1 ∧ okQ T g sd z.1 z.2 := by
  cases t with
  | mul a b => intro z hz; have := pMq_ok hT hg q hu hq z hz; exact ⟨this.1, this.2.1⟩
  | add a b => intro z hz; have := pAq_ok hT hg q hu hq z hz; exact ⟨this.1, this.2.1⟩
  | pow t l =>
    intro z hz
    simp only [chq, List.mem_singleton] at hz
    subst hz
    have h1 := okU_sz hT hg (okU_pow hu)
    exact ⟨okU_pow hu, okQ_I hq (core_b hT hu) h1.1 h1.2⟩
  | _ => intro z hz; simp [chq] at hz
