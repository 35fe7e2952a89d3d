/-! THE READER: its table -/
def stT (σ : St) (a k : Int) : St := wr (al σ 21 26) a k (nx σ)
theorem stT_v (σ : St) (a k b j : Int) : (stT σ a k).1 b j = if b = a ∧ j = k then nx σ else if b = nx σ then 0 else σ.1 b j := rfl
theorem stT_nx (σ : St) (a k : Int) : nx (stT σ a k) = nx σ + 1 := by unfold nx stT; simp [wr, al]
theorem stT_sh (σ : St) (a k : Int) : sh (stT σ a k) (nx σ) = some (21, 26) := sh_nx σ 21 26
theorem stT_pre (σ : St) (a k : Int) : σ.2 <+: (stT σ a k).2 := List.prefix_append _ _
theorem stT_tot (σ : St) (a k : Int) : tot (stT σ a k) = tot σ + 26 := tot_al σ 21 26
def st4 (σ : St) (a : Int) : St := stT (stT (stT (stT σ a 0) a 1) a 2) a 3
section CRTab
variable {E : EV} {d : Nat} {σ : St} {T : Tb} {a : Int}
theorem c_Table_init (hs : sh σ a = some (8, 4)) : WMv E m_Table_init (d + 1) [aP a] σ (fun τ => τ = st4 σ a) := by
  have h0 := (sh_len hs).1
  have s1 : sh (stT σ a 0) a = some (8, 4) := sh_pre (stT_pre _ _ _) hs
  have s2 : sh (stT (stT σ a 0) a 1) a = some (8, 4) := sh_pre (stT_pre _ _ _) s1
  have s3 : sh (stT (stT (stT σ a 0) a 1) a 2) a = some (8, 4) := sh_pre (stT_pre _ _ _) s2
  exact e_Table_init _ ⟨h0, sh_al hs, b_Table_init_12 _ ⟨sh_al s1, b_Table_init_20 _ ⟨sh_al s2, b_Table_init_28 _ ⟨sh_al s3, b_Table_init_36 ⟨rfl, ((stT_pre _ _ _).trans (stT_pre _ _ _)).trans ((stT_pre _ _ _).trans (stT_pre _ _ _)), rfl⟩⟩⟩⟩⟩
theorem st4_f (ha : a = σ.2.length) : σ.2 <+: (st4 σ a).2 ∧ (st4 σ a).2.length = σ.2.length + 4 ∧ tot (st4 σ a) = tot σ + 104 ∧ (∀ b j, b < a → (st4 σ a).1 b j = σ.1 b j) ∧ ((st4 σ a).1 a 0 = a + 1 ∧ (st4 σ a).1 a 1 = a + 2 ∧ (st4 σ a).1 a 2 = a + 3 ∧ (st4 σ a).1 a 3 = a + 4) ∧ (∀ j, (st4 σ a).1 (a + 1) j = 0 ∧ (st4 σ a).1 (a + 2) j = 0 ∧ (st4 σ a).1 (a + 3) j = 0 ∧ (st4 σ a).1 (a + 4) j = 0) ∧ sh (st4 σ a) (a + 1) = some (21, 26) ∧ sh (st4 σ a) (a + 2) = some (21, 26) ∧ sh (st4 σ a) (a + 3) = some (21, 26) ∧ sh (st4 σ a) (a + 4) = some (21, 26) := by
  have n0 : nx σ = a + 1 := by unfold nx; omega
  have n1 : nx (stT σ a 0) = a + 2 := by rw [stT_nx, n0]; omega
  have n2 : nx (stT (stT σ a 0) a 1) = a + 3 := by rw [stT_nx, n1]; omega
  have n3 : nx (stT (stT (stT σ a 0) a 1) a 2) = a + 4 := by rw [stT_nx, n2]; omega
  have v : ∀ b j, (st4 σ a).1 b j = if b = a ∧ j = 3 then a + 4 else if b = a + 4 then 0 else if b = a ∧ j = 2 then a + 3 else if b = a + 3 then 0 else if b = a ∧ j = 1 then a + 2 else if b = a + 2 then 0 else if b = a ∧ j = 0 then a + 1 else if b = a + 1 then 0 else σ.1 b j := fun b j => by
    unfold st4
    rw [stT_v, n3, stT_v, n2, stT_v, n1, stT_v, n0]
  refine ⟨((stT_pre _ _ _).trans (stT_pre _ _ _)).trans ((stT_pre _ _ _).trans (stT_pre _ _ _)), ?_, ?_, fun b j hb => ?_, ⟨?_, ?_, ?_, ?_⟩, fun j => ⟨?_, ?_, ?_, ?_⟩, ?_, ?_, ?_, ?_⟩
  · have e : nx (st4 σ a) = a + 5 := by unfold st4; rw [stT_nx, n3]; omega
    unfold nx at e
    omega
  · unfold st4; rw [stT_tot, stT_tot, stT_tot, stT_tot]
  · rw [v, if_neg (by omega), if_neg (by omega), if_neg (by omega), if_neg (by omega), if_neg (by omega), if_neg (by omega), if_neg (by omega), if_neg (by omega)]
  · rw [v, if_neg (by omega), if_neg (by omega), if_neg (by omega), if_neg (by omega), if_neg (by omega), if_neg (by omega), if_pos (by omega)]
  · rw [v, if_neg (by omega), if_neg (by omega), if_neg (by omega), if_neg (by omega), if_pos (by omega)]
  · rw [v, if_neg (by omega), if_neg (by omega), if_pos (by omega)]
  · rw [v, if_pos (by omega)]
  · rw [v, if_neg (by omega), if_neg (by omega), if_neg (by omega), if_neg (by omega), if_neg (by omega), if_neg (by omega), if_neg (by omega), if_pos (by omega)]
  · rw [v, if_neg (by omega), if_neg (by omega), if_neg (by omega), if_neg (by omega), if_neg (by omega), if_pos (by omega)]
  · rw [v, if_neg (by omega), if_neg (by omega), if_neg (by omega), if_pos (by omega)]
  · rw [v, if_neg (by omega), if_pos (by omega)]
  · have := stT_sh σ a 0
    rw [n0] at this
    exact sh_pre ((stT_pre _ _ _).trans ((stT_pre _ _ _).trans (stT_pre _ _ _))) this
  · have := stT_sh (stT σ a 0) a 1
    rw [n1] at this
    exact sh_pre ((stT_pre _ _ _).trans (stT_pre _ _ _)) this
  · have := stT_sh (stT (stT σ a 0) a 1) a 2
    rw [n2] at this
    exact sh_pre (stT_pre _ _ _) this
  · have := stT_sh (stT (stT (stT σ a 0) a 1) a 2) a 3
    rw [n3] at this
    exact this
def RTab (τ : St) (ta : Int) (T : Tb) : Prop := 92 < ta ∧ τ.1 12 7 = ta ∧ (τ.1 ta 0 = ta + 1 ∧ τ.1 ta 1 = ta + 2 ∧ τ.1 ta 2 = ta + 3 ∧ τ.1 ta 3 = ta + 4) ∧ TabC τ ta T
def rbX : List (Int × Int) := [(12, 1), (12, 5), (12, 6), (12, 7), (12, 8), (12, 9), (12, 10)]
theorem c_Reader_begin (hF : Fix σ) : WMv E m_Reader_begin (d + 2) [aP 12] σ (fun τ => Cf 5 108 rbX σ τ ∧ RTab τ (nx σ) T00 ∧ τ.2.length = σ.2.length + 5 ∧ τ.1 12 5 = σ.1 12 1 ∧ τ.1 12 1 = 0 ∧ τ.1 12 6 = 0 ∧ τ.1 12 8 = 0 ∧ τ.1 12 9 = 12 ∧ τ.1 12 10 = 1) := by
  have hl := hF.len
  have hn : nx (wr (wr (wr σ 12 5 (σ.1 12 1)) 12 1 0) 12 6 0) = nx σ := rfl
  have hnx : nx σ = (σ.2.length : Int) + 1 := rfl
  have f0 : Fr rbX σ (wr (wr (wr σ 12 5 (σ.1 12 1)) 12 1 0) 12 6 0) := ((Fr.wr (frO_k (by decide))).tr (Fr.wr (frO_k (by decide)))).tr (Fr.wr (frO_k (by decide)))
  have v5 : (wr (wr (wr σ 12 5 (σ.1 12 1)) 12 1 0) 12 6 0).1 12 5 = σ.1 12 1 := by rw [wr_nk _ (by decide), wr_nk _ (by decide), wr_same]
  have v1 : (wr (wr (wr σ 12 5 (σ.1 12 1)) 12 1 0) 12 6 0).1 12 1 = 0 := by rw [wr_nk _ (by decide), wr_same]
  have v6 : (wr (wr (wr σ 12 5 (σ.1 12 1)) 12 1 0) 12 6 0).1 12 6 = 0 := wr_same _ _ _ _
  refine e_Reader_begin hF ?_
  rw [hn]
  generalize wr (wr (wr σ 12 5 (σ.1 12 1)) 12 1 0) 12 6 0 = υ at *
  have hul : υ.2.length = σ.2.length := by rw [f0.1]
  have hal : (al υ 8 4).2.length = σ.2.length + 1 := by simp [al, hul]
  have hsh : sh (al υ 8 4) (nx σ) = some (8, 4) := by rw [← hn]; exact sh_nx υ 8 4
  have hta : nx σ = ((al υ 8 4).2.length : Int) := by rw [hal, hnx]; omega
  obtain ⟨g1, g2, g3, g4, g5, g6, g7, g8, g9, g10⟩ := st4_f hta
  refine ⟨nx_pos _, WMv.mono (c_Table_init hsh) (fun τ1 p1 q1 => ?_)⟩
  subst q1
  have ca : Cf 1 4 rbX υ (al υ 8 4) := Cf.al_ υ 8 4 rbX
  have c1 : Cf 5 108 rbX σ (st4 (al υ 8 4) (nx σ)) := by
    refine ⟨(f0.cf 0 0).1.trans (ca.1.trans g1), ⟨by rw [g2, hal]; omega, ?_⟩, fun b j hb hj => ?_⟩
    · rw [g3, tot_al]
      have : tot υ = tot σ := by unfold tot; rw [f0.1]
      omega
    · rw [g4 b j (by omega), al_old (by omega)]
      exact f0.2 b j hj
  have F1 := c1.fix hF (by decide)
  have oldv : ∀ j, (st4 (al υ 8 4) (nx σ)).1 12 j = υ.1 12 j := fun j => by rw [g4 12 j (by omega), al_old (by omega)]
  have c2 : Cf 5 108 rbX σ (wr (wr (wr (wr (st4 (al υ 8 4) (nx σ)) 12 7 (nx σ)) 12 8 0) 12 9 12) 12 10 1) := (((c1.wr_ (frO_k (by decide))).wr_ (frO_k (by decide))).wr_ (frO_k (by decide))).wr_ (frO_k (by decide))
  have ea : ∀ b, b ≠ 12 → (wr (wr (wr (wr (st4 (al υ 8 4) (nx σ)) 12 7 (nx σ)) 12 8 0) 12 9 12) 12 10 1).1 b = (st4 (al υ 8 4) (nx σ)).1 b := fun b hb => by funext k; rw [wr_na _ hb, wr_na _ hb, wr_na _ hb, wr_na _ hb]
  refine ⟨F1, rfl, c2.1, c2, ⟨by omega, ?_, ?_, ⟨⟨Or.inr (by omega), ?_⟩, ?_, ?_, fun l hll => ?_⟩⟩, ?_, ?_, ?_, ?_, ?_, ?_, ?_⟩
  · rw [wr_nk _ (by decide), wr_nk _ (by decide), wr_nk _ (by decide), wr_same]
  · rw [ea _ (by omega)]; exact g5
  · rw [ea _ (by omega), g5.1, g5.2.1, g5.2.2.1, g5.2.2.2]
    exact ⟨Or.inr (by omega), Or.inr (by omega), Or.inr (by omega), Or.inr (by omega)⟩
  · exact sh_pre g1 hsh
  · rw [ea _ (by omega), g5.1, g5.2.1, g5.2.2.1, g5.2.2.2]
    exact ⟨g7, g8, g9, g10⟩
  · rw [ea (nx σ) (by omega), g5.1, g5.2.1, g5.2.2.1, g5.2.2.2, ea (nx σ + 1) (by omega), ea (nx σ + 2) (by omega), ea (nx σ + 3) (by omega), ea (nx σ + 4) (by omega)]
    exact g6 l
  · show (st4 (al υ 8 4) (nx σ)).2.length = _
    rw [g2, hal]
  · rw [wr_nk _ (by decide), wr_nk _ (by decide), wr_nk _ (by decide), wr_nk _ (by decide), oldv, v5]
  · rw [wr_nk _ (by decide), wr_nk _ (by decide), wr_nk _ (by decide), wr_nk _ (by decide), oldv, v1]
  · rw [wr_nk _ (by decide), wr_nk _ (by decide), wr_nk _ (by decide), wr_nk _ (by decide), oldv, v6]
  · rw [wr_nk _ (by decide), wr_nk _ (by decide), wr_same]
  · rw [wr_nk _ (by decide), wr_same]
  · rw [wr_same]
def tbX (ta : Int) : List (Int × Int) := [(12, 6), (ta + 1, -1), (ta + 2, -1), (ta + 3, -1), (ta + 4, -1)]
theorem tb_bm {v : Int} (h : 0 ≤ v ∧ v ≤ 12) : Int.bmod v 256 = v := by apply Int.bmod_eq_of_le <;> omega
theorem c_Table_tell {l : Nat} {w h : Int} (hl : l < 26) (hR : RTab σ a T) (hw : 0 ≤ w ∧ w ≤ 12) (hh : 0 ≤ h ∧ h ≤ 12) : WMv E m_Table_tell d [aP a, aI l, aI w, aI h] σ (fun τ => Fr (tbX a) σ τ ∧ (∀ j, τ.1 12 j = σ.1 12 j) ∧ RTab τ a (setT T l (w, h, (T l).2.2))) := by
  obtain ⟨h92, h7, ⟨e0, e1, e2, e3⟩, hi, hs, ⟨s0, s1, s2, s3⟩, hv⟩ := hR
  rw [e0, e1, e2, e3] at hi
  rw [e0] at s0; rw [e1] at s1; rw [e2] at s2; rw [e3] at s3
  refine e_Table_tell _ _ _ _ ⟨by omega, fun c => by omega, fun _ => ⟨by omega, fun c => by omega, fun _ => ?_⟩⟩
  rw [tb_bm hw, tb_bm hh, e0]
  have ea : ∀ j, (wr σ (a + 1) l w).1 a j = σ.1 a j := fun j => wr_na _ (by omega)
  rw [ea, e1]
  refine ⟨hs, ⟨_, s0, by omega, by omega, by omega⟩, by omega, hs, ⟨_, s1, by omega, by omega, by omega⟩, by omega, rfl, List.prefix_refl _, ?_⟩
  have f1 : Fr (tbX a) σ (wr (wr σ (a + 1) l w) (a + 2) l h) := (Fr.wr (frO_a (by simp [tbX]) _)).tr (Fr.wr (frO_a (by simp [tbX]) _))
  have g0 : ∀ b j, b ≠ a + 1 → b ≠ a + 2 → (wr (wr σ (a + 1) l w) (a + 2) l h).1 b j = σ.1 b j := fun b j q1 q2 => by rw [wr_na _ q2, wr_na _ q1]
  refine ⟨f1, fun j => g0 12 j (by omega) (by omega), h92, (g0 12 7 (by omega) (by omega)).trans h7, ?_, ⟨?_, hs, ?_, fun k hk => ?_⟩⟩
  · rw [g0 a 0 (by omega) (by omega), g0 a 1 (by omega) (by omega), g0 a 2 (by omega) (by omega), g0 a 3 (by omega) (by omega)]; exact ⟨e0, e1, e2, e3⟩
  · rw [g0 a 0 (by omega) (by omega), g0 a 1 (by omega) (by omega), g0 a 2 (by omega) (by omega), g0 a 3 (by omega) (by omega), e0, e1, e2, e3]; exact hi
  · rw [g0 a 0 (by omega) (by omega), g0 a 1 (by omega) (by omega), g0 a 2 (by omega) (by omega), g0 a 3 (by omega) (by omega), e0, e1, e2, e3]; exact ⟨s0, s1, s2, s3⟩
  · rw [g0 a 0 (by omega) (by omega), g0 a 1 (by omega) (by omega), g0 a 2 (by omega) (by omega), g0 a 3 (by omega) (by omega), e0, e1, e2, e3]
    have hvk := hv k hk
    rw [e0, e1, e2, e3] at hvk
    rw [g0 (a + 3) k (by omega) (by omega), g0 (a + 4) k (by omega) (by omega), wr_na _ (show a + 1 ≠ a + 2 by omega), wr_at, wr_at, wr_na _ (show a + 2 ≠ a + 1 by omega)]
    by_cases q : k = l
    · subst q
      have es : setT T k (w, h, (T k).2.2) k = (w, h, (T k).2.2) := if_pos rfl
      rw [es]
      exact ⟨if_pos ⟨rfl, rfl⟩, if_pos ⟨rfl, rfl⟩, hvk.2.2.1, hvk.2.2.2⟩
    · have es : setT T l (w, h, (T l).2.2) k = T k := if_neg q
      rw [es]
      exact ⟨(if_neg (fun z => q (by omega))).trans hvk.1, (if_neg (fun z => q (by omega))).trans hvk.2.1, hvk.2.2.1, hvk.2.2.2⟩
theorem c_Table_tellCore {l : Nat} {w h : Int} (hl : l < 26) (hR : RTab σ a T) (hw : 0 ≤ w ∧ w ≤ 12) (hh : 0 ≤ h ∧ h ≤ 12) : WMv E m_Table_tellCore d [aP a, aI l, aI w, aI h] σ (fun τ => Fr (tbX a) σ τ ∧ (∀ j, τ.1 12 j = σ.1 12 j) ∧ RTab τ a (setT T l ((T l).1, (T l).2.1, w, h))) := by
  obtain ⟨h92, h7, ⟨e0, e1, e2, e3⟩, hi, hs, ⟨s0, s1, s2, s3⟩, hv⟩ := hR
  rw [e0, e1, e2, e3] at hi
  rw [e0] at s0; rw [e1] at s1; rw [e2] at s2; rw [e3] at s3
  refine e_Table_tellCore _ _ _ _ ⟨by omega, fun c => by omega, fun _ => ⟨by omega, fun c => by omega, fun _ => ?_⟩⟩
  rw [tb_bm hw, tb_bm hh, e2]
  have ea : ∀ j, (wr σ (a + 3) l w).1 a j = σ.1 a j := fun j => wr_na _ (by omega)
  rw [ea, e3]
  refine ⟨hs, ⟨_, s2, by omega, by omega, by omega⟩, by omega, hs, ⟨_, s3, by omega, by omega, by omega⟩, by omega, rfl, List.prefix_refl _, ?_⟩
  have f1 : Fr (tbX a) σ (wr (wr σ (a + 3) l w) (a + 4) l h) := (Fr.wr (frO_a (by simp [tbX]) _)).tr (Fr.wr (frO_a (by simp [tbX]) _))
  have g0 : ∀ b j, b ≠ a + 3 → b ≠ a + 4 → (wr (wr σ (a + 3) l w) (a + 4) l h).1 b j = σ.1 b j := fun b j q1 q2 => by rw [wr_na _ q2, wr_na _ q1]
  refine ⟨f1, fun j => g0 12 j (by omega) (by omega), h92, (g0 12 7 (by omega) (by omega)).trans h7, ?_, ⟨?_, hs, ?_, fun k hk => ?_⟩⟩
  · rw [g0 a 0 (by omega) (by omega), g0 a 1 (by omega) (by omega), g0 a 2 (by omega) (by omega), g0 a 3 (by omega) (by omega)]; exact ⟨e0, e1, e2, e3⟩
  · rw [g0 a 0 (by omega) (by omega), g0 a 1 (by omega) (by omega), g0 a 2 (by omega) (by omega), g0 a 3 (by omega) (by omega), e0, e1, e2, e3]; exact hi
  · rw [g0 a 0 (by omega) (by omega), g0 a 1 (by omega) (by omega), g0 a 2 (by omega) (by omega), g0 a 3 (by omega) (by omega), e0, e1, e2, e3]; exact ⟨s0, s1, s2, s3⟩
  · rw [g0 a 0 (by omega) (by omega), g0 a 1 (by omega) (by omega), g0 a 2 (by omega) (by omega), g0 a 3 (by omega) (by omega), e0, e1, e2, e3]
    have hvk := hv k hk
    rw [e0, e1, e2, e3] at hvk
    rw [g0 (a + 1) k (by omega) (by omega), g0 (a + 2) k (by omega) (by omega), wr_na _ (show a + 3 ≠ a + 4 by omega), wr_at, wr_at, wr_na _ (show a + 4 ≠ a + 3 by omega)]
    by_cases q : k = l
    · subst q
      have es : setT T k ((T k).1, (T k).2.1, w, h) k = ((T k).1, (T k).2.1, w, h) := if_pos rfl
      rw [es]
      exact ⟨hvk.1, hvk.2.1, if_pos ⟨rfl, rfl⟩, if_pos ⟨rfl, rfl⟩⟩
    · have es : setT T l ((T l).1, (T l).2.1, w, h) k = T k := if_neg q
      rw [es]
      exact ⟨hvk.1, hvk.2.1, (if_neg (fun z => q (by omega))).trans hvk.2.2.1, (if_neg (fun z => q (by omega))).trans hvk.2.2.2⟩
theorem RTab.go {τ : St} (h : RTab σ a T) (hf : Fr atX σ τ) : RTab τ a T := by
  obtain ⟨h92, h7, h4, h5⟩ := h
  refine ⟨h92, (hf.2 _ _ rfl).trans h7, ?_, h5.cf (hf.cf 0 0) rfl⟩
  have e : ∀ k, τ.1 a k = σ.1 a k := fun k => hf.2 _ _ (by simp [atX, frO]; omega)
  rw [e, e, e, e]
  exact h4
end CRTab
