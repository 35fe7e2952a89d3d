def FS : List (Nat × Nat) := [(9, 9), (8, 4), (21, 26), (21, 26), (21, 26), (21, 26), (4, 3), (25, 0), (26, 12), (1, 2), (21, 24), (5, 12), (21, 400), (1, 2), (21, 24), (24, 8), (25, 4), (8, 4), (21, 26), (21, 26), (21, 26), (21, 26), (2, 8), (20, 24), (20, 24), (20, 24), (22, 24), (22, 24), (22, 24), (22, 24), (6, 9), (0, 14), (20, 680), (20, 680), (20, 680), (20, 680), (20, 680), (20, 680), (22, 680), (20, 49), (20, 49), (10, 74), (20, 26), (20, 26), (20, 26), (20, 26), (20, 683), (20, 683), (20, 8196), (20, 24), (20, 48), (20, 24), (20, 24), (20, 24), (22, 12), (22, 12), (22, 12), (22, 12), (22, 12), (22, 12), (20, 24), (20, 24), (20, 24), (20, 2600), (20, 24), (20, 24), (20, 24), (23, 24), (20, 3084), (20, 7), (20, 8), (20, 24), (20, 10), (20, 24), (20, 80), (20, 400), (21, 29), (20, 26), (20, 26), (20, 26), (20, 26), (20, 200), (20, 200), (20, 200), (20, 200), (20, 200), (20, 200), (20, 200), (20, 8), (20, 8), (20, 8), (20, 48)]
def FF : List (Int × Int × Int) := [(1, 2, 9), (1, 4, 10), (1, 5, 12), (1, 6, 23), (1, 7, 31), (1, 8, 32), (10, 0, 11), (12, 0, 13), (12, 2, 14), (12, 3, 16), (12, 4, 17), (14, 0, 15), (23, 0, 24), (23, 1, 25), (23, 2, 26), (23, 3, 27), (23, 4, 28), (23, 5, 29), (23, 6, 30), (32, 0, 33), (32, 1, 34), (32, 2, 35), (32, 3, 36), (32, 4, 37), (32, 5, 38), (32, 6, 39), (32, 8, 40), (32, 9, 41), (42, 1, 43), (42, 2, 44), (42, 3, 45), (42, 4, 46), (42, 5, 47), (42, 6, 48), (42, 7, 49), (42, 9, 50), (42, 11, 51), (42, 13, 52), (42, 14, 53), (42, 15, 54), (42, 18, 55), (42, 19, 56), (42, 20, 57), (42, 21, 58), (42, 22, 59), (42, 23, 60), (42, 24, 61), (42, 25, 62), (42, 26, 63), (42, 28, 64), (42, 30, 65), (42, 31, 66), (42, 32, 67), (42, 33, 68), (42, 34, 69), (42, 35, 70), (42, 36, 71), (42, 37, 72), (42, 38, 73), (42, 40, 74), (42, 44, 75), (42, 46, 76), (42, 48, 77), (42, 54, 78), (42, 55, 79), (42, 56, 80), (42, 57, 81), (42, 59, 82), (42, 60, 83), (42, 61, 84), (42, 62, 85), (42, 63, 86), (42, 64, 87), (42, 65, 88), (42, 67, 89), (42, 68, 90), (42, 69, 91), (42, 73, 92)]
/-- what never changes once both objects are made: the shapes, the final references -/
def Fix (σ : St) : Prop := (∀ i, i < 92 → σ.2[i]? = FS[i]?) ∧ ∀ q ∈ FF, σ.1 q.1 q.2.1 = q.2.2
theorem Fix.sh_at {σ : St} (h : Fix σ) {q : Nat × Nat} (i : Nat) (hq : FS[i]? = some q) : sh σ ((i : Int) + 1) = some q := by
  unfold sh
  have hi : i < 92 := (List.getElem?_eq_some_iff.mp hq).1
  have e1 : ((i : Int) + 1 - 1).toNat = i := by omega
  rw [if_pos (by omega), e1, h.1 i hi, hq]
theorem Fix.len {σ : St} (h : Fix σ) : 92 ≤ σ.2.length := by
  have h1 := h.1 (92 - 1) (by decide)
  have h2 : σ.2[92 - 1]?.isSome = true := by rw [h1]; decide
  have h3 := List.getElem?_eq_some_iff.mp (Option.eq_some_of_isSome h2)
  have h4 := h3.1
  omega
theorem Fix.wa {σ : St} (h : Fix σ) {a i v : Int} (ha : FF.all (fun q => q.1 != a) = true) : Fix (wr σ a i v) := by
  refine ⟨h.1, fun q hq => ?_⟩
  have h1 := List.all_eq_true.mp ha q hq
  have h2 : ¬ (q.1 = a ∧ q.2.1 = i) := fun x => by simp [x.1] at h1
  show (if q.1 = a ∧ q.2.1 = i then v else σ.1 q.1 q.2.1) = q.2.2
  rw [if_neg h2]
  exact h.2 q hq
theorem Fix.wf {σ : St} (h : Fix σ) {a k v : Int} (ha : FF.all (fun q => q.1 != a || q.2.1 != k) = true) : Fix (wr σ a k v) := by
  refine ⟨h.1, fun q hq => ?_⟩
  have h1 := List.all_eq_true.mp ha q hq
  have h2 : ¬ (q.1 = a ∧ q.2.1 = k) := fun x => by simp [x.1, x.2] at h1
  show (if q.1 = a ∧ q.2.1 = k then v else σ.1 q.1 q.2.1) = q.2.2
  rw [if_neg h2]
  exact h.2 q hq
theorem Fix.wd {σ : St} (h : Fix σ) {a i v : Int} (ha : 92 < a) : Fix (wr σ a i v) := by
  refine ⟨h.1, fun q hq => ?_⟩
  have h0 : FF.all (fun q => decide (q.1 ≤ 92)) = true := by decide
  have h1 := List.all_eq_true.mp h0 q hq
  have h2 : ¬ (q.1 = a ∧ q.2.1 = i) := fun x => by have := of_decide_eq_true h1; omega
  show (if q.1 = a ∧ q.2.1 = i then v else σ.1 q.1 q.2.1) = q.2.2
  rw [if_neg h2]
  exact h.2 q hq
theorem Fix.al_ {σ : St} (h : Fix σ) {k n : Nat} : Fix (al σ k n) := by
  have hl := h.len
  refine ⟨fun i hi => ?_, fun q hq => ?_⟩
  · show (σ.2 ++ [(k, n)])[i]? = _
    rw [List.getElem?_append_left (by omega)]
    exact h.1 i hi
  · have h0 : FF.all (fun q => decide (q.1 ≤ 92)) = true := by decide
    have h1 := of_decide_eq_true (List.all_eq_true.mp h0 q hq)
    show (if q.1 = nx σ then 0 else σ.1 q.1 q.2.1) = q.2.2
    rw [if_neg (by unfold nx; omega)]
    exact h.2 q hq
/-- the fixed part is kept if the shapes only grow and the final references stay -/
theorem Fix.of {σ τ : St} (h : Fix σ) (hp : σ.2 <+: τ.2) (hf : ∀ q ∈ FF, τ.1 q.1 q.2.1 = σ.1 q.1 q.2.1) : Fix τ := by
  have hl := h.len
  refine ⟨fun i hi => ?_, fun q hq => (hf q hq).trans (h.2 q hq)⟩
  obtain ⟨t, ht⟩ := hp
  rw [← ht, List.getElem?_append_left (by omega)]
  exact h.1 i hi
theorem sf_1 {σ : St} (h : Fix σ) : sh σ 1 = some (9, 9) := h.sh_at 0 rfl
theorem sf_2 {σ : St} (h : Fix σ) : sh σ 2 = some (8, 4) := h.sh_at 1 rfl
theorem sf_3 {σ : St} (h : Fix σ) : sh σ 3 = some (21, 26) := h.sh_at 2 rfl
theorem sf_4 {σ : St} (h : Fix σ) : sh σ 4 = some (21, 26) := h.sh_at 3 rfl
theorem sf_5 {σ : St} (h : Fix σ) : sh σ 5 = some (21, 26) := h.sh_at 4 rfl
theorem sf_6 {σ : St} (h : Fix σ) : sh σ 6 = some (21, 26) := h.sh_at 5 rfl
theorem sf_7 {σ : St} (h : Fix σ) : sh σ 7 = some (4, 3) := h.sh_at 6 rfl
theorem sf_8 {σ : St} (h : Fix σ) : sh σ 8 = some (25, 0) := h.sh_at 7 rfl
theorem sf_9 {σ : St} (h : Fix σ) : sh σ 9 = some (26, 12) := h.sh_at 8 rfl
theorem sf_10 {σ : St} (h : Fix σ) : sh σ 10 = some (1, 2) := h.sh_at 9 rfl
theorem sf_11 {σ : St} (h : Fix σ) : sh σ 11 = some (21, 24) := h.sh_at 10 rfl
theorem sf_12 {σ : St} (h : Fix σ) : sh σ 12 = some (5, 12) := h.sh_at 11 rfl
theorem sf_13 {σ : St} (h : Fix σ) : sh σ 13 = some (21, 400) := h.sh_at 12 rfl
theorem sf_14 {σ : St} (h : Fix σ) : sh σ 14 = some (1, 2) := h.sh_at 13 rfl
theorem sf_15 {σ : St} (h : Fix σ) : sh σ 15 = some (21, 24) := h.sh_at 14 rfl
theorem sf_16 {σ : St} (h : Fix σ) : sh σ 16 = some (24, 8) := h.sh_at 15 rfl
theorem sf_17 {σ : St} (h : Fix σ) : sh σ 17 = some (25, 4) := h.sh_at 16 rfl
theorem sf_18 {σ : St} (h : Fix σ) : sh σ 18 = some (8, 4) := h.sh_at 17 rfl
theorem sf_19 {σ : St} (h : Fix σ) : sh σ 19 = some (21, 26) := h.sh_at 18 rfl
theorem sf_20 {σ : St} (h : Fix σ) : sh σ 20 = some (21, 26) := h.sh_at 19 rfl
theorem sf_21 {σ : St} (h : Fix σ) : sh σ 21 = some (21, 26) := h.sh_at 20 rfl
theorem sf_22 {σ : St} (h : Fix σ) : sh σ 22 = some (21, 26) := h.sh_at 21 rfl
theorem sf_23 {σ : St} (h : Fix σ) : sh σ 23 = some (2, 8) := h.sh_at 22 rfl
theorem sf_24 {σ : St} (h : Fix σ) : sh σ 24 = some (20, 24) := h.sh_at 23 rfl
theorem sf_25 {σ : St} (h : Fix σ) : sh σ 25 = some (20, 24) := h.sh_at 24 rfl
theorem sf_26 {σ : St} (h : Fix σ) : sh σ 26 = some (20, 24) := h.sh_at 25 rfl
theorem sf_27 {σ : St} (h : Fix σ) : sh σ 27 = some (22, 24) := h.sh_at 26 rfl
theorem sf_28 {σ : St} (h : Fix σ) : sh σ 28 = some (22, 24) := h.sh_at 27 rfl
theorem sf_29 {σ : St} (h : Fix σ) : sh σ 29 = some (22, 24) := h.sh_at 28 rfl
theorem sf_30 {σ : St} (h : Fix σ) : sh σ 30 = some (22, 24) := h.sh_at 29 rfl
theorem sf_31 {σ : St} (h : Fix σ) : sh σ 31 = some (6, 9) := h.sh_at 30 rfl
theorem sf_32 {σ : St} (h : Fix σ) : sh σ 32 = some (0, 14) := h.sh_at 31 rfl
theorem sf_33 {σ : St} (h : Fix σ) : sh σ 33 = some (20, 680) := h.sh_at 32 rfl
theorem sf_34 {σ : St} (h : Fix σ) : sh σ 34 = some (20, 680) := h.sh_at 33 rfl
theorem sf_35 {σ : St} (h : Fix σ) : sh σ 35 = some (20, 680) := h.sh_at 34 rfl
theorem sf_36 {σ : St} (h : Fix σ) : sh σ 36 = some (20, 680) := h.sh_at 35 rfl
theorem sf_37 {σ : St} (h : Fix σ) : sh σ 37 = some (20, 680) := h.sh_at 36 rfl
theorem sf_38 {σ : St} (h : Fix σ) : sh σ 38 = some (20, 680) := h.sh_at 37 rfl
theorem sf_39 {σ : St} (h : Fix σ) : sh σ 39 = some (22, 680) := h.sh_at 38 rfl
theorem sf_40 {σ : St} (h : Fix σ) : sh σ 40 = some (20, 49) := h.sh_at 39 rfl
theorem sf_41 {σ : St} (h : Fix σ) : sh σ 41 = some (20, 49) := h.sh_at 40 rfl
theorem sf_42 {σ : St} (h : Fix σ) : sh σ 42 = some (10, 74) := h.sh_at 41 rfl
theorem sf_43 {σ : St} (h : Fix σ) : sh σ 43 = some (20, 26) := h.sh_at 42 rfl
theorem sf_44 {σ : St} (h : Fix σ) : sh σ 44 = some (20, 26) := h.sh_at 43 rfl
theorem sf_45 {σ : St} (h : Fix σ) : sh σ 45 = some (20, 26) := h.sh_at 44 rfl
theorem sf_46 {σ : St} (h : Fix σ) : sh σ 46 = some (20, 26) := h.sh_at 45 rfl
theorem sf_47 {σ : St} (h : Fix σ) : sh σ 47 = some (20, 683) := h.sh_at 46 rfl
theorem sf_48 {σ : St} (h : Fix σ) : sh σ 48 = some (20, 683) := h.sh_at 47 rfl
theorem sf_49 {σ : St} (h : Fix σ) : sh σ 49 = some (20, 8196) := h.sh_at 48 rfl
theorem sf_50 {σ : St} (h : Fix σ) : sh σ 50 = some (20, 24) := h.sh_at 49 rfl
theorem sf_51 {σ : St} (h : Fix σ) : sh σ 51 = some (20, 48) := h.sh_at 50 rfl
theorem sf_52 {σ : St} (h : Fix σ) : sh σ 52 = some (20, 24) := h.sh_at 51 rfl
theorem sf_53 {σ : St} (h : Fix σ) : sh σ 53 = some (20, 24) := h.sh_at 52 rfl
theorem sf_54 {σ : St} (h : Fix σ) : sh σ 54 = some (20, 24) := h.sh_at 53 rfl
theorem sf_55 {σ : St} (h : Fix σ) : sh σ 55 = some (22, 12) := h.sh_at 54 rfl
theorem sf_56 {σ : St} (h : Fix σ) : sh σ 56 = some (22, 12) := h.sh_at 55 rfl
theorem sf_57 {σ : St} (h : Fix σ) : sh σ 57 = some (22, 12) := h.sh_at 56 rfl
theorem sf_58 {σ : St} (h : Fix σ) : sh σ 58 = some (22, 12) := h.sh_at 57 rfl
theorem sf_59 {σ : St} (h : Fix σ) : sh σ 59 = some (22, 12) := h.sh_at 58 rfl
theorem sf_60 {σ : St} (h : Fix σ) : sh σ 60 = some (22, 12) := h.sh_at 59 rfl
theorem sf_61 {σ : St} (h : Fix σ) : sh σ 61 = some (20, 24) := h.sh_at 60 rfl
theorem sf_62 {σ : St} (h : Fix σ) : sh σ 62 = some (20, 24) := h.sh_at 61 rfl
theorem sf_63 {σ : St} (h : Fix σ) : sh σ 63 = some (20, 24) := h.sh_at 62 rfl
theorem sf_64 {σ : St} (h : Fix σ) : sh σ 64 = some (20, 2600) := h.sh_at 63 rfl
theorem sf_65 {σ : St} (h : Fix σ) : sh σ 65 = some (20, 24) := h.sh_at 64 rfl
theorem sf_66 {σ : St} (h : Fix σ) : sh σ 66 = some (20, 24) := h.sh_at 65 rfl
theorem sf_67 {σ : St} (h : Fix σ) : sh σ 67 = some (20, 24) := h.sh_at 66 rfl
theorem sf_68 {σ : St} (h : Fix σ) : sh σ 68 = some (23, 24) := h.sh_at 67 rfl
theorem sf_69 {σ : St} (h : Fix σ) : sh σ 69 = some (20, 3084) := h.sh_at 68 rfl
theorem sf_70 {σ : St} (h : Fix σ) : sh σ 70 = some (20, 7) := h.sh_at 69 rfl
theorem sf_71 {σ : St} (h : Fix σ) : sh σ 71 = some (20, 8) := h.sh_at 70 rfl
theorem sf_72 {σ : St} (h : Fix σ) : sh σ 72 = some (20, 24) := h.sh_at 71 rfl
theorem sf_73 {σ : St} (h : Fix σ) : sh σ 73 = some (20, 10) := h.sh_at 72 rfl
theorem sf_74 {σ : St} (h : Fix σ) : sh σ 74 = some (20, 24) := h.sh_at 73 rfl
theorem sf_75 {σ : St} (h : Fix σ) : sh σ 75 = some (20, 80) := h.sh_at 74 rfl
theorem sf_76 {σ : St} (h : Fix σ) : sh σ 76 = some (20, 400) := h.sh_at 75 rfl
theorem sf_77 {σ : St} (h : Fix σ) : sh σ 77 = some (21, 29) := h.sh_at 76 rfl
theorem sf_78 {σ : St} (h : Fix σ) : sh σ 78 = some (20, 26) := h.sh_at 77 rfl
theorem sf_79 {σ : St} (h : Fix σ) : sh σ 79 = some (20, 26) := h.sh_at 78 rfl
theorem sf_80 {σ : St} (h : Fix σ) : sh σ 80 = some (20, 26) := h.sh_at 79 rfl
theorem sf_81 {σ : St} (h : Fix σ) : sh σ 81 = some (20, 26) := h.sh_at 80 rfl
theorem sf_82 {σ : St} (h : Fix σ) : sh σ 82 = some (20, 200) := h.sh_at 81 rfl
theorem sf_83 {σ : St} (h : Fix σ) : sh σ 83 = some (20, 200) := h.sh_at 82 rfl
theorem sf_84 {σ : St} (h : Fix σ) : sh σ 84 = some (20, 200) := h.sh_at 83 rfl
theorem sf_85 {σ : St} (h : Fix σ) : sh σ 85 = some (20, 200) := h.sh_at 84 rfl
theorem sf_86 {σ : St} (h : Fix σ) : sh σ 86 = some (20, 200) := h.sh_at 85 rfl
theorem sf_87 {σ : St} (h : Fix σ) : sh σ 87 = some (20, 200) := h.sh_at 86 rfl
theorem sf_88 {σ : St} (h : Fix σ) : sh σ 88 = some (20, 200) := h.sh_at 87 rfl
theorem sf_89 {σ : St} (h : Fix σ) : sh σ 89 = some (20, 8) := h.sh_at 88 rfl
theorem sf_90 {σ : St} (h : Fix σ) : sh σ 90 = some (20, 8) := h.sh_at 89 rfl
theorem sf_91 {σ : St} (h : Fix σ) : sh σ 91 = some (20, 8) := h.sh_at 90 rfl
theorem sf_92 {σ : St} (h : Fix σ) : sh σ 92 = some (20, 48) := h.sh_at 91 rfl
theorem ff_0 {σ : St} (h : Fix σ) : σ.1 1 2 = 9 := h.2 _ (List.mem_of_getElem? (i := 0) rfl)
theorem ff_1 {σ : St} (h : Fix σ) : σ.1 1 4 = 10 := h.2 _ (List.mem_of_getElem? (i := 1) rfl)
theorem ff_2 {σ : St} (h : Fix σ) : σ.1 1 5 = 12 := h.2 _ (List.mem_of_getElem? (i := 2) rfl)
theorem ff_3 {σ : St} (h : Fix σ) : σ.1 1 6 = 23 := h.2 _ (List.mem_of_getElem? (i := 3) rfl)
theorem ff_4 {σ : St} (h : Fix σ) : σ.1 1 7 = 31 := h.2 _ (List.mem_of_getElem? (i := 4) rfl)
theorem ff_5 {σ : St} (h : Fix σ) : σ.1 1 8 = 32 := h.2 _ (List.mem_of_getElem? (i := 5) rfl)
theorem ff_6 {σ : St} (h : Fix σ) : σ.1 10 0 = 11 := h.2 _ (List.mem_of_getElem? (i := 6) rfl)
theorem ff_7 {σ : St} (h : Fix σ) : σ.1 12 0 = 13 := h.2 _ (List.mem_of_getElem? (i := 7) rfl)
theorem ff_8 {σ : St} (h : Fix σ) : σ.1 12 2 = 14 := h.2 _ (List.mem_of_getElem? (i := 8) rfl)
theorem ff_9 {σ : St} (h : Fix σ) : σ.1 12 3 = 16 := h.2 _ (List.mem_of_getElem? (i := 9) rfl)
theorem ff_10 {σ : St} (h : Fix σ) : σ.1 12 4 = 17 := h.2 _ (List.mem_of_getElem? (i := 10) rfl)
theorem ff_11 {σ : St} (h : Fix σ) : σ.1 14 0 = 15 := h.2 _ (List.mem_of_getElem? (i := 11) rfl)
theorem ff_12 {σ : St} (h : Fix σ) : σ.1 23 0 = 24 := h.2 _ (List.mem_of_getElem? (i := 12) rfl)
theorem ff_13 {σ : St} (h : Fix σ) : σ.1 23 1 = 25 := h.2 _ (List.mem_of_getElem? (i := 13) rfl)
theorem ff_14 {σ : St} (h : Fix σ) : σ.1 23 2 = 26 := h.2 _ (List.mem_of_getElem? (i := 14) rfl)
theorem ff_15 {σ : St} (h : Fix σ) : σ.1 23 3 = 27 := h.2 _ (List.mem_of_getElem? (i := 15) rfl)
theorem ff_16 {σ : St} (h : Fix σ) : σ.1 23 4 = 28 := h.2 _ (List.mem_of_getElem? (i := 16) rfl)
theorem ff_17 {σ : St} (h : Fix σ) : σ.1 23 5 = 29 := h.2 _ (List.mem_of_getElem? (i := 17) rfl)
theorem ff_18 {σ : St} (h : Fix σ) : σ.1 23 6 = 30 := h.2 _ (List.mem_of_getElem? (i := 18) rfl)
theorem ff_19 {σ : St} (h : Fix σ) : σ.1 32 0 = 33 := h.2 _ (List.mem_of_getElem? (i := 19) rfl)
theorem ff_20 {σ : St} (h : Fix σ) : σ.1 32 1 = 34 := h.2 _ (List.mem_of_getElem? (i := 20) rfl)
theorem ff_21 {σ : St} (h : Fix σ) : σ.1 32 2 = 35 := h.2 _ (List.mem_of_getElem? (i := 21) rfl)
theorem ff_22 {σ : St} (h : Fix σ) : σ.1 32 3 = 36 := h.2 _ (List.mem_of_getElem? (i := 22) rfl)
theorem ff_23 {σ : St} (h : Fix σ) : σ.1 32 4 = 37 := h.2 _ (List.mem_of_getElem? (i := 23) rfl)
theorem ff_24 {σ : St} (h : Fix σ) : σ.1 32 5 = 38 := h.2 _ (List.mem_of_getElem? (i := 24) rfl)
theorem ff_25 {σ : St} (h : Fix σ) : σ.1 32 6 = 39 := h.2 _ (List.mem_of_getElem? (i := 25) rfl)
theorem ff_26 {σ : St} (h : Fix σ) : σ.1 32 8 = 40 := h.2 _ (List.mem_of_getElem? (i := 26) rfl)
theorem ff_27 {σ : St} (h : Fix σ) : σ.1 32 9 = 41 := h.2 _ (List.mem_of_getElem? (i := 27) rfl)
theorem ff_28 {σ : St} (h : Fix σ) : σ.1 42 1 = 43 := h.2 _ (List.mem_of_getElem? (i := 28) rfl)
theorem ff_29 {σ : St} (h : Fix σ) : σ.1 42 2 = 44 := h.2 _ (List.mem_of_getElem? (i := 29) rfl)
theorem ff_30 {σ : St} (h : Fix σ) : σ.1 42 3 = 45 := h.2 _ (List.mem_of_getElem? (i := 30) rfl)
theorem ff_31 {σ : St} (h : Fix σ) : σ.1 42 4 = 46 := h.2 _ (List.mem_of_getElem? (i := 31) rfl)
theorem ff_32 {σ : St} (h : Fix σ) : σ.1 42 5 = 47 := h.2 _ (List.mem_of_getElem? (i := 32) rfl)
theorem ff_33 {σ : St} (h : Fix σ) : σ.1 42 6 = 48 := h.2 _ (List.mem_of_getElem? (i := 33) rfl)
theorem ff_34 {σ : St} (h : Fix σ) : σ.1 42 7 = 49 := h.2 _ (List.mem_of_getElem? (i := 34) rfl)
theorem ff_35 {σ : St} (h : Fix σ) : σ.1 42 9 = 50 := h.2 _ (List.mem_of_getElem? (i := 35) rfl)
theorem ff_36 {σ : St} (h : Fix σ) : σ.1 42 11 = 51 := h.2 _ (List.mem_of_getElem? (i := 36) rfl)
theorem ff_37 {σ : St} (h : Fix σ) : σ.1 42 13 = 52 := h.2 _ (List.mem_of_getElem? (i := 37) rfl)
theorem ff_38 {σ : St} (h : Fix σ) : σ.1 42 14 = 53 := h.2 _ (List.mem_of_getElem? (i := 38) rfl)
theorem ff_39 {σ : St} (h : Fix σ) : σ.1 42 15 = 54 := h.2 _ (List.mem_of_getElem? (i := 39) rfl)
theorem ff_40 {σ : St} (h : Fix σ) : σ.1 42 18 = 55 := h.2 _ (List.mem_of_getElem? (i := 40) rfl)
theorem ff_41 {σ : St} (h : Fix σ) : σ.1 42 19 = 56 := h.2 _ (List.mem_of_getElem? (i := 41) rfl)
theorem ff_42 {σ : St} (h : Fix σ) : σ.1 42 20 = 57 := h.2 _ (List.mem_of_getElem? (i := 42) rfl)
theorem ff_43 {σ : St} (h : Fix σ) : σ.1 42 21 = 58 := h.2 _ (List.mem_of_getElem? (i := 43) rfl)
theorem ff_44 {σ : St} (h : Fix σ) : σ.1 42 22 = 59 := h.2 _ (List.mem_of_getElem? (i := 44) rfl)
theorem ff_45 {σ : St} (h : Fix σ) : σ.1 42 23 = 60 := h.2 _ (List.mem_of_getElem? (i := 45) rfl)
theorem ff_46 {σ : St} (h : Fix σ) : σ.1 42 24 = 61 := h.2 _ (List.mem_of_getElem? (i := 46) rfl)
theorem ff_47 {σ : St} (h : Fix σ) : σ.1 42 25 = 62 := h.2 _ (List.mem_of_getElem? (i := 47) rfl)
theorem ff_48 {σ : St} (h : Fix σ) : σ.1 42 26 = 63 := h.2 _ (List.mem_of_getElem? (i := 48) rfl)
theorem ff_49 {σ : St} (h : Fix σ) : σ.1 42 28 = 64 := h.2 _ (List.mem_of_getElem? (i := 49) rfl)
theorem ff_50 {σ : St} (h : Fix σ) : σ.1 42 30 = 65 := h.2 _ (List.mem_of_getElem? (i := 50) rfl)
theorem ff_51 {σ : St} (h : Fix σ) : σ.1 42 31 = 66 := h.2 _ (List.mem_of_getElem? (i := 51) rfl)
theorem ff_52 {σ : St} (h : Fix σ) : σ.1 42 32 = 67 := h.2 _ (List.mem_of_getElem? (i := 52) rfl)
theorem ff_53 {σ : St} (h : Fix σ) : σ.1 42 33 = 68 := h.2 _ (List.mem_of_getElem? (i := 53) rfl)
theorem ff_54 {σ : St} (h : Fix σ) : σ.1 42 34 = 69 := h.2 _ (List.mem_of_getElem? (i := 54) rfl)
theorem ff_55 {σ : St} (h : Fix σ) : σ.1 42 35 = 70 := h.2 _ (List.mem_of_getElem? (i := 55) rfl)
theorem ff_56 {σ : St} (h : Fix σ) : σ.1 42 36 = 71 := h.2 _ (List.mem_of_getElem? (i := 56) rfl)
theorem ff_57 {σ : St} (h : Fix σ) : σ.1 42 37 = 72 := h.2 _ (List.mem_of_getElem? (i := 57) rfl)
theorem ff_58 {σ : St} (h : Fix σ) : σ.1 42 38 = 73 := h.2 _ (List.mem_of_getElem? (i := 58) rfl)
theorem ff_59 {σ : St} (h : Fix σ) : σ.1 42 40 = 74 := h.2 _ (List.mem_of_getElem? (i := 59) rfl)
theorem ff_60 {σ : St} (h : Fix σ) : σ.1 42 44 = 75 := h.2 _ (List.mem_of_getElem? (i := 60) rfl)
theorem ff_61 {σ : St} (h : Fix σ) : σ.1 42 46 = 76 := h.2 _ (List.mem_of_getElem? (i := 61) rfl)
theorem ff_62 {σ : St} (h : Fix σ) : σ.1 42 48 = 77 := h.2 _ (List.mem_of_getElem? (i := 62) rfl)
theorem ff_63 {σ : St} (h : Fix σ) : σ.1 42 54 = 78 := h.2 _ (List.mem_of_getElem? (i := 63) rfl)
theorem ff_64 {σ : St} (h : Fix σ) : σ.1 42 55 = 79 := h.2 _ (List.mem_of_getElem? (i := 64) rfl)
theorem ff_65 {σ : St} (h : Fix σ) : σ.1 42 56 = 80 := h.2 _ (List.mem_of_getElem? (i := 65) rfl)
theorem ff_66 {σ : St} (h : Fix σ) : σ.1 42 57 = 81 := h.2 _ (List.mem_of_getElem? (i := 66) rfl)
theorem ff_67 {σ : St} (h : Fix σ) : σ.1 42 59 = 82 := h.2 _ (List.mem_of_getElem? (i := 67) rfl)
theorem ff_68 {σ : St} (h : Fix σ) : σ.1 42 60 = 83 := h.2 _ (List.mem_of_getElem? (i := 68) rfl)
theorem ff_69 {σ : St} (h : Fix σ) : σ.1 42 61 = 84 := h.2 _ (List.mem_of_getElem? (i := 69) rfl)
theorem ff_70 {σ : St} (h : Fix σ) : σ.1 42 62 = 85 := h.2 _ (List.mem_of_getElem? (i := 70) rfl)
theorem ff_71 {σ : St} (h : Fix σ) : σ.1 42 63 = 86 := h.2 _ (List.mem_of_getElem? (i := 71) rfl)
theorem ff_72 {σ : St} (h : Fix σ) : σ.1 42 64 = 87 := h.2 _ (List.mem_of_getElem? (i := 72) rfl)
theorem ff_73 {σ : St} (h : Fix σ) : σ.1 42 65 = 88 := h.2 _ (List.mem_of_getElem? (i := 73) rfl)
theorem ff_74 {σ : St} (h : Fix σ) : σ.1 42 67 = 89 := h.2 _ (List.mem_of_getElem? (i := 74) rfl)
theorem ff_75 {σ : St} (h : Fix σ) : σ.1 42 68 = 90 := h.2 _ (List.mem_of_getElem? (i := 75) rfl)
theorem ff_76 {σ : St} (h : Fix σ) : σ.1 42 69 = 91 := h.2 _ (List.mem_of_getElem? (i := 76) rfl)
theorem ff_77 {σ : St} (h : Fix σ) : σ.1 42 73 = 92 := h.2 _ (List.mem_of_getElem? (i := 77) rfl)
