section Rules2
variable {E : EV} {M : MI} {d pc pc' : Nat} {ls ls' : List (Nat × AV)} {st st' : List AV} {σ : St} {Q : Option AV → St → Prop}
theorem s_getF {ci N k t idx : Nat} {a v : Int} (hd : decode M.2.1 pc = .ok (.getfield idx, 3)) (hf : FL M.1.cls idx ci N k) (ht : vtag ci k = t) (ha : sh σ a = some (ci, N)) (hv : σ.1 a k = v) (kk : WP E M d (pc + 3) ls ((t, v) :: st) σ Q) : WP E M d pc ls (aP a :: st) σ Q := by
  subst hv
  exact s_getfield hd hf ht ha kk
theorem s_alenv {a v : Int} {kd n : Nat} (hk : 20 ≤ kd ∧ kd ≤ 26) (hd : decode M.2.1 pc = .ok (.arraylength, 1)) (hs : sh σ a = some (kd, n)) (hv : (n : Int) = v) (k : WP E M d (pc + 1) ls (aI v :: st) σ Q) : WP E M d pc ls (aP a :: st) σ Q := by
  subst hv
  exact s_alen hk hd hs k
theorem s_ialoadv {a i v : Int} (hd : decode M.2.1 pc = .ok (.iaload, 1)) (ha : inb σ a 20 i) (hv : σ.1 a i = v) (k : WP E M d (pc + 1) ls (aI v :: st) σ Q) : WP E M d pc ls (aI i :: aP a :: st) σ Q := s_iaload hd ha (by rw [hv]; exact k)
theorem s_baloadv {a i v : Int} {kd : Nat} (hk : kd = 21 ∨ kd = 23) (hd : decode M.2.1 pc = .ok (.baload, 1)) (ha : inb σ a kd i) (hv : σ.1 a i = v) (k : WP E M d (pc + 1) ls (aI v :: st) σ Q) : WP E M d pc ls (aI i :: aP a :: st) σ Q := s_baload hk hd ha (by rw [hv]; exact k)
theorem s_laloadv {a i v : Int} (hd : decode M.2.1 pc = .ok (.laload, 1)) (ha : inb σ a 22 i) (hv : σ.1 a i = v) (k : WP E M d (pc + 1) ls (aL v :: st) σ Q) : WP E M d pc ls (aI i :: aP a :: st) σ Q := s_laload hd ha (by rw [hv]; exact k)
theorem s_aaloadv {a i v : Int} {kd : Nat} (hk : kd = 24 ∨ kd = 25 ∨ kd = 26) (hd : decode M.2.1 pc = .ok (.aaload, 1)) (ha : inb σ a kd i) (hv : σ.1 a i = v) (k : WP E M d (pc + 1) ls (aP v :: st) σ Q) : WP E M d pc ls (aI i :: aP a :: st) σ Q := s_aaload hk hd ha (by rw [hv]; exact k)
def sa (σ : St) (a : Int) (kd : Nat) : Prop := ∃ n, sh σ a = some (kd, n)
theorem s_alenS {a : Int} {kd : Nat} (hk : 20 ≤ kd ∧ kd ≤ 26) (hd : decode M.2.1 pc = .ok (.arraylength, 1)) (hs : sa σ a kd) (k : WP E M d (pc + 1) ls (aI (ln σ a) :: st) σ Q) : WP E M d pc ls (aP a :: st) σ Q := by
  obtain ⟨n, hs⟩ := hs
  refine s_alenv hk hd hs ?_ k
  unfold ln
  rw [hs]
end Rules2
theorem lcmp_r (x y : Int) : rI (lcmp x y) := by
  unfold lcmp
  split
  · decide
  · split <;> decide
theorem lcmp_eq {x y : Int} : lcmp x y = 0 ↔ x = y := by
  unfold lcmp
  split
  · constructor <;> intro h <;> omega
  · split <;> constructor <;> intro h <;> omega
theorem lcmp_ge {x y : Int} : 0 ≤ lcmp x y ↔ y ≤ x := by
  unfold lcmp
  split
  · constructor <;> intro h <;> omega
  · split <;> constructor <;> intro h <;> omega
theorem lcmp_gt {x y : Int} : 0 < lcmp x y ↔ y < x := by
  unfold lcmp
  split
  · constructor <;> intro h <;> omega
  · split <;> constructor <;> intro h <;> omega
theorem lcmp_le {x y : Int} : lcmp x y ≤ 0 ↔ x ≤ y := by
  unfold lcmp
  split
  · constructor <;> intro h <;> omega
  · split <;> constructor <;> intro h <;> omega
theorem lcmp_lt {x y : Int} : lcmp x y < 0 ↔ x < y := by
  unfold lcmp
  split
  · constructor <;> intro h <;> omega
  · split <;> constructor <;> intro h <;> omega
theorem lcmp_ne {x y : Int} : ¬ lcmp x y = 0 ↔ ¬ x = y := not_congr lcmp_eq
theorem nlcmp_eq {x y : Int} (h : ¬ lcmp x y = 0) : ¬ x = y := lcmp_ne.mp h
theorem nlcmp_ne {x y : Int} (h : lcmp x y = 0) : x = y := lcmp_eq.mp h
theorem nlcmp_ge {x y : Int} (h : ¬ 0 ≤ lcmp x y) : ¬ y ≤ x := fun q => h (lcmp_ge.mpr q)
theorem nlcmp_gt {x y : Int} (h : ¬ 0 < lcmp x y) : ¬ y < x := fun q => h (lcmp_gt.mpr q)
theorem nlcmp_le {x y : Int} (h : ¬ lcmp x y ≤ 0) : ¬ x ≤ y := fun q => h (lcmp_le.mpr q)
theorem nlcmp_lt {x y : Int} (h : ¬ lcmp x y < 0) : ¬ x < y := fun q => h (lcmp_lt.mpr q)
def dfO : FieldType → Bool
  | .int => true
  | .long => true
  | .boolean => true
  | .byte => true
  | .object _ => true
  | .array _ => true
  | _ => false
theorem dfO_ok {ty : FieldType} (h : dfO ty = true) : ty = .int ∨ ty = .long ∨ ty = .boolean ∨ ty = .byte ∨ (∃ n, ty = .object n) ∨ ∃ t, ty = .array t := by
  cases ty <;> simp_all [dfO]
theorem u_lay_good (C : String) (T : u_T) (k : Nat) : goodWord (u_lay C T k) = true := by
  unfold u_lay
  split <;> rfl
