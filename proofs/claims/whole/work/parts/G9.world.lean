/-! THE WORLD AT THE LAW'S START -/
theorem wo_cong {ty : FieldType} {t N : Nat} {f g : Nat → Value} {A : Nat → Prop} {U : State} {H : Heap} (h : va_T ty t N f A U H) (e : ∀ j, j < N → f j = g j) : va_T ty t N g A U H := by
  obtain ⟨cell, h1, h2, h3, h4, h5, h6, h7⟩ := h
  exact ⟨cell, h1, h2, h3, h4, h5, fun j hj => by rw [← e j hj]; exact h6 j hj, h7⟩
theorem wo_eqR {args : Array Value} {s : State} {t u : Term} {a : Nat} (h : (Cond.eq t u).before args s = true) (ht : t.eval args s none [] s = some (.ref a)) : u.eval args s none [] s = some (.ref a) := by
  cases hv : u.eval args s none [] s with
  | none => simp [Cond.before, Cond.holds, Cond.value, hv, ht] at h
  | some w =>
    simp only [Cond.before, Cond.holds, Cond.value, hv, ht] at h
    cases w <;> simp_all
theorem wo_isR {args : Array Value} {s : State} {t : Term} (h : (Cond.isRef t).before args s = true) : t.eval args s none [] s = some .null ∨ ∃ a : Nat, t.eval args s none [] s = some (.ref a) := by
  cases hv : t.eval args s none [] s with
  | none => simp [Cond.before, Cond.holds, Cond.value, hv] at h
  | some w =>
    cases w with
    | null => exact Or.inl rfl
    | ref a => exact Or.inr ⟨a, rfl⟩
    | _ => simp [Cond.before, Cond.holds, Cond.value, hv] at h
def rdk : List Nat := [81, 89, 90, 118, 96, 127]
def spk : List Nat := [40, 57, 83, 98, 106, 113]
def txk : List String := ["side", "gap", "sign", "core", "line", "left"]
def wln : List Nat := [4, 3, 4, 4, 4, 4]
def wbt : List (List Int32) := [[115, 105, 100, 101], [103, 97, 112], [115, 105, 103, 110], [99, 111, 114, 101], [108, 105, 110, 101], [108, 101, 102, 116]]
abbrev flL : List Cond := flatC (Jvm.Cond.and given_1 narrow_1)
theorem wo_S {b : Nat} {s : State} {A : Nat → Prop} (hf : ∀ c ∈ flL, c.before #[Value.ref b] s = true) (hA : ∀ a : Nat, a < s.heap.size → ¬ A a) : ∃ adK adV : Nat → Nat, vk_S 6 wln wbt adK adV A s s.heap ∧ ∀ i : Nat, i < 6 → (Term.string "SignSquares$Reader" (rdk.getD i 0)).eval #[Value.ref b] s none [] s = some (.ref (adK i)) := by
  refine vk_Sof (tm := fun i => .string "SignSquares$Reader" (rdk.getD i 0)) ?_ ?_ ?_ ?_ ?_ ?_ ?_ hA
  · intro i hi
    rcases (show i = 0 ∨ i = 1 ∨ i = 2 ∨ i = 3 ∨ i = 4 ∨ i = 5 from by omega) with rfl | rfl | rfl | rfl | rfl | rfl <;> decide
  · intro i hi
    rcases (show i = 0 ∨ i = 1 ∨ i = 2 ∨ i = 3 ∨ i = 4 ∨ i = 5 from by omega) with rfl | rfl | rfl | rfl | rfl | rfl
    · exact hf (Cond.exactly (.string "SignSquares$Reader" 81) "java/lang/String") (by decide +kernel)
    · exact hf (Cond.exactly (.string "SignSquares$Reader" 89) "java/lang/String") (by decide +kernel)
    · exact hf (Cond.exactly (.string "SignSquares$Reader" 90) "java/lang/String") (by decide +kernel)
    · exact hf (Cond.exactly (.string "SignSquares$Reader" 118) "java/lang/String") (by decide +kernel)
    · exact hf (Cond.exactly (.string "SignSquares$Reader" 96) "java/lang/String") (by decide +kernel)
    · exact hf (Cond.exactly (.string "SignSquares$Reader" 127) "java/lang/String") (by decide +kernel)
  · intro i hi
    rcases (show i = 0 ∨ i = 1 ∨ i = 2 ∨ i = 3 ∨ i = 4 ∨ i = 5 from by omega) with rfl | rfl | rfl | rfl | rfl | rfl
    · exact hf (Cond.eq (.field (.string "SignSquares$Reader" 81) "java/lang/String" "coder" "B") (.int 0)) (by decide +kernel)
    · exact hf (Cond.eq (.field (.string "SignSquares$Reader" 89) "java/lang/String" "coder" "B") (.int 0)) (by decide +kernel)
    · exact hf (Cond.eq (.field (.string "SignSquares$Reader" 90) "java/lang/String" "coder" "B") (.int 0)) (by decide +kernel)
    · exact hf (Cond.eq (.field (.string "SignSquares$Reader" 118) "java/lang/String" "coder" "B") (.int 0)) (by decide +kernel)
    · exact hf (Cond.eq (.field (.string "SignSquares$Reader" 96) "java/lang/String" "coder" "B") (.int 0)) (by decide +kernel)
    · exact hf (Cond.eq (.field (.string "SignSquares$Reader" 127) "java/lang/String" "coder" "B") (.int 0)) (by decide +kernel)
  · intro i hi
    rcases (show i = 0 ∨ i = 1 ∨ i = 2 ∨ i = 3 ∨ i = 4 ∨ i = 5 from by omega) with rfl | rfl | rfl | rfl | rfl | rfl
    · exact hf (Cond.arrayOf (.field (.string "SignSquares$Reader" 81) "java/lang/String" "value" "[B") .byte) (by decide +kernel)
    · exact hf (Cond.arrayOf (.field (.string "SignSquares$Reader" 89) "java/lang/String" "value" "[B") .byte) (by decide +kernel)
    · exact hf (Cond.arrayOf (.field (.string "SignSquares$Reader" 90) "java/lang/String" "value" "[B") .byte) (by decide +kernel)
    · exact hf (Cond.arrayOf (.field (.string "SignSquares$Reader" 118) "java/lang/String" "value" "[B") .byte) (by decide +kernel)
    · exact hf (Cond.arrayOf (.field (.string "SignSquares$Reader" 96) "java/lang/String" "value" "[B") .byte) (by decide +kernel)
    · exact hf (Cond.arrayOf (.field (.string "SignSquares$Reader" 127) "java/lang/String" "value" "[B") .byte) (by decide +kernel)
  · intro i hi
    rcases (show i = 0 ∨ i = 1 ∨ i = 2 ∨ i = 3 ∨ i = 4 ∨ i = 5 from by omega) with rfl | rfl | rfl | rfl | rfl | rfl
    · exact hf (Cond.eq (.length (.field (.string "SignSquares$Reader" 81) "java/lang/String" "value" "[B")) (.int 4)) (by decide +kernel)
    · exact hf (Cond.eq (.length (.field (.string "SignSquares$Reader" 89) "java/lang/String" "value" "[B")) (.int 3)) (by decide +kernel)
    · exact hf (Cond.eq (.length (.field (.string "SignSquares$Reader" 90) "java/lang/String" "value" "[B")) (.int 4)) (by decide +kernel)
    · exact hf (Cond.eq (.length (.field (.string "SignSquares$Reader" 118) "java/lang/String" "value" "[B")) (.int 4)) (by decide +kernel)
    · exact hf (Cond.eq (.length (.field (.string "SignSquares$Reader" 96) "java/lang/String" "value" "[B")) (.int 4)) (by decide +kernel)
    · exact hf (Cond.eq (.length (.field (.string "SignSquares$Reader" 127) "java/lang/String" "value" "[B")) (.int 4)) (by decide +kernel)
  · intro i hi
    rcases (show i = 0 ∨ i = 1 ∨ i = 2 ∨ i = 3 ∨ i = 4 ∨ i = 5 from by omega) with rfl | rfl | rfl | rfl | rfl | rfl
    · intro j hj
      have hj : j < 4 := hj
      rcases (show j = 0 ∨ j = 1 ∨ j = 2 ∨ j = 3 from by omega) with rfl | rfl | rfl | rfl
      · exact hf (Cond.eq (.elem (.field (.string "SignSquares$Reader" 81) "java/lang/String" "value" "[B") (.int 0)) (.int 115)) (by decide +kernel)
      · exact hf (Cond.eq (.elem (.field (.string "SignSquares$Reader" 81) "java/lang/String" "value" "[B") (.int 1)) (.int 105)) (by decide +kernel)
      · exact hf (Cond.eq (.elem (.field (.string "SignSquares$Reader" 81) "java/lang/String" "value" "[B") (.int 2)) (.int 100)) (by decide +kernel)
      · exact hf (Cond.eq (.elem (.field (.string "SignSquares$Reader" 81) "java/lang/String" "value" "[B") (.int 3)) (.int 101)) (by decide +kernel)
    · intro j hj
      have hj : j < 3 := hj
      rcases (show j = 0 ∨ j = 1 ∨ j = 2 from by omega) with rfl | rfl | rfl
      · exact hf (Cond.eq (.elem (.field (.string "SignSquares$Reader" 89) "java/lang/String" "value" "[B") (.int 0)) (.int 103)) (by decide +kernel)
      · exact hf (Cond.eq (.elem (.field (.string "SignSquares$Reader" 89) "java/lang/String" "value" "[B") (.int 1)) (.int 97)) (by decide +kernel)
      · exact hf (Cond.eq (.elem (.field (.string "SignSquares$Reader" 89) "java/lang/String" "value" "[B") (.int 2)) (.int 112)) (by decide +kernel)
    · intro j hj
      have hj : j < 4 := hj
      rcases (show j = 0 ∨ j = 1 ∨ j = 2 ∨ j = 3 from by omega) with rfl | rfl | rfl | rfl
      · exact hf (Cond.eq (.elem (.field (.string "SignSquares$Reader" 90) "java/lang/String" "value" "[B") (.int 0)) (.int 115)) (by decide +kernel)
      · exact hf (Cond.eq (.elem (.field (.string "SignSquares$Reader" 90) "java/lang/String" "value" "[B") (.int 1)) (.int 105)) (by decide +kernel)
      · exact hf (Cond.eq (.elem (.field (.string "SignSquares$Reader" 90) "java/lang/String" "value" "[B") (.int 2)) (.int 103)) (by decide +kernel)
      · exact hf (Cond.eq (.elem (.field (.string "SignSquares$Reader" 90) "java/lang/String" "value" "[B") (.int 3)) (.int 110)) (by decide +kernel)
    · intro j hj
      have hj : j < 4 := hj
      rcases (show j = 0 ∨ j = 1 ∨ j = 2 ∨ j = 3 from by omega) with rfl | rfl | rfl | rfl
      · exact hf (Cond.eq (.elem (.field (.string "SignSquares$Reader" 118) "java/lang/String" "value" "[B") (.int 0)) (.int 99)) (by decide +kernel)
      · exact hf (Cond.eq (.elem (.field (.string "SignSquares$Reader" 118) "java/lang/String" "value" "[B") (.int 1)) (.int 111)) (by decide +kernel)
      · exact hf (Cond.eq (.elem (.field (.string "SignSquares$Reader" 118) "java/lang/String" "value" "[B") (.int 2)) (.int 114)) (by decide +kernel)
      · exact hf (Cond.eq (.elem (.field (.string "SignSquares$Reader" 118) "java/lang/String" "value" "[B") (.int 3)) (.int 101)) (by decide +kernel)
    · intro j hj
      have hj : j < 4 := hj
      rcases (show j = 0 ∨ j = 1 ∨ j = 2 ∨ j = 3 from by omega) with rfl | rfl | rfl | rfl
      · exact hf (Cond.eq (.elem (.field (.string "SignSquares$Reader" 96) "java/lang/String" "value" "[B") (.int 0)) (.int 108)) (by decide +kernel)
      · exact hf (Cond.eq (.elem (.field (.string "SignSquares$Reader" 96) "java/lang/String" "value" "[B") (.int 1)) (.int 105)) (by decide +kernel)
      · exact hf (Cond.eq (.elem (.field (.string "SignSquares$Reader" 96) "java/lang/String" "value" "[B") (.int 2)) (.int 110)) (by decide +kernel)
      · exact hf (Cond.eq (.elem (.field (.string "SignSquares$Reader" 96) "java/lang/String" "value" "[B") (.int 3)) (.int 101)) (by decide +kernel)
    · intro j hj
      have hj : j < 4 := hj
      rcases (show j = 0 ∨ j = 1 ∨ j = 2 ∨ j = 3 from by omega) with rfl | rfl | rfl | rfl
      · exact hf (Cond.eq (.elem (.field (.string "SignSquares$Reader" 127) "java/lang/String" "value" "[B") (.int 0)) (.int 108)) (by decide +kernel)
      · exact hf (Cond.eq (.elem (.field (.string "SignSquares$Reader" 127) "java/lang/String" "value" "[B") (.int 1)) (.int 101)) (by decide +kernel)
      · exact hf (Cond.eq (.elem (.field (.string "SignSquares$Reader" 127) "java/lang/String" "value" "[B") (.int 2)) (.int 102)) (by decide +kernel)
      · exact hf (Cond.eq (.elem (.field (.string "SignSquares$Reader" 127) "java/lang/String" "value" "[B") (.int 3)) (.int 116)) (by decide +kernel)
  · intro i j hi hj hij
    rcases (show i = 0 ∨ i = 1 ∨ i = 2 ∨ i = 3 ∨ i = 4 ∨ i = 5 from by omega) with rfl | rfl | rfl | rfl | rfl | rfl
    · rcases (show j = 0 ∨ j = 1 ∨ j = 2 ∨ j = 3 ∨ j = 4 ∨ j = 5 from by omega) with rfl | rfl | rfl | rfl | rfl | rfl
      · exact absurd rfl hij
      · exact Or.inl (hf (Cond.not (Cond.eq (.string "SignSquares$Reader" 81) (.string "SignSquares$Reader" 89))) (by decide +kernel))
      · exact Or.inl (hf (Cond.not (Cond.eq (.string "SignSquares$Reader" 81) (.string "SignSquares$Reader" 90))) (by decide +kernel))
      · exact Or.inl (hf (Cond.not (Cond.eq (.string "SignSquares$Reader" 81) (.string "SignSquares$Reader" 118))) (by decide +kernel))
      · exact Or.inl (hf (Cond.not (Cond.eq (.string "SignSquares$Reader" 81) (.string "SignSquares$Reader" 96))) (by decide +kernel))
      · exact Or.inl (hf (Cond.not (Cond.eq (.string "SignSquares$Reader" 81) (.string "SignSquares$Reader" 127))) (by decide +kernel))
    · rcases (show j = 0 ∨ j = 1 ∨ j = 2 ∨ j = 3 ∨ j = 4 ∨ j = 5 from by omega) with rfl | rfl | rfl | rfl | rfl | rfl
      · exact Or.inr (hf (Cond.not (Cond.eq (.string "SignSquares$Reader" 81) (.string "SignSquares$Reader" 89))) (by decide +kernel))
      · exact absurd rfl hij
      · exact Or.inl (hf (Cond.not (Cond.eq (.string "SignSquares$Reader" 89) (.string "SignSquares$Reader" 90))) (by decide +kernel))
      · exact Or.inl (hf (Cond.not (Cond.eq (.string "SignSquares$Reader" 89) (.string "SignSquares$Reader" 118))) (by decide +kernel))
      · exact Or.inl (hf (Cond.not (Cond.eq (.string "SignSquares$Reader" 89) (.string "SignSquares$Reader" 96))) (by decide +kernel))
      · exact Or.inl (hf (Cond.not (Cond.eq (.string "SignSquares$Reader" 89) (.string "SignSquares$Reader" 127))) (by decide +kernel))
    · rcases (show j = 0 ∨ j = 1 ∨ j = 2 ∨ j = 3 ∨ j = 4 ∨ j = 5 from by omega) with rfl | rfl | rfl | rfl | rfl | rfl
      · exact Or.inr (hf (Cond.not (Cond.eq (.string "SignSquares$Reader" 81) (.string "SignSquares$Reader" 90))) (by decide +kernel))
      · exact Or.inr (hf (Cond.not (Cond.eq (.string "SignSquares$Reader" 89) (.string "SignSquares$Reader" 90))) (by decide +kernel))
      · exact absurd rfl hij
      · exact Or.inl (hf (Cond.not (Cond.eq (.string "SignSquares$Reader" 90) (.string "SignSquares$Reader" 118))) (by decide +kernel))
      · exact Or.inl (hf (Cond.not (Cond.eq (.string "SignSquares$Reader" 90) (.string "SignSquares$Reader" 96))) (by decide +kernel))
      · exact Or.inl (hf (Cond.not (Cond.eq (.string "SignSquares$Reader" 90) (.string "SignSquares$Reader" 127))) (by decide +kernel))
    · rcases (show j = 0 ∨ j = 1 ∨ j = 2 ∨ j = 3 ∨ j = 4 ∨ j = 5 from by omega) with rfl | rfl | rfl | rfl | rfl | rfl
      · exact Or.inr (hf (Cond.not (Cond.eq (.string "SignSquares$Reader" 81) (.string "SignSquares$Reader" 118))) (by decide +kernel))
      · exact Or.inr (hf (Cond.not (Cond.eq (.string "SignSquares$Reader" 89) (.string "SignSquares$Reader" 118))) (by decide +kernel))
      · exact Or.inr (hf (Cond.not (Cond.eq (.string "SignSquares$Reader" 90) (.string "SignSquares$Reader" 118))) (by decide +kernel))
      · exact absurd rfl hij
      · exact Or.inl (hf (Cond.not (Cond.eq (.string "SignSquares$Reader" 118) (.string "SignSquares$Reader" 96))) (by decide +kernel))
      · exact Or.inl (hf (Cond.not (Cond.eq (.string "SignSquares$Reader" 118) (.string "SignSquares$Reader" 127))) (by decide +kernel))
    · rcases (show j = 0 ∨ j = 1 ∨ j = 2 ∨ j = 3 ∨ j = 4 ∨ j = 5 from by omega) with rfl | rfl | rfl | rfl | rfl | rfl
      · exact Or.inr (hf (Cond.not (Cond.eq (.string "SignSquares$Reader" 81) (.string "SignSquares$Reader" 96))) (by decide +kernel))
      · exact Or.inr (hf (Cond.not (Cond.eq (.string "SignSquares$Reader" 89) (.string "SignSquares$Reader" 96))) (by decide +kernel))
      · exact Or.inr (hf (Cond.not (Cond.eq (.string "SignSquares$Reader" 90) (.string "SignSquares$Reader" 96))) (by decide +kernel))
      · exact Or.inr (hf (Cond.not (Cond.eq (.string "SignSquares$Reader" 118) (.string "SignSquares$Reader" 96))) (by decide +kernel))
      · exact absurd rfl hij
      · exact Or.inl (hf (Cond.not (Cond.eq (.string "SignSquares$Reader" 96) (.string "SignSquares$Reader" 127))) (by decide +kernel))
    · rcases (show j = 0 ∨ j = 1 ∨ j = 2 ∨ j = 3 ∨ j = 4 ∨ j = 5 from by omega) with rfl | rfl | rfl | rfl | rfl | rfl
      · exact Or.inr (hf (Cond.not (Cond.eq (.string "SignSquares$Reader" 81) (.string "SignSquares$Reader" 127))) (by decide +kernel))
      · exact Or.inr (hf (Cond.not (Cond.eq (.string "SignSquares$Reader" 89) (.string "SignSquares$Reader" 127))) (by decide +kernel))
      · exact Or.inr (hf (Cond.not (Cond.eq (.string "SignSquares$Reader" 90) (.string "SignSquares$Reader" 127))) (by decide +kernel))
      · exact Or.inr (hf (Cond.not (Cond.eq (.string "SignSquares$Reader" 118) (.string "SignSquares$Reader" 127))) (by decide +kernel))
      · exact Or.inr (hf (Cond.not (Cond.eq (.string "SignSquares$Reader" 96) (.string "SignSquares$Reader" 127))) (by decide +kernel))
      · exact absurd rfl hij
def XX (H0 : Heap) (b L : Nat) (xs : Nat → Int32) (fm : Value) (wy : Nat) (adK adV : Nat → Nat) (U : State) : Prop :=
  va_Z "java/lang/String" "COMPACT_STRINGS" "Z" (.int (Int32.ofInt 1)) (fun q => H0.size ≤ q) U H0 ∧ va_Z "jdk/internal/util/Preconditions" "SIOOBE_FORMATTER" "Ljava/util/function/BiFunction;" fm (fun q => H0.size ≤ q) U H0 ∧ va_Z "SignSquares$Arranger" "WAYS" "[I" (.ref wy) (fun q => H0.size ≤ q) U H0 ∧ va_T .int wy 7 (fun j => .int (Int32.ofInt (wayL.getD j 0))) (fun q => H0.size ≤ q) U H0 ∧ vk_S 6 wln wbt adK adV (fun q => H0.size ≤ q) U H0 ∧ va_T .int b L (fun j => .int (xs j)) (fun q => H0.size ≤ q) U H0 ∧ ∀ i, i < 6 → vk_R "SignSquares$Reader" (rdk.getD i 0) (txk.getD i "") (adK i) U ∧ vk_R "SignSquares$Speller" (spk.getD i 0) (txk.getD i "") (adK i) U
theorem XX.warm {H0 : Heap} {b L : Nat} {xs : Nat → Int32} {fm : Value} {wy : Nat} {adK adV : Nat → Nat} {u V : State} (hW : u.WarmedH V.vm) (h : XX H0 b L xs fm wy adK adV u) : XX H0 b L xs fm wy adK adV V := by
  have hA := hW.alike
  obtain ⟨h1, h2, h3, h4, h5, h6, h7⟩ := h
  exact ⟨h1.moved hA, h2.moved hA, h3.moved hA, h4.moved hA, h5.moved hA, h6.moved hA, fun i hi => ⟨(h7 i hi).1.warm hW, (h7 i hi).2.warm hW⟩⟩
def adW (b f8 wy : Nat) (adK adV : Nat → Nat) (n : Nat) : Nat := if n ≤ 6 then adK (n - 1) else if n = 7 then b else if n = 8 then f8 else if n = 9 then wy else adV (n - 10)
theorem wo_prim {args : Array Value} {s : State} {ty : FieldType} (h : (Cond.arrayClass ty).before args s = true) : ∃ cA : ClassId, ArrOfT s cA ty ∧ s.vm.findClass ("[" ++ ty.toString) = some cA := by
  obtain ⟨cA, kA, comp, h1, h2, h3⟩ := Cond.arrayClass_spec h
  exact ⟨cA, fun n z => ⟨fun k h => (by cases h), kA, h2, comp, h3⟩, h1⟩
theorem wo_obj {args : Array Value} {s : State} {C : String} (h : (Cond.arrayOver (.object C)).before args s = true) : ∃ cA : ClassId, ArrOfT s cA (.object C) ∧ va_RA s cA (.object C) ∧ va_AO C s := by
  obtain ⟨comp, c, k, h1, h2, h3, h4, h5⟩ := Cond.arrayOver_spec h
  exact ⟨c, fun n z => ⟨fun k h => (by cases h), k, h3, comp, h4⟩, ⟨k, comp, h3, h4, h1, h5⟩, va_AO.of h⟩
theorem wo_X {H0 : Heap} {b L : Nat} {xs : Nat → Int32} {fm : Value} {wy : Nat} {s : State} {adK adV : Nat → Nat} (hs : s.heap = H0) (hts : ∀ w ∈ lw_tbl, w.before #[Value.ref b] s = true) (z1 : va_Z "java/lang/String" "COMPACT_STRINGS" "Z" (.int (Int32.ofInt 1)) (fun q => H0.size ≤ q) s H0) (z2 : va_Z "jdk/internal/util/Preconditions" "SIOOBE_FORMATTER" "Ljava/util/function/BiFunction;" fm (fun q => H0.size ≤ q) s H0) (z3 : va_Z "SignSquares$Arranger" "WAYS" "[I" (.ref wy) (fun q => H0.size ≤ q) s H0) (z4 : va_T .int wy 7 (fun j => .int (Int32.ofInt (wayL.getD j 0))) (fun q => H0.size ≤ q) s H0) (z5 : vk_S 6 wln wbt adK adV (fun q => H0.size ≤ q) s H0) (z6 : va_T .int b L (fun j => .int (xs j)) (fun q => H0.size ≤ q) s H0) (hev : ∀ i : Nat, i < 6 → (Term.string "SignSquares$Reader" (rdk.getD i 0)).eval #[Value.ref b] s none [] s = some (.ref (adK i))) (hf : ∀ c ∈ flL, c.before #[Value.ref b] s = true) : XX H0 b L xs fm wy adK adV s := by
  refine ⟨z1, z2, z3, z4, z5, z6, fun i hi => ?_⟩
  have h := hev i hi
  rcases (show i = 0 ∨ i = 1 ∨ i = 2 ∨ i = 3 ∨ i = 4 ∨ i = 5 from by omega) with rfl | rfl | rfl | rfl | rfl | rfl
  · exact ⟨vk_R.of (hts (Cond.stringRef "SignSquares$Reader" 81 "side") (by decide +kernel)) h, vk_R.of (hts (Cond.stringRef "SignSquares$Speller" 40 "side") (by decide +kernel)) (wo_eqR (hf (Cond.eq (.string "SignSquares$Reader" 81) (.string "SignSquares$Speller" 40)) (by decide +kernel)) h)⟩
  · exact ⟨vk_R.of (hts (Cond.stringRef "SignSquares$Reader" 89 "gap") (by decide +kernel)) h, vk_R.of (hts (Cond.stringRef "SignSquares$Speller" 57 "gap") (by decide +kernel)) (wo_eqR (hf (Cond.eq (.string "SignSquares$Reader" 89) (.string "SignSquares$Speller" 57)) (by decide +kernel)) h)⟩
  · exact ⟨vk_R.of (hts (Cond.stringRef "SignSquares$Reader" 90 "sign") (by decide +kernel)) h, vk_R.of (hts (Cond.stringRef "SignSquares$Speller" 83 "sign") (by decide +kernel)) (wo_eqR (hf (Cond.eq (.string "SignSquares$Reader" 90) (.string "SignSquares$Speller" 83)) (by decide +kernel)) h)⟩
  · exact ⟨vk_R.of (hts (Cond.stringRef "SignSquares$Reader" 118 "core") (by decide +kernel)) h, vk_R.of (hts (Cond.stringRef "SignSquares$Speller" 98 "core") (by decide +kernel)) (wo_eqR (hf (Cond.eq (.string "SignSquares$Reader" 118) (.string "SignSquares$Speller" 98)) (by decide +kernel)) h)⟩
  · exact ⟨vk_R.of (hts (Cond.stringRef "SignSquares$Reader" 96 "line") (by decide +kernel)) h, vk_R.of (hts (Cond.stringRef "SignSquares$Speller" 106 "line") (by decide +kernel)) (wo_eqR (hf (Cond.eq (.string "SignSquares$Reader" 96) (.string "SignSquares$Speller" 106)) (by decide +kernel)) h)⟩
  · exact ⟨vk_R.of (hts (Cond.stringRef "SignSquares$Reader" 127 "left") (by decide +kernel)) h, vk_R.of (hts (Cond.stringRef "SignSquares$Speller" 113 "left") (by decide +kernel)) (wo_eqR (hf (Cond.eq (.string "SignSquares$Reader" 127) (.string "SignSquares$Speller" 113)) (by decide +kernel)) h)⟩
theorem wo_K {b : Nat} {s : State} (hts : ∀ w ∈ lw_tbl, w.before #[Value.ref b] s = true) : ∃ (dC : Nat → ClassId) (dI : Nat → Nat → Nat), va_K (dC, dI) vwCl [] s := by
  obtain ⟨c0, i0, k0⟩ := u_known (C := RX0) (T := TX0) (N := 14) (n := 14) hts inX0 (hts _ in_0)
  obtain ⟨c1, i1, k1⟩ := u_known (C := RX1) (T := TX1) (N := 2) (n := 2) hts inX1 (hts _ in_1)
  obtain ⟨c2, i2, k2⟩ := u_known (C := RX2) (T := TX2) (N := 8) (n := 8) hts inX2 (hts _ in_2)
  obtain ⟨c3, i3, k3⟩ := u_known (C := RX3) (T := TX3) (N := 2) (n := 2) hts inX3 (hts _ in_3)
  obtain ⟨c4, i4, k4⟩ := u_known (C := RX4) (T := TX4) (N := 3) (n := 3) hts inX4 (hts _ in_4)
  obtain ⟨c5, i5, k5⟩ := u_known (C := RX5) (T := TX5) (N := 12) (n := 12) hts inX5 (hts _ in_5)
  obtain ⟨c6, i6, k6⟩ := u_known (C := RX6) (T := TX6) (N := 9) (n := 9) hts inX6 (hts _ in_6)
  obtain ⟨c7, i7, k7⟩ := u_known (C := RX7) (T := TX7) (N := 1) (n := 1) hts inX7 (hts _ in_7)
  obtain ⟨c8, i8, k8⟩ := u_known (C := RX8) (T := TX8) (N := 4) (n := 4) hts inX8 (hts _ in_8)
  obtain ⟨c9, i9, k9⟩ := u_known (C := RX9) (T := TX9) (N := 9) (n := 9) hts inX9 (hts _ in_9)
  obtain ⟨c10, i10, k10⟩ := u_known (C := RX10) (T := TX10) (N := 74) (n := 74) hts inX10 (hts _ in_10)
  refine ⟨fun k => [c0, c1, c2, c3, c4, c5, c6, c7, c8, c9, c10].getD k c0, fun k => [i0, i1, i2, i3, i4, i5, i6, i7, i8, i9, i10].getD k i0, ?_, fun k q h => by simp at h⟩
  intro k q hq
  match k, hq with
  | 0, hq => cases hq; exact k0
  | 1, hq => cases hq; exact k1
  | 2, hq => cases hq; exact k2
  | 3, hq => cases hq; exact k3
  | 4, hq => cases hq; exact k4
  | 5, hq => cases hq; exact k5
  | 6, hq => cases hq; exact k6
  | 7, hq => cases hq; exact k7
  | 8, hq => cases hq; exact k8
  | 9, hq => cases hq; exact k9
  | 10, hq => cases hq; exact k10
  | k + 11, hq => simp [vwCl] at hq
theorem wo_A {b : Nat} {s : State} (hts : ∀ w ∈ lw_tbl, w.before #[Value.ref b] s = true) : ∃ aC : Nat → ClassId, ∀ k, 20 ≤ k → k ≤ 26 → ArrOfT s (aC k) (eltT k) ∧ va_RA s (aC k) (eltT k) ∧ ∀ C, eltT k = .object C → va_AO C s := by
  obtain ⟨a0, p0, q0⟩ := wo_prim (hts _ ac_20)
  obtain ⟨a1, p1, q1⟩ := wo_prim (hts _ ac_21)
  obtain ⟨a2, p2, q2⟩ := wo_prim (hts _ ac_22)
  obtain ⟨a3, p3, q3⟩ := wo_prim (hts _ ac_23)
  obtain ⟨a4, p4, q4, r4⟩ := wo_obj (C := "SignSquares$Square") (hts (Cond.arrayOver (.object "SignSquares$Square")) (by decide +kernel))
  obtain ⟨a5, p5, q5, r5⟩ := wo_obj (C := "SignSquares$Line") (hts (Cond.arrayOver (.object "SignSquares$Line")) (by decide +kernel))
  obtain ⟨a6, p6, q6, r6⟩ := wo_obj (C := "SignSquares$Moment") (hts (Cond.arrayOver (.object "SignSquares$Moment")) (by decide +kernel))
  refine ⟨fun k => [a0, a1, a2, a3, a4, a5, a6].getD (k - 20) a0, fun k h1 h2 => ?_⟩
  rcases (show k = 20 ∨ k = 21 ∨ k = 22 ∨ k = 23 ∨ k = 24 ∨ k = 25 ∨ k = 26 from by omega) with rfl | rfl | rfl | rfl | rfl | rfl | rfl
  · exact ⟨p0, q0, fun C hC => by have hC : eltT 20 = FieldType.object C := hC; simp [eltT] at hC⟩
  · exact ⟨p1, q1, fun C hC => by have hC : eltT 21 = FieldType.object C := hC; simp [eltT] at hC⟩
  · exact ⟨p2, q2, fun C hC => by have hC : eltT 22 = FieldType.object C := hC; simp [eltT] at hC⟩
  · exact ⟨p3, q3, fun C hC => by have hC : eltT 23 = FieldType.object C := hC; simp [eltT] at hC⟩
  · refine ⟨p4, q4, fun C hC => ?_⟩
    have hC : FieldType.object "SignSquares$Square" = FieldType.object C := hC
    injection hC with hC
    rw [← hC]
    exact r4
  · refine ⟨p5, q5, fun C hC => ?_⟩
    have hC : FieldType.object "SignSquares$Line" = FieldType.object C := hC
    injection hC with hC
    rw [← hC]
    exact r5
  · refine ⟨p6, q6, fun C hC => ?_⟩
    have hC : FieldType.object "SignSquares$Moment" = FieldType.object C := hC
    injection hC with hC
    rw [← hC]
    exact r6
theorem wo_N {b : Nat} {s : State} (hts : ∀ w ∈ lw_tbl, w.before #[Value.ref b] s = true) : ∀ w ∈ lw_nest, va_Nw w s := by
  intro w hw
  have h1 := List.mem_filter.mp hw
  have h2 := hts w h1.1
  have h3 := h1.2
  cases w <;> first | exact va_Nw.of rfl h2 | exact Bool.noConfusion h3
theorem wo_wd : ∀ k : Fin 6, wln.getD k.val 0 = (wd k.val).length ∧ ∀ j : Fin 4, (wbt.getD k.val []).getD j.val 0 = Int32.ofInt ((wd k.val).getD j.val 0) := by decide +kernel
theorem wo_T {E : EV} {H0 : Heap} {b L : Nat} {xs : Nat → Int32} {fm : Int} {f8 wy : Nat} {adK adV : Nat → Nat} (h1 : E.2.1 = H0) (h2 : E.2.2.1 = adW b f8 wy adK adV) (h3 : E.2.2.2.2.2 = XX H0 b L xs (eV E (aP fm)) wy adK adV) (hL : L ≤ 3072) : TxE E ∧ XT E (-7) .int L (fun j => (xs j).toInt) := by
  have hb : eBase E = H0.size := by unfold eBase; rw [h1]
  have hfr : frE E = fun q => H0.size ≤ q := by funext q; unfold frE; rw [hb]
  have key : ∀ (U : State) (H : Heap), E.2.2.2.2.2 U → agr E H → XX H0 b L xs (eV E (aP fm)) wy adK adV U ∧ ∀ a : Nat, a < H0.size → ¬ (fun q => H0.size ≤ q) a → H[a]? = H0[a]? := by
    intro U H hu hg
    rw [h3] at hu
    refine ⟨hu, fun a ha _ => ?_⟩
    have := hg a (by rw [hb]; exact ha)
    rw [h1] at this
    exact this
  have e9 : eV E (aP (-9)) = .ref wy := by
    show eR E (-9) = _
    unfold eR
    rw [h2]
    rfl
  refine ⟨⟨?_, ⟨fm, ?_⟩, ?_, ⟨by omega, by omega, ?_⟩, fun k hk => ?_⟩, by omega, by omega, ?_⟩
  · intro U H hu hg
    obtain ⟨hx, hq⟩ := key U H hu hg
    rw [hfr]
    exact hx.1.kept hq
  · intro U H hu hg
    obtain ⟨hx, hq⟩ := key U H hu hg
    rw [hfr]
    exact hx.2.1.kept hq
  · intro U H hu hg
    obtain ⟨hx, hq⟩ := key U H hu hg
    rw [hfr, e9]
    exact hx.2.2.1.kept hq
  · intro U H hu hg
    obtain ⟨hx, hq⟩ := key U H hu hg
    rw [hfr, h2]
    exact hx.2.2.2.1.kept hq
  · have ek : (-(-((k : Int) + 1))).toNat = k + 1 := by omega
    have ev : (-(-((k : Int) + 10))).toNat = k + 10 := by omega
    have ak : E.2.2.1 (k + 1) = adK k := by rw [h2]; unfold adW; rw [if_pos (by omega)]; rfl
    have av : E.2.2.1 (k + 10) = adV k := by rw [h2]; unfold adW; rw [if_neg (by omega), if_neg (by omega), if_neg (by omega), if_neg (by omega)]; rfl
    have rv : eV E (aP (-((k : Int) + 10))) = .ref (adV k) := by
      show eR E (-((k : Int) + 10)) = _
      unfold eR
      rw [if_neg (by omega), if_neg (by omega), ev, av]
    have hw : wln.getD k 0 = (wd k).length ∧ ∀ j : Fin 4, (wbt.getD k []).getD j.val 0 = Int32.ofInt ((wd k).getD j.val 0) := wo_wd ⟨k, hk⟩
    have hw1 := hw.1
    have hl4 : wln.getD k 0 ≤ 4 := (show ∀ i : Fin 6, wln.getD i.val 0 ≤ 4 by decide) ⟨k, hk⟩
    refine ⟨⟨by omega, ?_⟩, ⟨by omega, ?_⟩, ⟨by omega, ?_⟩, ⟨by omega, ?_, ?_⟩⟩
    · intro U H hu hg
      obtain ⟨hx, hq⟩ := key U H hu hg
      rw [ek, ak]
      obtain ⟨cell, q1, q2, q3, q4⟩ := (hx.2.2.2.2.1.1 k hk).1.kept hq
      exact ⟨cell, q1, q2, q3⟩
    · intro U H hu hg
      obtain ⟨hx, hq⟩ := key U H hu hg
      rw [ek, ak, hfr]
      exact (hx.2.2.2.2.1.1 k hk).2.1.kept hq
    · intro U H hu hg
      obtain ⟨hx, hq⟩ := key U H hu hg
      rw [ek, ak, hfr, rv]
      exact (hx.2.2.2.2.1.1 k hk).2.2.1.kept hq
    · rw [← hw.1]; omega
    · intro U H hu hg
      obtain ⟨hx, hq⟩ := key U H hu hg
      rw [ev, av, hfr, ← hw.1]
      refine wo_cong ((hx.2.2.2.2.1.1 k hk).2.2.2.kept hq) (fun j hj => ?_)
      have hj4 : wln.getD k 0 = (wd k).length := hw1
      have := hw.2 ⟨j, by omega⟩
      rw [this]
  · intro U H hu hg
    obtain ⟨hx, hq⟩ := key U H hu hg
    rw [hfr, h2]
    refine wo_cong (hx.2.2.2.2.2.1.kept hq) (fun j _ => ?_)
    rw [Int32.ofInt_toInt]
theorem wo_St {E : EV} {H0 : Heap} {b L : Nat} {xs : Nat → Int32} {fm : Value} {f8 wy : Nat} {adK adV : Nat → Nat} (hT : TxE E) (h2 : E.2.2.1 = adW b f8 wy adK adV) (h3 : E.2.2.2.2.2 = XX H0 b L xs fm wy adK adV) : StrE E := by
  have key : ∀ (i : Nat) (hi : i < 6), XS E "SignSquares$Reader" (rdk.getD i 0) (i + 1) ∧ XS E "SignSquares$Speller" (spk.getD i 0) (i + 1) := by
    intro i hi
    have ak : E.2.2.1 (i + 1) = adK i := by rw [h2]; unfold adW; rw [if_pos (by omega)]; rfl
    refine ⟨⟨by omega, fun U hu => ?_⟩, by omega, fun U hu => ?_⟩
    · rw [h3] at hu
      rw [ak]
      exact ⟨_, (hu.2.2.2.2.2.2 i hi).1⟩
    · rw [h3] at hu
      rw [ak]
      exact ⟨_, (hu.2.2.2.2.2.2 i hi).2⟩
  refine ⟨fun k hk => ⟨(hT.2.2.2.2 k hk).1, fun d σ => t_length hT hk, fun i hi d σ => t_charAt hT hk hi⟩, ⟨(key 0 (by omega)).2, (key 1 (by omega)).2, (key 2 (by omega)).2, (key 3 (by omega)).2, (key 4 (by omega)).2, (key 5 (by omega)).2⟩, (key 0 (by omega)).1, (key 1 (by omega)).1, (key 2 (by omega)).1, (key 3 (by omega)).1, (key 4 (by omega)).1, (key 5 (by omega)).1⟩
theorem world {s : State} {b L : Nat} {xs : Nat → Int32} (l : Launch) (hts : ∀ w ∈ lw_tbl, w.before #[Value.ref b] s = true) (hX : va_X b L xs s s.heap) (hbl : b < s.heap.size) (hL : L ≤ 3072) (hgv : (Jvm.Cond.and given_1 narrow_1).before #[Value.ref b] s = true) : ∃ E : EV, E.1 = l ∧ E.2.1 = s.heap ∧ E.2.2.1 7 = b ∧ EnvOK E s ∧ TxE E ∧ StrE E ∧ XT E (-7) .int L (fun j => (xs j).toInt) := by
  have hf : ∀ c ∈ flL, c.before #[Value.ref b] s = true := flat_of_before _ hgv
  have hA : ∀ a : Nat, a < s.heap.size → ¬ (fun q => s.heap.size ≤ q) a := fun a h => Nat.not_le.mpr h
  obtain ⟨adK, adV, z5, hev⟩ := wo_S hf hA
  have z1 : va_Z "java/lang/String" "COMPACT_STRINGS" "Z" (.int (Int32.ofInt 1)) (fun q => s.heap.size ≤ q) s s.heap := by
    have e : (Int32.ofInt 1) = 1 := by decide
    rw [e]
    exact va_Zof (hts (Cond.laysStatic "java/lang/String" "COMPACT_STRINGS" "Z") (by decide +kernel)) (hts (Cond.initialized "java/lang/String") (by decide +kernel)) (va_eqt (hf (Cond.eq (.static "java/lang/String" "COMPACT_STRINGS" "Z") (.int 1)) (by decide +kernel))) hA
  obtain ⟨wy, hwy, z4⟩ := va_Tof (args := #[Value.ref b]) (s := s) (tm := .static "SignSquares$Arranger" "WAYS" "[I") (ty := .int) (N := 7) (f := fun j => .int (Int32.ofInt (wayL.getD j 0))) (A := fun q => s.heap.size ≤ q) (by decide) (hf (Cond.arrayOf (.static "SignSquares$Arranger" "WAYS" "[I") .int) (by decide +kernel)) (va_eqt (hf (Cond.eq (.length (.static "SignSquares$Arranger" "WAYS" "[I")) (.int 7)) (by decide +kernel))) (fun j hj => by
    rcases (show j = 0 ∨ j = 1 ∨ j = 2 ∨ j = 3 ∨ j = 4 ∨ j = 5 ∨ j = 6 from by omega) with rfl | rfl | rfl | rfl | rfl | rfl | rfl
    · exact va_eqt (hf (Cond.eq (.elem (.static "SignSquares$Arranger" "WAYS" "[I") (.int 0)) (.int 0)) (by decide +kernel))
    · exact va_eqt (hf (Cond.eq (.elem (.static "SignSquares$Arranger" "WAYS" "[I") (.int 1)) (.int 1)) (by decide +kernel))
    · exact va_eqt (hf (Cond.eq (.elem (.static "SignSquares$Arranger" "WAYS" "[I") (.int 2)) (.int 2)) (by decide +kernel))
    · exact va_eqt (hf (Cond.eq (.elem (.static "SignSquares$Arranger" "WAYS" "[I") (.int 3)) (.int 6)) (by decide +kernel))
    · exact va_eqt (hf (Cond.eq (.elem (.static "SignSquares$Arranger" "WAYS" "[I") (.int 4)) (.int 22)) (by decide +kernel))
    · exact va_eqt (hf (Cond.eq (.elem (.static "SignSquares$Arranger" "WAYS" "[I") (.int 5)) (.int 90)) (by decide +kernel))
    · exact va_eqt (hf (Cond.eq (.elem (.static "SignSquares$Arranger" "WAYS" "[I") (.int 6)) (.int 394)) (by decide +kernel))
    ) hA
  have z3 := va_Zref (A := fun q => s.heap.size ≤ q) (hts (Cond.laysStatic "SignSquares$Arranger" "WAYS" "[I") (by decide +kernel)) (hts (Cond.initialized "SignSquares$Arranger") (by decide +kernel)) hwy hA
  have z6 : va_T .int b L (fun j => .int (xs j)) (fun q => s.heap.size ≤ q) s s.heap := by
    obtain ⟨scr, q1, q2, q3, q4, q5⟩ := hX
    exact ⟨scr, q1, q2, q3, Nat.le_of_eq q4.symm, by rw [q4], q5, hA b hbl⟩
  obtain ⟨dC, dI, hK⟩ := wo_K hts
  obtain ⟨aC, hC⟩ := wo_A hts
  have fin : ∀ (f8 : Nat) (fm : Int) (vm : Value), (∀ X : State → Prop, eV ((l, s.heap, adW b f8 wy adK adV, (dC, dI), aC, X) : EV) (aP fm) = vm) → va_Z "jdk/internal/util/Preconditions" "SIOOBE_FORMATTER" "Ljava/util/function/BiFunction;" vm (fun q => s.heap.size ≤ q) s s.heap → ∃ E : EV, E.1 = l ∧ E.2.1 = s.heap ∧ E.2.2.1 7 = b ∧ EnvOK E s ∧ TxE E ∧ StrE E ∧ XT E (-7) .int L (fun j => (xs j).toInt) := by
    intro f8 fm vm hv z2
    have hx := wo_X (s := s) rfl hts z1 z2 z3 z4 z5 z6 hev hf
    have hTX := wo_T (E := ((l, s.heap, adW b f8 wy adK adV, (dC, dI), aC, XX s.heap b L xs vm wy adK adV) : EV)) (H0 := s.heap) (b := b) (L := L) (xs := xs) (fm := fm) (f8 := f8) (wy := wy) (adK := adK) (adV := adV) rfl rfl (by rw [hv]) hL
    exact ⟨((l, s.heap, adW b f8 wy adK adV, (dC, dI), aC, XX s.heap b L xs vm wy adK adV) : EV), rfl, rfl, rfl, ⟨hK, hC, wo_N hts, fun u V hW h => XX.warm hW h, hx⟩, hTX.1, wo_St hTX.1 rfl rfl, hTX.2⟩
  rcases wo_isR (hf (Cond.isRef (.static "jdk/internal/util/Preconditions" "SIOOBE_FORMATTER" "Ljava/util/function/BiFunction;")) (by decide +kernel)) with h | ⟨a, h⟩
  · exact fin 0 0 .null (fun X => rfl) (va_Zof (hts (Cond.laysStatic "jdk/internal/util/Preconditions" "SIOOBE_FORMATTER" "Ljava/util/function/BiFunction;") (by decide +kernel)) (hts (Cond.initialized "jdk/internal/util/Preconditions") (by decide +kernel)) h hA)
  · exact fin a (-8) (.ref a) (fun X => rfl) (va_Zof (hts (Cond.laysStatic "jdk/internal/util/Preconditions" "SIOOBE_FORMATTER" "Ljava/util/function/BiFunction;") (by decide +kernel)) (hts (Cond.initialized "jdk/internal/util/Preconditions") (by decide +kernel)) h hA)
