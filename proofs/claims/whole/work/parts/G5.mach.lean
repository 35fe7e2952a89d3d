/-! ON THE MACHINE: what was there before the law began: static fields, texts, rows -/
def agr (E : EV) (H : Heap) : Prop := ∀ q, q < eBase E → H[q]? = E.2.1[q]?
def XZ (E : EV) (C n d : String) (v : AV) : Prop := ∀ (U : State) (H : Heap), E.2.2.2.2.2 U → agr E H → va_Z C n d (eV E v) (frE E) U H
def XO (E : EV) (a : Int) (o n d : String) (v : AV) : Prop := a < 0 ∧ ∀ (U : State) (H : Heap), E.2.2.2.2.2 U → agr E H → va_OF o n d (eV E v) (E.2.2.1 (-a).toNat) (frE E) U H
def XT (E : EV) (a : Int) (ty : FieldType) (L : Nat) (f : Nat → Int) : Prop := a < 0 ∧ L ≤ 100000 ∧ ∀ (U : State) (H : Heap), E.2.2.2.2.2 U → agr E H → va_T ty (E.2.2.1 (-a).toNat) L (fun j => .int (Int32.ofInt (f j))) (frE E) U H
section GMach
variable {E : EV} {M : MI} {d pc : Nat} {ls : List (Nat × AV)} {st : List AV} {σ : St} {Q : Option AV → St → Prop}
theorem s_getsX {C n dd : String} {v : AV} {idx : Nat} (hd : decode M.2.1 pc = .ok (.getstatic idx, 3)) (hl : Cond.fieldLink M.1.cls idx C n dd ∈ lw_tbl) (hx : XZ E C n dd v) (k : WP E M d (pc + 3) ls (v :: st) σ Q) : WP E M d pc ls st σ Q := by
  refine run_mem (σ1 := σ) rfl (fun p e R s m args below meth c H locs cells slots Z lsA hM hE hlo hL z => ?_) k
  obtain ⟨hx1, hb, hml, hr, hown, hts, hlk, hnam, hEn⟩ := hM
  obtain ⟨cf, kf, fi, f, a, cell, h1, h2, h3, h4, h5, h6, h7, h8⟩ := hx s H hEn.2.2.2.2 hE.2.1
  exact W.gets hx1 hb hown (hts _ (lg_mem hl rfl)) h1 h2 h3 h4 h5 (fun e => by rw [e] at h6; cases h6) h7 rfl hd (z H locs hE hlo)
theorem s_getfX {a : Int} {C n dd : String} {v : AV} {idx : Nat} (hd : decode M.2.1 pc = .ok (.getfield idx, 3)) (hl : Cond.fieldLink M.1.cls idx C n dd ∈ lw_tbl) (hx : XO E a C n dd v) (k : WP E M d (pc + 3) ls (v :: st) σ Q) : WP E M d pc ls (aP a :: st) σ Q := by
  refine run_mem (σ1 := σ) rfl (fun p e R s m args below meth c H locs cells slots Z lsA hM hE hlo hL z => ?_) k
  obtain ⟨hx1, hb, hml, hr, hown, hts, hlk, hnam, hEn⟩ := hM
  obtain ⟨cf, kf, fi, f, cell, h1, h2, h3, h4, h5, h6⟩ := hx.2 s H hEn.2.2.2.2 hE.2.1
  show W p E.1 e R s m args below meth c H locs cells slots Z (F0 m pc lsA (eR E a :: eS E st))
  rw [eR_neg E hx.1]
  exact W.getf hx1 hb hown (hts _ (lg_mem hl rfl)) h1 h2 h3 h4 h5 rfl rfl hd (z H locs hE hlo)
theorem s_alenX {a : Int} {ty : FieldType} {L : Nat} {f : Nat → Int} (hd : decode M.2.1 pc = .ok (.arraylength, 1)) (hx : XT E a ty L f) (k : WP E M d (pc + 1) ls (aI L :: st) σ Q) : WP E M d pc ls (aP a :: st) σ Q := by
  refine run_mem (σ1 := σ) rfl (fun p e R s m args below meth c H locs cells slots Z lsA hM hE hlo hL z => ?_) k
  obtain ⟨hx1, hb, hml, hr, hown, hts, hlk, hnam, hEn⟩ := hM
  obtain ⟨cell, h1, h2, h3, h4, h5, h6, h7⟩ := hx.2.2 s H hEn.2.2.2.2 hE.2.1
  show W p E.1 e R s m args below meth c H locs cells slots Z (F0 m pc lsA (eR E a :: eS E st))
  rw [eR_neg E hx.1]
  refine W.alen (n := Int32.ofInt (L : Int)) hx1 hb h1 h2 (h5.trans ?_) rfl rfl hd (z H locs hE hlo)
  exact (Int32.ofInt_eq_ofNat).symm
theorem s_ialdX {a i : Int} {L : Nat} {f : Nat → Int} (hd : decode M.2.1 pc = .ok (.iaload, 1)) (hx : XT E a .int L f) (hi : 0 ≤ i ∧ i < L) (k : WP E M d (pc + 1) ls (aI (f i.toNat) :: st) σ Q) : WP E M d pc ls (aI i :: aP a :: st) σ Q := by
  refine run_mem (σ1 := σ) rfl (fun p e R s m args below meth c H locs cells slots Z lsA hM hE hlo hL z => ?_) k
  obtain ⟨hx1, hb, hml, hr, hown, hts, hlk, hnam, hEn⟩ := hM
  obtain ⟨cell, h1, h2, h3, h4, h5, h6, h7⟩ := hx.2.2 s H hEn.2.2.2.2 hE.2.1
  have hl1 := hx.2.1
  show W p E.1 e R s m args below meth c H locs cells slots Z (F0 m pc lsA (.int (Int32.ofInt i) :: eR E a :: eS E st))
  rw [eR_neg E hx.1]
  have en : (Int32.ofInt i).toNatClampNeg = i.toNat := tN hi.1 (by omega)
  refine W.iald (v := .int (Int32.ofInt (f i.toNat))) hx1 hb h1 h2 h3 ?_ (by rw [en]; exact h6 _ (by omega)) rfl rfl hd (z H locs hE hlo)
  have := inN (n := L) hi.1 (by omega) hi.2
  intro q
  rcases q with q | q
  · exact this (Or.inl q)
  · exact this (Or.inr (by omega))
theorem s_baldX {a i : Int} {L : Nat} {f : Nat → Int} (hd : decode M.2.1 pc = .ok (.baload, 1)) (hx : XT E a .byte L f) (hi : 0 ≤ i ∧ i < L) (k : WP E M d (pc + 1) ls (aI (f i.toNat) :: st) σ Q) : WP E M d pc ls (aI i :: aP a :: st) σ Q := by
  refine run_mem (σ1 := σ) rfl (fun p e R s m args below meth c H locs cells slots Z lsA hM hE hlo hL z => ?_) k
  obtain ⟨hx1, hb, hml, hr, hown, hts, hlk, hnam, hEn⟩ := hM
  obtain ⟨cell, h1, h2, h3, h4, h5, h6, h7⟩ := hx.2.2 s H hEn.2.2.2.2 hE.2.1
  have hl1 := hx.2.1
  show W p E.1 e R s m args below meth c H locs cells slots Z (F0 m pc lsA (.int (Int32.ofInt i) :: eR E a :: eS E st))
  rw [eR_neg E hx.1]
  have en : (Int32.ofInt i).toNatClampNeg = i.toNat := tN hi.1 (by omega)
  refine W.bald (v := .int (Int32.ofInt (f i.toNat))) hx1 hb h1 h2 h3 ?_ (by rw [en]; exact h6 _ (by omega)) rfl rfl hd (z H locs hE hlo)
  have := inN (n := L) hi.1 (by omega) hi.2
  intro q
  rcases q with q | q
  · exact this (Or.inl q)
  · exact this (Or.inr (by omega))
theorem s_nreturn {v : Int} {ty : FieldType} (hd : decode M.2.1 pc = .ok (.ireturn, 1)) (hr : M.2.2.2 = some ty) (hv : narrow ty (.int (Int32.ofInt v)) = .int (Int32.ofInt v)) (hq : Q (some (aI v)) σ) : WP E M d pc ls [aI v] σ Q :=
  run_end (fun p e R s m args below meth c H locs cells slots lsA hM hE hlo => W.zret (ty := ty) hM.1 hM.2.1 (hM.2.2.2.1.trans hr) hv (fun t ht hW => ⟨rfl, by rw [ht]; exact hE⟩) hlo hd (hlocks := hM.2.2.2.2.2.2.1)) hq
theorem s_i2c {v : Int} (hd : decode M.2.1 pc = .ok (.i2c, 1)) (hv : ((Int32.ofInt v).toUInt32 % 65536).toInt32 = Int32.ofInt v) (k : WP E M d (pc + 1) ls (aI v :: st) σ Q) : WP E M d pc ls (aI v :: st) σ Q :=
  run_pure (fun p e R s m args below meth c H locs cells slots Z lsA hM hl z => lv_i2c hM.1 hM.2.1 hd hv (z _ hl)) k
end GMach
theorem ok_String_coder : MOK m_String_coder 0 := ⟨tm_2 (List.mem_of_getElem? (i := 108) rfl), tm_1 (List.mem_of_getElem? (i := 10) rfl), by decide +kernel, by decide, by decide +kernel⟩
theorem io_String_coder : Cond.instanceMethod m_String_coder.1 ∈ lw_tbl := tm_2 (List.mem_of_getElem? (i := 106) rfl)
theorem so_String_coder : Cond.selects m_String_coder.1.cls m_String_coder.1 m_String_coder.1 ∈ lw_tbl := tm_2 (List.mem_of_getElem? (i := 107) rfl)
theorem ok_String_isLatin1 : MOK m_String_isLatin1 0 := ⟨tm_2 (List.mem_of_getElem? (i := 118) rfl), tm_1 (List.mem_of_getElem? (i := 10) rfl), by decide +kernel, by decide, by decide +kernel⟩
theorem io_String_isLatin1 : Cond.instanceMethod m_String_isLatin1.1 ∈ lw_tbl := tm_2 (List.mem_of_getElem? (i := 116) rfl)
theorem so_String_isLatin1 : Cond.selects m_String_isLatin1.1.cls m_String_isLatin1.1 m_String_isLatin1.1 ∈ lw_tbl := tm_2 (List.mem_of_getElem? (i := 117) rfl)
theorem ok_StringLatin1_charAt : MOK m_StringLatin1_charAt 2 := ⟨tm_2 (List.mem_of_getElem? (i := 121) rfl), tm_1 (List.mem_of_getElem? (i := 11) rfl), by decide +kernel, by decide, by decide +kernel⟩
theorem to_StringLatin1_charAt : Cond.static m_StringLatin1_charAt.1 ∈ lw_tbl := tm_2 (List.mem_of_getElem? (i := 120) rfl)
theorem ok_String_checkIndex : MOK m_String_checkIndex 2 := ⟨tm_2 (List.mem_of_getElem? (i := 124) rfl), tm_1 (List.mem_of_getElem? (i := 10) rfl), by decide +kernel, by decide, by decide +kernel⟩
theorem to_String_checkIndex : Cond.static m_String_checkIndex.1 ∈ lw_tbl := tm_2 (List.mem_of_getElem? (i := 123) rfl)
theorem ok_Preconditions_checkIndex : MOK m_Preconditions_checkIndex 3 := ⟨tm_2 (List.mem_of_getElem? (i := 129) rfl), tm_1 (List.mem_of_getElem? (i := 12) rfl), by decide +kernel, by decide, by decide +kernel⟩
theorem to_Preconditions_checkIndex : Cond.static m_Preconditions_checkIndex.1 ∈ lw_tbl := tm_2 (List.mem_of_getElem? (i := 128) rfl)
theorem lk_String_335 : LK "java/lang/String" 335 m_String_coder := Or.inl (tm_2 (List.mem_of_getElem? (i := 105) rfl))
theorem lk_String_492 : LK "java/lang/String" 492 m_String_isLatin1 := Or.inl (tm_2 (List.mem_of_getElem? (i := 115) rfl))
theorem lk_String_495 : LK "java/lang/String" 495 m_StringLatin1_charAt := Or.inl (tm_2 (List.mem_of_getElem? (i := 119) rfl))
theorem lk_StringLatin1_9 : LK "java/lang/StringLatin1" 9 m_String_checkIndex := Or.inl (tm_2 (List.mem_of_getElem? (i := 122) rfl))
theorem lk_String_1059 : LK "java/lang/String" 1059 m_Preconditions_checkIndex := Or.inl (tm_2 (List.mem_of_getElem? (i := 127) rfl))
theorem fs_String_38 : Cond.fieldLink "java/lang/String" 38 "java/lang/String" "COMPACT_STRINGS" "Z" ∈ lw_tbl := tm_2 (List.mem_of_getElem? (i := 109) rfl)
theorem fs_String_15 : Cond.fieldLink "java/lang/String" 15 "java/lang/String" "coder" "B" ∈ lw_tbl := tm_8 (List.mem_of_getElem? (i := 199) rfl)
theorem fs_String_9 : Cond.fieldLink "java/lang/String" 9 "java/lang/String" "value" "[B" ∈ lw_tbl := tm_8 (List.mem_of_getElem? (i := 198) rfl)
theorem fs_String_1053 : Cond.fieldLink "java/lang/String" 1053 "jdk/internal/util/Preconditions" "SIOOBE_FORMATTER" "Ljava/util/function/BiFunction;" ∈ lw_tbl := tm_2 (List.mem_of_getElem? (i := 125) rfl)
theorem fs_Arranger_57 : Cond.fieldLink "SignSquares$Arranger" 57 "SignSquares$Arranger" "WAYS" "[I" ∈ lw_tbl := tm_5 (List.mem_of_getElem? (i := 146) rfl)
