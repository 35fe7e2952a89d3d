/-! TEXTS AND THE TABLE OF WAYS -/
theorem d_String_coder_0 : decode m_String_coder.2.1 0 = .ok (.getstatic 38, 3) := by decide +kernel
theorem d_String_coder_3 : decode m_String_coder.2.1 3 = .ok (.ifCond .eq 10, 3) := by decide +kernel
theorem d_String_coder_6 : decode m_String_coder.2.1 6 = .ok (.aload_n 0, 1) := by decide +kernel
theorem d_String_coder_7 : decode m_String_coder.2.1 7 = .ok (.getfield 15, 3) := by decide +kernel
theorem d_String_coder_10 : decode m_String_coder.2.1 10 = .ok (.goto 4, 3) := by decide +kernel
theorem d_String_coder_14 : decode m_String_coder.2.1 14 = .ok (.ireturn, 1) := by decide +kernel
theorem d_String_length_0 : decode m_String_length.2.1 0 = .ok (.aload_n 0, 1) := by decide +kernel
theorem d_String_length_1 : decode m_String_length.2.1 1 = .ok (.getfield 9, 3) := by decide +kernel
theorem d_String_length_4 : decode m_String_length.2.1 4 = .ok (.arraylength, 1) := by decide +kernel
theorem d_String_length_5 : decode m_String_length.2.1 5 = .ok (.aload_n 0, 1) := by decide +kernel
theorem d_String_length_6 : decode m_String_length.2.1 6 = .ok (.invokevirtual 335, 3) := by decide +kernel
theorem d_String_length_9 : decode m_String_length.2.1 9 = .ok (.ishr, 1) := by decide +kernel
theorem d_String_length_10 : decode m_String_length.2.1 10 = .ok (.ireturn, 1) := by decide +kernel
theorem d_String_isLatin1_0 : decode m_String_isLatin1.2.1 0 = .ok (.getstatic 38, 3) := by decide +kernel
theorem d_String_isLatin1_3 : decode m_String_isLatin1.2.1 3 = .ok (.ifCond .eq 14, 3) := by decide +kernel
theorem d_String_isLatin1_6 : decode m_String_isLatin1.2.1 6 = .ok (.aload_n 0, 1) := by decide +kernel
theorem d_String_isLatin1_7 : decode m_String_isLatin1.2.1 7 = .ok (.getfield 15, 3) := by decide +kernel
theorem d_String_isLatin1_10 : decode m_String_isLatin1.2.1 10 = .ok (.ifCond .ne 7, 3) := by decide +kernel
theorem d_String_isLatin1_13 : decode m_String_isLatin1.2.1 13 = .ok (.iconst 1, 1) := by decide +kernel
theorem d_String_isLatin1_14 : decode m_String_isLatin1.2.1 14 = .ok (.goto 4, 3) := by decide +kernel
theorem d_String_isLatin1_18 : decode m_String_isLatin1.2.1 18 = .ok (.ireturn, 1) := by decide +kernel
theorem d_String_charAt_0 : decode m_String_charAt.2.1 0 = .ok (.aload_n 0, 1) := by decide +kernel
theorem d_String_charAt_1 : decode m_String_charAt.2.1 1 = .ok (.invokevirtual 492, 3) := by decide +kernel
theorem d_String_charAt_4 : decode m_String_charAt.2.1 4 = .ok (.ifCond .eq 12, 3) := by decide +kernel
theorem d_String_charAt_7 : decode m_String_charAt.2.1 7 = .ok (.aload_n 0, 1) := by decide +kernel
theorem d_String_charAt_8 : decode m_String_charAt.2.1 8 = .ok (.getfield 9, 3) := by decide +kernel
theorem d_String_charAt_11 : decode m_String_charAt.2.1 11 = .ok (.iload_n 1, 1) := by decide +kernel
theorem d_String_charAt_12 : decode m_String_charAt.2.1 12 = .ok (.invokestatic 495, 3) := by decide +kernel
theorem d_String_charAt_15 : decode m_String_charAt.2.1 15 = .ok (.ireturn, 1) := by decide +kernel
theorem d_StringLatin1_charAt_0 : decode m_StringLatin1_charAt.2.1 0 = .ok (.iload_n 1, 1) := by decide +kernel
theorem d_StringLatin1_charAt_1 : decode m_StringLatin1_charAt.2.1 1 = .ok (.aload_n 0, 1) := by decide +kernel
theorem d_StringLatin1_charAt_2 : decode m_StringLatin1_charAt.2.1 2 = .ok (.arraylength, 1) := by decide +kernel
theorem d_StringLatin1_charAt_3 : decode m_StringLatin1_charAt.2.1 3 = .ok (.invokestatic 9, 3) := by decide +kernel
theorem d_StringLatin1_charAt_6 : decode m_StringLatin1_charAt.2.1 6 = .ok (.aload_n 0, 1) := by decide +kernel
theorem d_StringLatin1_charAt_7 : decode m_StringLatin1_charAt.2.1 7 = .ok (.iload_n 1, 1) := by decide +kernel
theorem d_StringLatin1_charAt_8 : decode m_StringLatin1_charAt.2.1 8 = .ok (.baload, 1) := by decide +kernel
theorem d_StringLatin1_charAt_9 : decode m_StringLatin1_charAt.2.1 9 = .ok (.sipush 255, 3) := by decide +kernel
theorem d_StringLatin1_charAt_12 : decode m_StringLatin1_charAt.2.1 12 = .ok (.iand, 1) := by decide +kernel
theorem d_StringLatin1_charAt_13 : decode m_StringLatin1_charAt.2.1 13 = .ok (.i2c, 1) := by decide +kernel
theorem d_StringLatin1_charAt_14 : decode m_StringLatin1_charAt.2.1 14 = .ok (.ireturn, 1) := by decide +kernel
theorem d_String_checkIndex_0 : decode m_String_checkIndex.2.1 0 = .ok (.iload_n 0, 1) := by decide +kernel
theorem d_String_checkIndex_1 : decode m_String_checkIndex.2.1 1 = .ok (.iload_n 1, 1) := by decide +kernel
theorem d_String_checkIndex_2 : decode m_String_checkIndex.2.1 2 = .ok (.getstatic 1053, 3) := by decide +kernel
theorem d_String_checkIndex_5 : decode m_String_checkIndex.2.1 5 = .ok (.invokestatic 1059, 3) := by decide +kernel
theorem d_String_checkIndex_8 : decode m_String_checkIndex.2.1 8 = .ok (.pop, 1) := by decide +kernel
theorem d_String_checkIndex_9 : decode m_String_checkIndex.2.1 9 = .ok (.return_, 1) := by decide +kernel
theorem d_Preconditions_checkIndex_0 : decode m_Preconditions_checkIndex.2.1 0 = .ok (.iload_n 0, 1) := by decide +kernel
theorem d_Preconditions_checkIndex_1 : decode m_Preconditions_checkIndex.2.1 1 = .ok (.ifCond .lt 8, 3) := by decide +kernel
theorem d_Preconditions_checkIndex_4 : decode m_Preconditions_checkIndex.2.1 4 = .ok (.iload_n 0, 1) := by decide +kernel
theorem d_Preconditions_checkIndex_5 : decode m_Preconditions_checkIndex.2.1 5 = .ok (.iload_n 1, 1) := by decide +kernel
theorem d_Preconditions_checkIndex_6 : decode m_Preconditions_checkIndex.2.1 6 = .ok (.if_icmp .lt 10, 3) := by decide +kernel
theorem d_Preconditions_checkIndex_16 : decode m_Preconditions_checkIndex.2.1 16 = .ok (.iload_n 0, 1) := by decide +kernel
theorem d_Preconditions_checkIndex_17 : decode m_Preconditions_checkIndex.2.1 17 = .ok (.ireturn, 1) := by decide +kernel
theorem d_Arranger_waysOf_0 : decode m_Arranger_waysOf.2.1 0 = .ok (.iload_n 0, 1) := by decide +kernel
theorem d_Arranger_waysOf_1 : decode m_Arranger_waysOf.2.1 1 = .ok (.ifCond .lt 19, 3) := by decide +kernel
theorem d_Arranger_waysOf_4 : decode m_Arranger_waysOf.2.1 4 = .ok (.iload_n 0, 1) := by decide +kernel
theorem d_Arranger_waysOf_5 : decode m_Arranger_waysOf.2.1 5 = .ok (.getstatic 57, 3) := by decide +kernel
theorem d_Arranger_waysOf_8 : decode m_Arranger_waysOf.2.1 8 = .ok (.arraylength, 1) := by decide +kernel
theorem d_Arranger_waysOf_9 : decode m_Arranger_waysOf.2.1 9 = .ok (.if_icmp .ge 11, 3) := by decide +kernel
theorem d_Arranger_waysOf_12 : decode m_Arranger_waysOf.2.1 12 = .ok (.getstatic 57, 3) := by decide +kernel
theorem d_Arranger_waysOf_15 : decode m_Arranger_waysOf.2.1 15 = .ok (.iload_n 0, 1) := by decide +kernel
theorem d_Arranger_waysOf_16 : decode m_Arranger_waysOf.2.1 16 = .ok (.iaload, 1) := by decide +kernel
theorem d_Arranger_waysOf_17 : decode m_Arranger_waysOf.2.1 17 = .ok (.goto 5, 3) := by decide +kernel
theorem d_Arranger_waysOf_20 : decode m_Arranger_waysOf.2.1 20 = .ok (.bipush (-2), 2) := by decide +kernel
theorem d_Arranger_waysOf_22 : decode m_Arranger_waysOf.2.1 22 = .ok (.ireturn, 1) := by decide +kernel
def wayL : List Int := [0, 1, 2, 6, 22, 90, 394]
/-- what is known of what was there before -/
def TxE (E : EV) : Prop := XZ E "java/lang/String" "COMPACT_STRINGS" "Z" (aI 1) ∧ (∃ f : Int, XZ E "jdk/internal/util/Preconditions" "SIOOBE_FORMATTER" "Ljava/util/function/BiFunction;" (aP f)) ∧ XZ E "SignSquares$Arranger" "WAYS" "[I" (aP (-9)) ∧ XT E (-9) .int 7 (fun j => wayL.getD j 0) ∧ ∀ k : Nat, k < 6 → XR E (-((k : Int) + 1)) "java/lang/String" ∧ XO E (-((k : Int) + 1)) "java/lang/String" "coder" "B" (aI 0) ∧ XO E (-((k : Int) + 1)) "java/lang/String" "value" "[B" (aP (-((k : Int) + 10))) ∧ XT E (-((k : Int) + 10)) .byte (wd k).length (fun j => (wd k).getD j 0)
section GStr
variable {E : EV} {d : Nat} {σ : St}
theorem t_coder {k : Nat} (hT : TxE E) (hk : k < 6) : WMi E m_String_coder d [aP (-((k : Int) + 1))] σ (fun r τ => r = 0 ∧ τ = σ) := by
  obtain ⟨z1, z2, z3, z4, z5⟩ := hT
  obtain ⟨x1, x2, x3, x4⟩ := z5 k hk
  refine s_m (ls := [(0, aP (-((k : Int) + 1)))]) ?_
  refine s_getsX d_String_coder_0 fs_String_38 z1 ?_
  refine s_if_eq d_String_coder_3 rfl (by decide) (fun c => absurd c (by decide)) (fun c => ?_)
  refine s_aload_n 0 d_String_coder_6 rfl rfl ?_
  refine s_getfX d_String_coder_7 fs_String_15 x2 ?_
  refine s_goto d_String_coder_10 rfl ?_
  exact s_nreturn d_String_coder_14 rfl (by decide) (ri_p rfl)
theorem t_isLatin1 {k : Nat} (hT : TxE E) (hk : k < 6) : WMi E m_String_isLatin1 d [aP (-((k : Int) + 1))] σ (fun r τ => r = 1 ∧ τ = σ) := by
  obtain ⟨z1, z2, z3, z4, z5⟩ := hT
  obtain ⟨x1, x2, x3, x4⟩ := z5 k hk
  refine s_m (ls := [(0, aP (-((k : Int) + 1)))]) ?_
  refine s_getsX d_String_isLatin1_0 fs_String_38 z1 ?_
  refine s_if_eq d_String_isLatin1_3 rfl (by decide) (fun c => absurd c (by decide)) (fun c => ?_)
  refine s_aload_n 0 d_String_isLatin1_6 rfl rfl ?_
  refine s_getfX d_String_isLatin1_7 fs_String_15 x2 ?_
  refine s_if_ne d_String_isLatin1_10 rfl (by decide) (fun c => absurd rfl c) (fun c => ?_)
  refine s_iconst d_String_isLatin1_13 ?_
  refine s_goto d_String_isLatin1_14 rfl ?_
  exact s_zreturn d_String_isLatin1_18 rfl (by decide) (ri_p rfl)
theorem t_length {k : Nat} (hT : TxE E) (hk : k < 6) : WMi E m_String_length (d + 1) [aP (-((k : Int) + 1))] σ (fun r τ => r = (wd k).length ∧ τ = σ) := by
  obtain ⟨z1, z2, z3, z4, z5⟩ := id hT
  obtain ⟨x1, x2, x3, x4⟩ := z5 k hk
  have hsh : ∀ k, k < 6 → ishr ((wd k).length : Int) 0 = (wd k).length := by decide
  refine s_m (ls := [(0, aP (-((k : Int) + 1)))]) ?_
  refine s_aload_n 0 d_String_length_0 rfl rfl ?_
  refine s_getfX d_String_length_1 fs_String_9 x3 ?_
  refine s_alenX d_String_length_4 x4 ?_
  refine s_aload_n 0 d_String_length_5 rfl rfl ?_
  refine s_callX (as := []) d_String_length_6 ok_String_coder lk_String_335 io_String_coder so_String_coder rfl (Nat.le_of_ble_eq_true rfl) rfl x1 (WM.mono (t_coder hT hk) ?_)
  rintro _ τ ⟨v, rfl, hp, rfl, rfl⟩
  refine s_ishr d_String_length_9 ?_
  exact s_ireturn d_String_length_10 rfl (ri_p (hsh k hk))
theorem t_pre {i n : Int} {f : Int} (h : 0 ≤ i ∧ i < n) (hn : n ≤ 100000) : WMi E m_Preconditions_checkIndex d [aI i, aI n, aP f] σ (fun r τ => r = i ∧ τ = σ) := by
  refine s_m (ls := [(0, aI i), (1, aI n), (2, aP f)]) ?_
  refine s_iload_n 0 d_Preconditions_checkIndex_0 rfl rfl ?_
  refine s_if_lt d_Preconditions_checkIndex_1 rfl (by omega) (fun c => by omega) (fun c => ?_)
  refine s_iload_n 0 d_Preconditions_checkIndex_4 rfl rfl ?_
  refine s_iload_n 1 d_Preconditions_checkIndex_5 rfl rfl ?_
  refine s_icmp_lt d_Preconditions_checkIndex_6 rfl (by omega) (by omega) (fun c => ?_) (fun c => by omega)
  refine s_iload_n 0 d_Preconditions_checkIndex_16 rfl rfl ?_
  exact s_ireturn d_Preconditions_checkIndex_17 rfl (ri_p rfl)
theorem t_check {i n : Int} (hT : TxE E) (h : 0 ≤ i ∧ i < n) (hn : n ≤ 100000) : WMv E m_String_checkIndex (d + 1) [aI i, aI n] σ (fun τ => τ = σ) := by
  obtain ⟨z1, ⟨f, z2⟩, z3, z4, z5⟩ := hT
  refine s_m (ls := [(0, aI i), (1, aI n)]) ?_
  refine s_iload_n 0 d_String_checkIndex_0 rfl rfl ?_
  refine s_iload_n 1 d_String_checkIndex_1 rfl rfl ?_
  refine s_getsX d_String_checkIndex_2 fs_String_1053 z2 ?_
  refine s_callS (as := [aI i, aI n, aP f]) d_String_checkIndex_5 ok_Preconditions_checkIndex lk_String_1059 to_Preconditions_checkIndex rfl (Nat.le_of_ble_eq_true rfl) rfl (WM.mono (t_pre h hn) ?_)
  rintro _ τ ⟨v, rfl, hp, rfl, rfl⟩
  refine s_pop d_String_checkIndex_8 (Nat.ne_of_beq_eq_false rfl) ?_
  exact s_return d_String_checkIndex_9 rfl ⟨rfl, List.prefix_refl _, rfl⟩
theorem t_latin {k i : Nat} (hT : TxE E) (hk : k < 6) (hi : i < (wd k).length) : WMi E m_StringLatin1_charAt (d + 2) [aP (-((k : Int) + 10)), aI i] σ (fun r τ => r = (wd k).getD i 0 ∧ τ = σ) := by
  obtain ⟨z1, z2, z3, z4, z5⟩ := id hT
  obtain ⟨x1, x2, x3, x4⟩ := z5 k hk
  have hl := wd_len k hk
  have hfc : ∀ k, k < 6 → ∀ x ∈ wd k, iand x 255 = x ∧ ((Int32.ofInt x).toUInt32 % 65536).toInt32 = Int32.ofInt x ∧ narrow .char (.int (Int32.ofInt x)) = .int (Int32.ofInt x) := by decide
  have hmem : (wd k).getD i 0 ∈ wd k := by rw [List.getD_eq_getElem?_getD, List.getElem?_eq_getElem hi]; exact List.getElem_mem _
  obtain ⟨f1, f2, f3⟩ := hfc k hk _ hmem
  refine s_m (ls := [(0, aP (-((k : Int) + 10))), (1, aI i)]) ?_
  refine s_iload_n 1 d_StringLatin1_charAt_0 rfl rfl ?_
  refine s_aload_n 0 d_StringLatin1_charAt_1 rfl rfl ?_
  refine s_alenX d_StringLatin1_charAt_2 x4 ?_
  refine s_callS (as := [aI i, aI (wd k).length]) d_StringLatin1_charAt_3 ok_String_checkIndex lk_StringLatin1_9 to_String_checkIndex rfl (Nat.le_of_ble_eq_true rfl) rfl (WM.mono (t_check hT (by omega) (by omega)) ?_)
  rintro _ τ ⟨rfl, hp, rfl⟩
  refine s_aload_n 0 d_StringLatin1_charAt_6 rfl rfl ?_
  refine s_iload_n 1 d_StringLatin1_charAt_7 rfl rfl ?_
  refine s_baldX d_StringLatin1_charAt_8 x4 (by omega) ?_
  refine s_sipush d_StringLatin1_charAt_9 (by decide) ?_
  refine s_iand d_StringLatin1_charAt_12 ?_
  rw [show ((i : Nat) : Int).toNat = i by omega, f1]
  refine s_i2c d_StringLatin1_charAt_13 f2 ?_
  exact s_nreturn d_StringLatin1_charAt_14 rfl f3 (ri_p rfl)
theorem t_charAt {k i : Nat} (hT : TxE E) (hk : k < 6) (hi : i < (wd k).length) : WMi E m_String_charAt (d + 3) [aP (-((k : Int) + 1)), aI i] σ (fun r τ => r = (wd k).getD i 0 ∧ τ = σ) := by
  obtain ⟨z1, z2, z3, z4, z5⟩ := id hT
  obtain ⟨x1, x2, x3, x4⟩ := z5 k hk
  have hfc : ∀ k, k < 6 → ∀ x ∈ wd k, narrow .char (.int (Int32.ofInt x)) = .int (Int32.ofInt x) := by decide
  have hmem : (wd k).getD i 0 ∈ wd k := by rw [List.getD_eq_getElem?_getD, List.getElem?_eq_getElem hi]; exact List.getElem_mem _
  refine s_m (ls := [(0, aP (-((k : Int) + 1))), (1, aI i)]) ?_
  refine s_aload_n 0 d_String_charAt_0 rfl rfl ?_
  refine s_callX (as := []) d_String_charAt_1 ok_String_isLatin1 lk_String_492 io_String_isLatin1 so_String_isLatin1 rfl (Nat.le_of_ble_eq_true rfl) rfl x1 (WM.mono (t_isLatin1 hT hk) ?_)
  rintro _ τ ⟨v, rfl, hp, rfl, rfl⟩
  refine s_if_eq d_String_charAt_4 rfl (by decide) (fun c => absurd c (by decide)) (fun c => ?_)
  refine s_aload_n 0 d_String_charAt_7 rfl rfl ?_
  refine s_getfX d_String_charAt_8 fs_String_9 x3 ?_
  refine s_iload_n 1 d_String_charAt_11 rfl rfl ?_
  refine s_callS (as := [aP (-((k : Int) + 10)), aI i]) d_String_charAt_12 ok_StringLatin1_charAt lk_String_495 to_StringLatin1_charAt rfl (Nat.le_of_ble_eq_true rfl) rfl (WM.mono (t_latin hT hk hi) ?_)
  rintro _ τ2 ⟨v2, rfl, hp2, rfl, rfl⟩
  exact s_nreturn d_String_charAt_15 rfl (hfc k hk _ hmem) (ri_p rfl)
theorem TxE.ways (hT : TxE E) : WaysE E := by
  intro d σ n hn
  obtain ⟨z1, z2, z3, z4, z5⟩ := hT
  refine s_m (ls := [(0, aI n)]) ?_
  refine s_iload_n 0 d_Arranger_waysOf_0 rfl rfl ?_
  refine s_if_lt d_Arranger_waysOf_1 rfl (by omega) (fun c => by omega) (fun c => ?_)
  refine s_iload_n 0 d_Arranger_waysOf_4 rfl rfl ?_
  refine s_getsX d_Arranger_waysOf_5 fs_Arranger_57 z3 ?_
  refine s_alenX d_Arranger_waysOf_8 z4 ?_
  refine s_icmp_ge d_Arranger_waysOf_9 rfl (by omega) (by decide) (fun c => ?_) (fun c => ?_)
  · refine s_bipush d_Arranger_waysOf_20 (by decide) ?_
    refine s_ireturn d_Arranger_waysOf_22 rfl (ri_p ?_)
    rw [if_neg (by omega)]
  · refine s_getsX d_Arranger_waysOf_12 fs_Arranger_57 z3 ?_
    refine s_iload_n 0 d_Arranger_waysOf_15 rfl rfl ?_
    refine s_ialdX d_Arranger_waysOf_16 z4 (by omega) ?_
    refine s_goto d_Arranger_waysOf_17 rfl ?_
    refine s_ireturn d_Arranger_waysOf_22 rfl (ri_p ?_)
    rw [if_pos (by omega), show ((n : Nat) : Int).toNat = n by omega]
    have h7 : ∀ n, n < 7 → wayL.getD n 0 = (cN n : Int) := by decide
    exact h7 n (by omega)
end GStr
