theorem dJ0_isLatin1_aae02_0 : decode cJ0_isLatin1_aae02 0 = .ok (.getstatic 38, 3) := by decide +kernel
theorem dJ0_isLatin1_aae02_3 : decode cJ0_isLatin1_aae02 3 = .ok (.ifCond .eq 14, 3) := by decide +kernel
theorem dJ0_isLatin1_aae02_6 : decode cJ0_isLatin1_aae02 6 = .ok (.aload_n 0, 1) := by decide +kernel
theorem dJ0_isLatin1_aae02_7 : decode cJ0_isLatin1_aae02 7 = .ok (.getfield 15, 3) := by decide +kernel
theorem dJ0_isLatin1_aae02_10 : decode cJ0_isLatin1_aae02 10 = .ok (.ifCond .ne 7, 3) := by decide +kernel
theorem dJ0_isLatin1_aae02_13 : decode cJ0_isLatin1_aae02 13 = .ok (.iconst 1, 1) := by decide +kernel
theorem dJ0_isLatin1_aae02_14 : decode cJ0_isLatin1_aae02 14 = .ok (.goto 4, 3) := by decide +kernel
theorem dJ0_isLatin1_aae02_17 : decode cJ0_isLatin1_aae02 17 = .ok (.iconst 0, 1) := by decide +kernel
theorem dJ0_isLatin1_aae02_18 : decode cJ0_isLatin1_aae02 18 = .ok (.ireturn, 1) := by decide +kernel
theorem dJ3_checkIndex_8e157_0 : decode cJ3_checkIndex_8e157 0 = .ok (.iload_n 0, 1) := by decide +kernel
theorem dJ3_checkIndex_8e157_1 : decode cJ3_checkIndex_8e157 1 = .ok (.ifCond .lt 8, 3) := by decide +kernel
theorem dJ3_checkIndex_8e157_4 : decode cJ3_checkIndex_8e157 4 = .ok (.iload_n 0, 1) := by decide +kernel
theorem dJ3_checkIndex_8e157_5 : decode cJ3_checkIndex_8e157 5 = .ok (.iload_n 1, 1) := by decide +kernel
theorem dJ3_checkIndex_8e157_6 : decode cJ3_checkIndex_8e157 6 = .ok (.if_icmp .lt 10, 3) := by decide +kernel
theorem dJ3_checkIndex_8e157_9 : decode cJ3_checkIndex_8e157 9 = .ok (.aload_n 2, 1) := by decide +kernel
theorem dJ3_checkIndex_8e157_10 : decode cJ3_checkIndex_8e157 10 = .ok (.iload_n 0, 1) := by decide +kernel
theorem dJ3_checkIndex_8e157_11 : decode cJ3_checkIndex_8e157 11 = .ok (.iload_n 1, 1) := by decide +kernel
theorem dJ3_checkIndex_8e157_12 : decode cJ3_checkIndex_8e157 12 = .ok (.invokestatic 95, 3) := by decide +kernel
theorem dJ3_checkIndex_8e157_15 : decode cJ3_checkIndex_8e157 15 = .ok (.athrow, 1) := by decide +kernel
theorem dJ3_checkIndex_8e157_16 : decode cJ3_checkIndex_8e157 16 = .ok (.iload_n 0, 1) := by decide +kernel
theorem dJ3_checkIndex_8e157_17 : decode cJ3_checkIndex_8e157 17 = .ok (.ireturn, 1) := by decide +kernel
theorem dJ0_checkIndex_df160_0 : decode cJ0_checkIndex_df160 0 = .ok (.iload_n 0, 1) := by decide +kernel
theorem dJ0_checkIndex_df160_1 : decode cJ0_checkIndex_df160 1 = .ok (.iload_n 1, 1) := by decide +kernel
theorem dJ0_checkIndex_df160_2 : decode cJ0_checkIndex_df160 2 = .ok (.getstatic 1053, 3) := by decide +kernel
theorem dJ0_checkIndex_df160_5 : decode cJ0_checkIndex_df160 5 = .ok (.invokestatic 1059, 3) := by decide +kernel
theorem dJ0_checkIndex_df160_8 : decode cJ0_checkIndex_df160 8 = .ok (.pop, 1) := by decide +kernel
theorem dJ0_checkIndex_df160_9 : decode cJ0_checkIndex_df160 9 = .ok (.return_, 1) := by decide +kernel
theorem dJ1_charAt_3b067_0 : decode cJ1_charAt_3b067 0 = .ok (.iload_n 1, 1) := by decide +kernel
theorem dJ1_charAt_3b067_1 : decode cJ1_charAt_3b067 1 = .ok (.aload_n 0, 1) := by decide +kernel
theorem dJ1_charAt_3b067_2 : decode cJ1_charAt_3b067 2 = .ok (.arraylength, 1) := by decide +kernel
theorem dJ1_charAt_3b067_3 : decode cJ1_charAt_3b067 3 = .ok (.invokestatic 9, 3) := by decide +kernel
theorem dJ1_charAt_3b067_6 : decode cJ1_charAt_3b067 6 = .ok (.aload_n 0, 1) := by decide +kernel
theorem dJ1_charAt_3b067_7 : decode cJ1_charAt_3b067 7 = .ok (.iload_n 1, 1) := by decide +kernel
theorem dJ1_charAt_3b067_8 : decode cJ1_charAt_3b067 8 = .ok (.baload, 1) := by decide +kernel
theorem dJ1_charAt_3b067_9 : decode cJ1_charAt_3b067 9 = .ok (.sipush 255, 3) := by decide +kernel
theorem dJ1_charAt_3b067_12 : decode cJ1_charAt_3b067 12 = .ok (.iand, 1) := by decide +kernel
theorem dJ1_charAt_3b067_13 : decode cJ1_charAt_3b067 13 = .ok (.i2c, 1) := by decide +kernel
theorem dJ1_charAt_3b067_14 : decode cJ1_charAt_3b067 14 = .ok (.ireturn, 1) := by decide +kernel
theorem dJ0_charAt_5068e_0 : decode cJ0_charAt_5068e 0 = .ok (.aload_n 0, 1) := by decide +kernel
theorem dJ0_charAt_5068e_1 : decode cJ0_charAt_5068e 1 = .ok (.invokevirtual 492, 3) := by decide +kernel
theorem dJ0_charAt_5068e_4 : decode cJ0_charAt_5068e 4 = .ok (.ifCond .eq 12, 3) := by decide +kernel
theorem dJ0_charAt_5068e_7 : decode cJ0_charAt_5068e 7 = .ok (.aload_n 0, 1) := by decide +kernel
theorem dJ0_charAt_5068e_8 : decode cJ0_charAt_5068e 8 = .ok (.getfield 9, 3) := by decide +kernel
theorem dJ0_charAt_5068e_11 : decode cJ0_charAt_5068e 11 = .ok (.iload_n 1, 1) := by decide +kernel
theorem dJ0_charAt_5068e_12 : decode cJ0_charAt_5068e 12 = .ok (.invokestatic 495, 3) := by decide +kernel
theorem dJ0_charAt_5068e_15 : decode cJ0_charAt_5068e 15 = .ok (.ireturn, 1) := by decide +kernel
theorem dJ0_charAt_5068e_16 : decode cJ0_charAt_5068e 16 = .ok (.aload_n 0, 1) := by decide +kernel
theorem dJ0_charAt_5068e_17 : decode cJ0_charAt_5068e 17 = .ok (.getfield 9, 3) := by decide +kernel
theorem dJ0_charAt_5068e_20 : decode cJ0_charAt_5068e 20 = .ok (.iload_n 1, 1) := by decide +kernel
theorem dJ0_charAt_5068e_21 : decode cJ0_charAt_5068e 21 = .ok (.invokestatic 498, 3) := by decide +kernel
theorem dJ0_charAt_5068e_24 : decode cJ0_charAt_5068e 24 = .ok (.ireturn, 1) := by decide +kernel
theorem dX7_packedOwn_0 : decode cX7_packedOwn 0 = .ok (.iconst 0, 1) := by decide +kernel
theorem dX7_packedOwn_1 : decode cX7_packedOwn 1 = .ok (.istore_n 1, 1) := by decide +kernel
theorem dX7_packedOwn_2 : decode cX7_packedOwn 2 = .ok (.iconst 0, 1) := by decide +kernel
theorem dX7_packedOwn_3 : decode cX7_packedOwn 3 = .ok (.istore_n 2, 1) := by decide +kernel
theorem dX7_packedOwn_4 : decode cX7_packedOwn 4 = .ok (.iload_n 2, 1) := by decide +kernel
theorem dX7_packedOwn_5 : decode cX7_packedOwn 5 = .ok (.bipush 6, 2) := by decide +kernel
theorem dX7_packedOwn_7 : decode cX7_packedOwn 7 = .ok (.if_icmp .ge 42, 3) := by decide +kernel
theorem dX7_packedOwn_10 : decode cX7_packedOwn 10 = .ok (.ldc 26, 2) := by decide +kernel
theorem dX7_packedOwn_12 : decode cX7_packedOwn 12 = .ok (.bipush 6, 2) := by decide +kernel
theorem dX7_packedOwn_14 : decode cX7_packedOwn 14 = .ok (.iload_n 0, 1) := by decide +kernel
theorem dX7_packedOwn_15 : decode cX7_packedOwn 15 = .ok (.imul, 1) := by decide +kernel
theorem dX7_packedOwn_16 : decode cX7_packedOwn 16 = .ok (.iload_n 2, 1) := by decide +kernel
theorem dX7_packedOwn_17 : decode cX7_packedOwn 17 = .ok (.iadd, 1) := by decide +kernel
theorem dX7_packedOwn_18 : decode cX7_packedOwn 18 = .ok (.invokevirtual 28, 3) := by decide +kernel
theorem dX7_packedOwn_21 : decode cX7_packedOwn 21 = .ok (.istore_n 3, 1) := by decide +kernel
theorem dX7_packedOwn_22 : decode cX7_packedOwn 22 = .ok (.iload_n 1, 1) := by decide +kernel
theorem dX7_packedOwn_23 : decode cX7_packedOwn 23 = .ok (.iconst 5, 1) := by decide +kernel
theorem dX7_packedOwn_24 : decode cX7_packedOwn 24 = .ok (.ishl, 1) := by decide +kernel
theorem dX7_packedOwn_25 : decode cX7_packedOwn 25 = .ok (.iload_n 3, 1) := by decide +kernel
theorem dX7_packedOwn_26 : decode cX7_packedOwn 26 = .ok (.bipush 32, 2) := by decide +kernel
theorem dX7_packedOwn_28 : decode cX7_packedOwn 28 = .ok (.if_icmp .ne 7, 3) := by decide +kernel
theorem dX7_packedOwn_31 : decode cX7_packedOwn 31 = .ok (.iconst 0, 1) := by decide +kernel
theorem dX7_packedOwn_32 : decode cX7_packedOwn 32 = .ok (.goto 9, 3) := by decide +kernel
theorem dX7_packedOwn_35 : decode cX7_packedOwn 35 = .ok (.iload_n 3, 1) := by decide +kernel
theorem dX7_packedOwn_36 : decode cX7_packedOwn 36 = .ok (.bipush 97, 2) := by decide +kernel
theorem dX7_packedOwn_38 : decode cX7_packedOwn 38 = .ok (.isub, 1) := by decide +kernel
theorem dX7_packedOwn_39 : decode cX7_packedOwn 39 = .ok (.iconst 1, 1) := by decide +kernel
theorem dX7_packedOwn_40 : decode cX7_packedOwn 40 = .ok (.iadd, 1) := by decide +kernel
theorem dX7_packedOwn_41 : decode cX7_packedOwn 41 = .ok (.ior, 1) := by decide +kernel
theorem dX7_packedOwn_42 : decode cX7_packedOwn 42 = .ok (.istore_n 1, 1) := by decide +kernel
theorem dX7_packedOwn_43 : decode cX7_packedOwn 43 = .ok (.iinc 2 1, 3) := by decide +kernel
theorem dX7_packedOwn_46 : decode cX7_packedOwn 46 = .ok (.goto (-42), 3) := by decide +kernel
theorem dX7_packedOwn_49 : decode cX7_packedOwn 49 = .ok (.iload_n 1, 1) := by decide +kernel
theorem dX7_packedOwn_50 : decode cX7_packedOwn 50 = .ok (.ireturn, 1) := by decide +kernel
theorem cl_J0_isLatin1_aae02_492 : Cl RJ0 492 yJ0_isLatin1_aae02 cJ0_isLatin1_aae02 1 (some .boolean) 0 := ⟨gt_in 160 (by decide +kernel) (by decide +kernel), gt_in 119 (by decide +kernel) (by decide +kernel), gt_in 163 (by decide +kernel) (by decide +kernel), by decide, by decide +kernel⟩
theorem cl_J3_checkIndex_8e157_1059 : Cl RJ0 1059 yJ3_checkIndex_8e157 cJ3_checkIndex_8e157 3 (some .int) 3 := ⟨gt_in 174 (by decide +kernel) (by decide +kernel), gt_in 121 (by decide +kernel) (by decide +kernel), gt_in 176 (by decide +kernel) (by decide +kernel), by decide, by decide +kernel⟩
theorem cl_J0_checkIndex_df160_9 : Cl RJ1 9 yJ0_checkIndex_df160 cJ0_checkIndex_df160 2 none 2 := ⟨gt_in 169 (by decide +kernel) (by decide +kernel), gt_in 119 (by decide +kernel) (by decide +kernel), gt_in 171 (by decide +kernel) (by decide +kernel), by decide, by decide +kernel⟩
theorem cl_J1_charAt_3b067_495 : Cl RJ0 495 yJ1_charAt_3b067 cJ1_charAt_3b067 2 (some .char) 2 := ⟨gt_in 166 (by decide +kernel) (by decide +kernel), gt_in 120 (by decide +kernel) (by decide +kernel), gt_in 168 (by decide +kernel) (by decide +kernel), by decide, by decide +kernel⟩
theorem cl_J0_charAt_5068e_28 : Cl RX7 28 yJ0_charAt_5068e cJ0_charAt_5068e 2 (some .char) 1 := ⟨gt_in 156 (by decide +kernel) (by decide +kernel), gt_in 119 (by decide +kernel) (by decide +kernel), gt_in 159 (by decide +kernel) (by decide +kernel), by decide, by decide +kernel⟩
theorem cl_X7_packedOwn_22 : Cl RX7 22 yX7_packedOwn cX7_packedOwn 4 (some .int) 1 := ⟨gt_in 152 (by decide +kernel) (by decide +kernel), gt_in 118 (by decide +kernel) (by decide +kernel), gt_in 154 (by decide +kernel) (by decide +kernel), by decide, by decide +kernel⟩
theorem st_J3_checkIndex_8e157 : Cond.static yJ3_checkIndex_8e157 ∈ GT := gt_in 175 (by decide +kernel) (by decide +kernel)
theorem st_J0_checkIndex_df160 : Cond.static yJ0_checkIndex_df160 ∈ GT := gt_in 170 (by decide +kernel) (by decide +kernel)
theorem st_J1_charAt_3b067 : Cond.static yJ1_charAt_3b067 ∈ GT := gt_in 167 (by decide +kernel) (by decide +kernel)
theorem st_X7_packedOwn : Cond.static yX7_packedOwn ∈ GT := gt_in 153 (by decide +kernel) (by decide +kernel)
theorem im_J0_isLatin1_aae02 : Cond.instanceMethod yJ0_isLatin1_aae02 ∈ GT := gt_in 161 (by decide +kernel) (by decide +kernel)
theorem se_J0_isLatin1_aae02 : Cond.selects "java/lang/String" yJ0_isLatin1_aae02 yJ0_isLatin1_aae02 ∈ GT := gt_in 162 (by decide +kernel) (by decide +kernel)
theorem im_J0_charAt_5068e : Cond.instanceMethod yJ0_charAt_5068e ∈ GT := gt_in 157 (by decide +kernel) (by decide +kernel)
theorem se_J0_charAt_5068e : Cond.selects "java/lang/String" yJ0_charAt_5068e yJ0_charAt_5068e ∈ GT := gt_in 158 (by decide +kernel) (by decide +kernel)
theorem fl_38 : Cond.fieldLink RJ0 38 "java/lang/String" "COMPACT_STRINGS" "Z" ∈ GT := gt_in 164 (by decide +kernel) (by decide +kernel)
theorem fl_15 : Cond.fieldLink RJ0 15 "java/lang/String" "coder" "B" ∈ GT := gt_in 1912 (by decide +kernel) (by decide +kernel)
theorem fl_9 : Cond.fieldLink RJ0 9 "java/lang/String" "value" "[B" ∈ GT := gt_in 1913 (by decide +kernel) (by decide +kernel)
theorem fl_1053 : Cond.fieldLink RJ0 1053 "jdk/internal/util/Preconditions" "SIOOBE_FORMATTER" "Ljava/util/function/BiFunction;" ∈ GT := gt_in 172 (by decide +kernel) (by decide +kernel)
theorem oc_ok : ∀ i, i < 144 → (0 ≤ oc i ∧ oc i < 128) ∧ zand (oc i) 255 = oc i ∧ ((iI (oc i)).toUInt32 % 65536).toInt32 = iI (oc i) := by decide +kernel
theorem own_nar {i : Nat} (h : i < 144) : narrow .char (.int (iI (oc i))) = .int (iI (oc i)) := by
  have := (oc_ok i h).2.2
  simp only [narrow]
  first | rw [this] | simp [this]
theorem t_lat {l : Launch} {Y : YT} {g : Nat × Nat × Nat} : CtrT l Y yJ0_isLatin1_aae02 cJ0_isLatin1_aae02 1 (some .boolean) 0 [.ref g.1] g (Qti 1) := by
  refine ctrt_of (by decide) (Nat.le_of_ble_eq_true rfl) [(0, .ref g.1)] rfl (fun A X hl C hs hR => ?_)
  refine k_cst C hs fl_38 dJ0_isLatin1_aae02_0 ?_
  refine k_if_eq (tgt := 17) C dJ0_isLatin1_aae02_3 (by decide) (by decide) (fun z => absurd z (by decide)) (fun _ => ?_)
  refine k_aload (q := 0) C dJ0_isLatin1_aae02_6 rfl rfl ?_
  refine k_cod C hs fl_15 dJ0_isLatin1_aae02_7 ?_
  refine k_if_ne (tgt := 17) C dJ0_isLatin1_aae02_10 (by decide) (by decide) (fun z => absurd rfl z) (fun _ => ?_)
  refine k_iconst C dJ0_isLatin1_aae02_13 ?_
  refine k_goto (tgt := 18) C dJ0_isLatin1_aae02_14 (by decide) ?_
  exact k_retn C hR dJ0_isLatin1_aae02_18 (by decide +kernel)
theorem t_pck0 {l : Launch} {Y : YT} {g : Nat × Nat × Nat} {i n : Int} {v : Value} (hv : (lg_sl [vI i, vI n, v]).length ≤ 3) (h : 0 ≤ i ∧ i < n) (hn : inI n) : CtrT l Y yJ3_checkIndex_8e157 cJ3_checkIndex_8e157 3 (some .int) 0 [vI i, vI n, v] g (Qti i) := by
  refine ctrt_of (by decide) hv [(0, vI i), (1, vI n), (2, v)] rfl (fun A X hl C hs hR => ?_)
  refine k_iload (q := 0) C dJ3_checkIndex_8e157_0 rfl rfl ?_
  refine k_if_lt (tgt := 9) C dJ3_checkIndex_8e157_1 (by decide) (by omega) (fun z => absurd z (by omega)) (fun _ => ?_)
  refine k_iload (q := 0) C dJ3_checkIndex_8e157_4 rfl rfl ?_
  refine k_iload (q := 1) C dJ3_checkIndex_8e157_5 rfl rfl ?_
  refine k_lt (tgt := 16) C dJ3_checkIndex_8e157_6 (by decide) (by omega) hn (fun _ => ?_) (fun z => absurd h.2 z)
  refine k_iload (q := 0) C dJ3_checkIndex_8e157_16 rfl rfl ?_
  exact k_reti C hR dJ3_checkIndex_8e157_17
theorem t_pck {l : Launch} {Y : YT} {g : Nat × Nat × Nat} {i n : Int} {z : Nat} (h : 0 ≤ i ∧ i < n) (hn : inI n) : CtrT l Y yJ3_checkIndex_8e157 cJ3_checkIndex_8e157 3 (some .int) 0 [vI i, vI n, fz z] g (Qti i) := t_pck0 (by cases z <;> exact Nat.le_of_ble_eq_true rfl) h hn
theorem t_sck {l : Launch} {Y : YT} {g : Nat × Nat × Nat} {i n : Int} (h : 0 ≤ i ∧ i < n) (hn : inI n) : CtrT l Y yJ0_checkIndex_df160 cJ0_checkIndex_df160 2 none 1 [vI i, vI n] g Qtv := by
  refine ctrt_of (by decide) (Nat.le_of_ble_eq_true rfl) [(0, vI i), (1, vI n)] rfl (fun A X hl C hs hR => ?_)
  refine k_iload (q := 0) C dJ0_checkIndex_df160_0 rfl rfl ?_
  refine k_iload (q := 1) C dJ0_checkIndex_df160_1 rfl rfl ?_
  refine k_frm C hs fl_1053 dJ0_checkIndex_df160_2 ?_
  refine k_cS (As := [vI i, vI n, fz g.2.2]) C hs cl_J3_checkIndex_8e157_1059 st_J3_checkIndex_8e157 dJ0_checkIndex_df160_5 rfl (Nat.le_of_ble_eq_true rfl) rfl (by decide) (Nat.le_refl _) (Nat.le_refl _) (t_pck h hn) ?_
  refine k_pop C dJ0_checkIndex_df160_8 rfl ?_
  exact k_rett C hR dJ0_checkIndex_df160_9
theorem t_lch {l : Launch} {Y : YT} {g : Nat × Nat × Nat} {i : Nat} (h : i < 144) : CtrT l Y yJ1_charAt_3b067 cJ1_charAt_3b067 2 (some .char) 2 [.ref g.2.1, vI i] g (Qti (oc i)) := by
  refine ctrt_of (by decide) (Nat.le_of_ble_eq_true rfl) [(0, .ref g.2.1), (1, vI i)] rfl (fun A X hl C hs hR => ?_)
  refine k_iload (q := 1) C dJ1_charAt_3b067_0 rfl rfl ?_
  refine k_aload (q := 0) C dJ1_charAt_3b067_1 rfl rfl ?_
  refine k_len C hs dJ1_charAt_3b067_2 ?_
  refine k_cSv (As := [vI i, vI 144]) C hs cl_J0_checkIndex_df160_9 st_J0_checkIndex_df160 dJ1_charAt_3b067_3 rfl (Nat.le_of_ble_eq_true rfl) rfl (by decide) (Nat.le_refl _) (Nat.le_refl _) (t_sck (by omega) (by decide)) ?_
  refine k_aload (q := 0) C dJ1_charAt_3b067_6 rfl rfl ?_
  refine k_iload (q := 1) C dJ1_charAt_3b067_7 rfl rfl ?_
  refine k_tb C hs h dJ1_charAt_3b067_8 ?_
  refine k_sipush (v := 255) C dJ1_charAt_3b067_9 (by decide +kernel) ?_
  refine k_iand C dJ1_charAt_3b067_12 (oc_ok i h).2.1 ?_
  refine k_i2c C dJ1_charAt_3b067_13 (oc_ok i h).2.2 ?_
  exact k_retn C hR dJ1_charAt_3b067_14 (own_nar h)
theorem t_chr {l : Launch} {Y : YT} {g : Nat × Nat × Nat} {i : Nat} (h : i < 144) : CtrT l Y yJ0_charAt_5068e cJ0_charAt_5068e 2 (some .char) 3 [.ref g.1, vI i] g (Qti (oc i)) := by
  refine ctrt_of (by decide) (Nat.le_of_ble_eq_true rfl) [(0, .ref g.1), (1, vI i)] rfl (fun A X hl C hs hR => ?_)
  refine k_aload (q := 0) C dJ0_charAt_5068e_0 rfl rfl ?_
  refine k_cV (As := []) C hs cl_J0_isLatin1_aae02_492 im_J0_isLatin1_aae02 se_J0_isLatin1_aae02 dJ0_charAt_5068e_1 rfl (Nat.le_of_ble_eq_true rfl) rfl (by decide : 0 + 1 ≤ 3) (Nat.le_refl _) (Nat.le_refl _) t_lat ?_
  refine k_if_eq (tgt := 16) C dJ0_charAt_5068e_4 (by decide) (by decide) (fun z => absurd z (by decide)) (fun _ => ?_)
  refine k_aload (q := 0) C dJ0_charAt_5068e_7 rfl rfl ?_
  refine k_val C hs fl_9 dJ0_charAt_5068e_8 ?_
  refine k_iload (q := 1) C dJ0_charAt_5068e_11 rfl rfl ?_
  refine k_cS (As := [.ref g.2.1, vI i]) C hs cl_J1_charAt_3b067_495 st_J1_charAt_3b067 dJ0_charAt_5068e_12 rfl (Nat.le_of_ble_eq_true rfl) rfl (by decide) (Nat.le_refl _) (Nat.le_refl _) (t_lch h) ?_
  exact k_retn C hR dJ0_charAt_5068e_15 (own_nar h)
/-- the own name k, packed, after i letters -/
def pkv (k : Nat) : Nat → Int
  | 0 => 0
  | i + 1 => zor (zshl (pkv k i) 5) (if oc (6 * k + i) = 32 then 0 else oc (6 * k + i) - 97 + 1)
theorem t_pk {l : Launch} {Y : YT} {g : Nat × Nat × Nat} {k : Nat} (hk : k < 24) : CtrT l Y yX7_packedOwn cX7_packedOwn 4 (some .int) 4 [vI k] g (Qti (pkv k 6)) := by
  refine ctrt_of (by decide) (Nat.le_of_ble_eq_true rfl) [(0, vI k)] rfl (fun A X hl C hs hR => ?_)
  refine k_iconst C dX7_packedOwn_0 ?_
  refine k_istore (lv' := [(1, vI 0), (0, vI k)]) C dX7_packedOwn_1 rfl (by decide) rfl ?_
  refine k_iconst C dX7_packedOwn_2 ?_
  refine k_istore (lv' := [(2, vI 0), (1, vI 0), (0, vI k)]) C dX7_packedOwn_3 rfl (by decide) rfl ?_
  have loop : ∀ n i : Nat, i + n = 6 → KG (Y.1, Y.2.1, Y.2.2.1, A) X 4 4 [(2, vI i), (1, vI (pkv k i)), (0, vI k)] [] [] 0 0 := by
    intro n
    induction n with
    | zero =>
      intro i hi
      have e : i = 6 := by omega
      subst e
      refine k_iload (q := 0) C dX7_packedOwn_4 rfl rfl ?_
      refine k_bipush (v := 6) C dX7_packedOwn_5 (by decide +kernel) ?_
      refine k_ge (tgt := 49) C dX7_packedOwn_7 (by decide) (by decide) (by decide) (fun _ => ?_) (fun z => absurd (by decide) z)
      refine k_iload (q := 1) C dX7_packedOwn_49 rfl rfl ?_
      exact k_reti C hR dX7_packedOwn_50
    | succ n ih =>
      intro i hi
      have hlt : 6 * k + i < 144 := by omega
      have hc := (oc_ok _ hlt).1
      refine k_iload (q := 0) C dX7_packedOwn_4 rfl rfl ?_
      refine k_bipush (v := 6) C dX7_packedOwn_5 (by decide +kernel) ?_
      refine k_ge (tgt := 49) C dX7_packedOwn_7 (by decide) (by omega) (by decide) (fun z => absurd z (by omega)) (fun _ => ?_)
      refine k_lds C hs dX7_packedOwn_10 ?_
      refine k_bipush (v := 6) C dX7_packedOwn_12 (by decide +kernel) ?_
      refine k_iload (q := 2) C dX7_packedOwn_14 rfl rfl ?_
      refine k_imul C dX7_packedOwn_15 rfl ?_
      refine k_iload (q := 0) C dX7_packedOwn_16 rfl rfl ?_
      refine k_iadd (z := ((6 * k + i : Nat) : Int)) C dX7_packedOwn_17 (by omega) ?_
      refine k_cV (As := [vI ((6 * k + i : Nat) : Int)]) C hs cl_J0_charAt_5068e_28 im_J0_charAt_5068e se_J0_charAt_5068e dX7_packedOwn_18 rfl (Nat.le_of_ble_eq_true rfl) rfl (by decide) (Nat.le_refl _) (Nat.le_refl _) (t_chr hlt) ?_
      refine k_istore (lv' := [(3, vI (oc (6 * k + i))), (2, vI i), (1, vI (pkv k i)), (0, vI k)]) C dX7_packedOwn_21 rfl (by decide) rfl ?_
      refine k_iload (q := 2) C dX7_packedOwn_22 rfl rfl ?_
      refine k_iconst C dX7_packedOwn_23 ?_
      refine k_ishl C dX7_packedOwn_24 rfl ?_
      refine k_iload (q := 0) C dX7_packedOwn_25 rfl rfl ?_
      refine k_bipush (v := 32) C dX7_packedOwn_26 (by decide +kernel) ?_
      have fin : KG (Y.1, Y.2.1, Y.2.2.1, A) X 4 41 [(3, vI (oc (6 * k + i))), (2, vI i), (1, vI (pkv k i)), (0, vI k)] [vI (if oc (6 * k + i) = 32 then 0 else oc (6 * k + i) - 97 + 1), vI (zshl (pkv k i) 5)] [] 0 0 := by
        refine k_ior (z := pkv k (i + 1)) C dX7_packedOwn_41 rfl ?_
        refine k_istore (lv' := [(1, vI (pkv k (i + 1))), (3, vI (oc (6 * k + i))), (2, vI i), (0, vI k)]) C dX7_packedOwn_42 rfl (by decide) rfl ?_
        refine k_iinc (q := 2) (v := ((i + 1 : Nat) : Int)) (lv' := [(2, vI ((i + 1 : Nat) : Int)), (1, vI (pkv k (i + 1))), (3, vI (oc (6 * k + i))), (0, vI k)]) C dX7_packedOwn_43 rfl (by omega) (by decide) rfl ?_
        refine k_goto (tgt := 4) C dX7_packedOwn_46 (by decide) ?_
        exact k_sub [0, 1, 3] rfl (ih (i + 1) (by omega))
      refine k_ne (tgt := 35) C dX7_packedOwn_28 (by decide) (by omega) (by decide) (fun z => ?_) (fun z => ?_)
      · rw [if_neg z] at fin
        refine k_iload (q := 0) C dX7_packedOwn_35 rfl rfl ?_
        refine k_bipush (v := 97) C dX7_packedOwn_36 (by decide +kernel) ?_
        refine k_isub C dX7_packedOwn_38 rfl ?_
        refine k_iconst C dX7_packedOwn_39 ?_
        refine k_iadd C dX7_packedOwn_40 rfl ?_
        exact fin
      · rw [if_pos z] at fin
        refine k_iconst C dX7_packedOwn_31 ?_
        refine k_goto (tgt := 41) C dX7_packedOwn_32 (by decide) ?_
        exact fin
  exact loop 6 0 rfl
