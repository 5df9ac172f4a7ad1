theorem oi_m : Cond.instanceMethod objectInit ∈ GT := gt_in 144 (by decide +kernel) (by decide +kernel)
theorem oi_c : Cond.code objectInit ⟨#[0xb1]⟩ 1 none ∈ GT := gt_in 145 (by decide +kernel) (by decide +kernel)
theorem aw_int : Cond.arrayClass .int ∈ GT := gt_in 243 (by decide +kernel) (by decide +kernel)
theorem aw_long : Cond.arrayClass .long ∈ GT := gt_in 1452 (by decide +kernel) (by decide +kernel)
theorem aw_boolean : Cond.arrayClass .boolean ∈ GT := gt_in 1453 (by decide +kernel) (by decide +kernel)
theorem ac_int (N : Nat) (c : ClassId) : vp_cell c (N, .inl (fun _ => 0)) = arrV c N (fun _ => defaultValue .int) := rfl
theorem ac_long (N : Nat) (c : ClassId) : vp_cell c (N, .inr (.inl (fun _ => 0))) = arrV c N (fun _ => defaultValue .long) := rfl
theorem ac_boolean (N : Nat) (c : ClassId) : vp_cell c (N, .inl (fun _ => 0)) = arrV c N (fun _ => defaultValue .boolean) := rfl
theorem dX5_init_0 : decode cX5_init 0 = .ok (.aload_n 0, 1) := by decide +kernel
theorem dX5_init_1 : decode cX5_init 1 = .ok (.invokespecial 3, 3) := by decide +kernel
theorem dX5_init_4 : decode cX5_init 4 = .ok (.aload_n 0, 1) := by decide +kernel
theorem dX5_init_5 : decode cX5_init 5 = .ok (.bipush 9, 2) := by decide +kernel
theorem dX5_init_7 : decode cX5_init 7 = .ok (.newarray .int, 2) := by decide +kernel
theorem dX5_init_9 : decode cX5_init 9 = .ok (.putfield 9, 3) := by decide +kernel
theorem dX5_init_12 : decode cX5_init 12 = .ok (.aload_n 0, 1) := by decide +kernel
theorem dX5_init_13 : decode cX5_init 13 = .ok (.bipush 9, 2) := by decide +kernel
theorem dX5_init_15 : decode cX5_init 15 = .ok (.newarray .int, 2) := by decide +kernel
theorem dX5_init_17 : decode cX5_init 17 = .ok (.putfield 15, 3) := by decide +kernel
theorem dX5_init_20 : decode cX5_init 20 = .ok (.aload_n 0, 1) := by decide +kernel
theorem dX5_init_21 : decode cX5_init 21 = .ok (.bipush 9, 2) := by decide +kernel
theorem dX5_init_23 : decode cX5_init 23 = .ok (.newarray .int, 2) := by decide +kernel
theorem dX5_init_25 : decode cX5_init 25 = .ok (.putfield 18, 3) := by decide +kernel
theorem dX5_init_28 : decode cX5_init 28 = .ok (.return_, 1) := by decide +kernel
theorem kc5 : Kcl yX5_init cX5_init 1 0 := ⟨gt_in 126 (by decide +kernel) (by decide +kernel), gt_in 290 (by decide +kernel) (by decide +kernel), by decide, by decide +kernel, gt_in 289 (by decide +kernel) (by decide +kernel), rfl⟩
theorem oi5_3 : Cond.methodLink RX5 3 objectInit ∈ GT := gt_in 291 (by decide +kernel) (by decide +kernel)
theorem pf5_9 : Fpf RX5 5 1 (.array .int) := ⟨RX5, TX5, 4, rfl, rfl, rfl, by decide +kernel⟩
theorem pf5_15 : Fpf RX5 5 2 (.array .int) := ⟨RX5, TX5, 4, rfl, rfl, rfl, by decide +kernel⟩
theorem pf5_18 : Fpf RX5 5 3 (.array .int) := ⟨RX5, TX5, 4, rfl, rfl, rfl, by decide +kernel⟩
abbrev SX5_ : Type := Nat × Nat × Nat
def bX5 (Y : YT) (h0 : Nat) : SX5_ → va_W := fun (q1, q2, q3) => (h0, .inr (5, [.int 0, .ref q1, .ref q2, .ref q3])) :: ((([] ++ [(q1, .inl (Y.2.1 20, 9, .inl fun _ => 0))]) ++ [(q2, .inl (Y.2.1 20, 9, .inl fun _ => 0))]) ++ [(q3, .inl (Y.2.1 20, 9, .inl fun _ => 0))])
theorem c_X5 {l : Launch} {Y : YT} {h0 : Nat} : CtrN l Y yX5_init cX5_init 1 1 3 27 [.ref h0] h0 5 [.int 0, .null, .null, .null] (bX5 Y h0) := by
  refine ctrn_of (by decide) rfl (Nat.le_of_ble_eq_true rfl) [(0, .ref h0)] rfl (fun A X hl C hm hR => ?_)
  subst hl
  refine k_aload (q := 0) C dX5_init_0 rfl rfl ?_
  refine k_obj C oi5_3 oi_m oi_c (by decide) dX5_init_1 ?_ rfl
  refine k_aload (q := 0) C dX5_init_4 rfl rfl ?_
  refine k_bipush (v := 9) C dX5_init_5 (by decide +kernel) ?_
  refine k_newa 9 0 (a0 := (9, .inl fun _ => 0)) C aw_int rfl rfl (ac_int 9) rfl (by decide) (by decide) dX5_init_7 (by decide) (by decide) (fun q1 => ?_)
  refine k_putF (fs' := [.int 0, .ref q1, .null, .null]) C hm fX5_9 pf5_9 dX5_init_9 rfl rfl (Nat.le_of_ble_eq_true rfl) rfl ?_
  refine k_aload (q := 0) C dX5_init_12 rfl rfl ?_
  refine k_bipush (v := 9) C dX5_init_13 (by decide +kernel) ?_
  refine k_newa 9 0 (a0 := (9, .inl fun _ => 0)) C aw_int rfl rfl (ac_int 9) rfl (by decide) (by decide) dX5_init_15 (by decide) (by decide) (fun q2 => ?_)
  refine k_putF (fs' := [.int 0, .ref q1, .ref q2, .null]) C hm fX5_15 pf5_15 dX5_init_17 rfl rfl (Nat.le_of_ble_eq_true rfl) rfl ?_
  refine k_aload (q := 0) C dX5_init_20 rfl rfl ?_
  refine k_bipush (v := 9) C dX5_init_21 (by decide +kernel) ?_
  refine k_newa 9 0 (a0 := (9, .inl fun _ => 0)) C aw_int rfl rfl (ac_int 9) rfl (by decide) (by decide) dX5_init_23 (by decide) (by decide) (fun q3 => ?_)
  refine k_putF (fs' := [.int 0, .ref q1, .ref q2, .ref q3]) C hm fX5_18 pf5_18 dX5_init_25 rfl rfl (Nat.le_of_ble_eq_true rfl) rfl ?_
  exact k_ret (q1, q2, q3) C hR dX5_init_28 rfl (by decide) (by decide)
theorem dX1_init_0 : decode cX1_init 0 = .ok (.aload_n 0, 1) := by decide +kernel
theorem dX1_init_1 : decode cX1_init 1 = .ok (.invokespecial 3, 3) := by decide +kernel
theorem dX1_init_4 : decode cX1_init 4 = .ok (.aload_n 0, 1) := by decide +kernel
theorem dX1_init_5 : decode cX1_init 5 = .ok (.sipush 1600, 3) := by decide +kernel
theorem dX1_init_8 : decode cX1_init 8 = .ok (.newarray .int, 2) := by decide +kernel
theorem dX1_init_10 : decode cX1_init 10 = .ok (.putfield 9, 3) := by decide +kernel
theorem dX1_init_13 : decode cX1_init 13 = .ok (.aload_n 0, 1) := by decide +kernel
theorem dX1_init_14 : decode cX1_init 14 = .ok (.bipush 64, 2) := by decide +kernel
theorem dX1_init_16 : decode cX1_init 16 = .ok (.newarray .int, 2) := by decide +kernel
theorem dX1_init_18 : decode cX1_init 18 = .ok (.putfield 15, 3) := by decide +kernel
theorem dX1_init_21 : decode cX1_init 21 = .ok (.return_, 1) := by decide +kernel
theorem kc1 : Kcl yX1_init cX1_init 1 0 := ⟨gt_in 127 (by decide +kernel) (by decide +kernel), gt_in 325 (by decide +kernel) (by decide +kernel), by decide, by decide +kernel, gt_in 324 (by decide +kernel) (by decide +kernel), rfl⟩
theorem oi1_3 : Cond.methodLink RX1 3 objectInit ∈ GT := gt_in 326 (by decide +kernel) (by decide +kernel)
theorem pf1_9 : Fpf RX1 1 0 (.array .int) := ⟨RX1, TX1, 3, rfl, rfl, rfl, by decide +kernel⟩
theorem pf1_15 : Fpf RX1 1 1 (.array .int) := ⟨RX1, TX1, 3, rfl, rfl, rfl, by decide +kernel⟩
abbrev SX1_ : Type := Nat × Nat
def bX1 (Y : YT) (h0 : Nat) : SX1_ → va_W := fun (q1, q2) => (h0, .inr (1, [.ref q1, .ref q2, .int 0])) :: (([] ++ [(q1, .inl (Y.2.1 20, 1600, .inl fun _ => 0))]) ++ [(q2, .inl (Y.2.1 20, 64, .inl fun _ => 0))])
theorem c_X1 {l : Launch} {Y : YT} {h0 : Nat} : CtrN l Y yX1_init cX1_init 1 1 2 1664 [.ref h0] h0 1 [.null, .null, .int 0] (bX1 Y h0) := by
  refine ctrn_of (by decide) rfl (Nat.le_of_ble_eq_true rfl) [(0, .ref h0)] rfl (fun A X hl C hm hR => ?_)
  subst hl
  refine k_aload (q := 0) C dX1_init_0 rfl rfl ?_
  refine k_obj C oi1_3 oi_m oi_c (by decide) dX1_init_1 ?_ rfl
  refine k_aload (q := 0) C dX1_init_4 rfl rfl ?_
  refine k_sipush (v := 1600) C dX1_init_5 (by decide +kernel) ?_
  refine k_newa 1600 0 (a0 := (1600, .inl fun _ => 0)) C aw_int rfl rfl (ac_int 1600) rfl (by decide) (by decide) dX1_init_8 (by decide) (by decide) (fun q1 => ?_)
  refine k_putF (fs' := [.ref q1, .null, .int 0]) C hm fX1_9 pf1_9 dX1_init_10 rfl rfl (Nat.le_of_ble_eq_true rfl) rfl ?_
  refine k_aload (q := 0) C dX1_init_13 rfl rfl ?_
  refine k_bipush (v := 64) C dX1_init_14 (by decide +kernel) ?_
  refine k_newa 64 0 (a0 := (64, .inl fun _ => 0)) C aw_int rfl rfl (ac_int 64) rfl (by decide) (by decide) dX1_init_16 (by decide) (by decide) (fun q2 => ?_)
  refine k_putF (fs' := [.ref q1, .ref q2, .int 0]) C hm fX1_15 pf1_15 dX1_init_18 rfl rfl (Nat.le_of_ble_eq_true rfl) rfl ?_
  exact k_ret (q1, q2) C hR dX1_init_21 rfl (by decide) (by decide)
theorem dX4_init_0 : decode cX4_init 0 = .ok (.aload_n 0, 1) := by decide +kernel
theorem dX4_init_1 : decode cX4_init 1 = .ok (.invokespecial 3, 3) := by decide +kernel
theorem dX4_init_4 : decode cX4_init 4 = .ok (.aload_n 0, 1) := by decide +kernel
theorem dX4_init_5 : decode cX4_init 5 = .ok (.bipush 40, 2) := by decide +kernel
theorem dX4_init_7 : decode cX4_init 7 = .ok (.newarray .int, 2) := by decide +kernel
theorem dX4_init_9 : decode cX4_init 9 = .ok (.putfield 11, 3) := by decide +kernel
theorem dX4_init_12 : decode cX4_init 12 = .ok (.return_, 1) := by decide +kernel
theorem kc4 : Kcl yX4_init cX4_init 1 0 := ⟨gt_in 131 (by decide +kernel) (by decide +kernel), gt_in 500 (by decide +kernel) (by decide +kernel), by decide, by decide +kernel, gt_in 499 (by decide +kernel) (by decide +kernel), rfl⟩
theorem oi4_3 : Cond.methodLink RX4 3 objectInit ∈ GT := gt_in 501 (by decide +kernel) (by decide +kernel)
theorem pf4_11 : Fpf RX4 4 0 (.array .int) := ⟨RX4, TX4, 2, rfl, rfl, rfl, by decide +kernel⟩
abbrev SX4_ : Type := Nat
def bX4 (Y : YT) (h0 : Nat) : SX4_ → va_W := fun q1 => (h0, .inr (4, [.ref q1, .int 0])) :: ([] ++ [(q1, .inl (Y.2.1 20, 40, .inl fun _ => 0))])
theorem c_X4 {l : Launch} {Y : YT} {h0 : Nat} : CtrN l Y yX4_init cX4_init 1 1 1 40 [.ref h0] h0 4 [.null, .int 0] (bX4 Y h0) := by
  refine ctrn_of (by decide) rfl (Nat.le_of_ble_eq_true rfl) [(0, .ref h0)] rfl (fun A X hl C hm hR => ?_)
  subst hl
  refine k_aload (q := 0) C dX4_init_0 rfl rfl ?_
  refine k_obj C oi4_3 oi_m oi_c (by decide) dX4_init_1 ?_ rfl
  refine k_aload (q := 0) C dX4_init_4 rfl rfl ?_
  refine k_bipush (v := 40) C dX4_init_5 (by decide +kernel) ?_
  refine k_newa 40 0 (a0 := (40, .inl fun _ => 0)) C aw_int rfl rfl (ac_int 40) rfl (by decide) (by decide) dX4_init_7 (by decide) (by decide) (fun q1 => ?_)
  refine k_putF (fs' := [.ref q1, .int 0]) C hm fX4_11 pf4_11 dX4_init_9 rfl rfl (Nat.le_of_ble_eq_true rfl) rfl ?_
  exact k_ret (q1) C hR dX4_init_12 rfl (by decide) (by decide)
theorem dX10_init_0 : decode cX10_init 0 = .ok (.aload_n 0, 1) := by decide +kernel
theorem dX10_init_1 : decode cX10_init 1 = .ok (.invokespecial 3, 3) := by decide +kernel
theorem dX10_init_4 : decode cX10_init 4 = .ok (.aload_n 0, 1) := by decide +kernel
theorem dX10_init_5 : decode cX10_init 5 = .ok (.bipush 54, 2) := by decide +kernel
theorem dX10_init_7 : decode cX10_init 7 = .ok (.newarray .int, 2) := by decide +kernel
theorem dX10_init_9 : decode cX10_init 9 = .ok (.putfield 9, 3) := by decide +kernel
theorem dX10_init_12 : decode cX10_init 12 = .ok (.aload_n 0, 1) := by decide +kernel
theorem dX10_init_13 : decode cX10_init 13 = .ok (.bipush 63, 2) := by decide +kernel
theorem dX10_init_15 : decode cX10_init 15 = .ok (.newarray .int, 2) := by decide +kernel
theorem dX10_init_17 : decode cX10_init 17 = .ok (.putfield 15, 3) := by decide +kernel
theorem dX10_init_20 : decode cX10_init 20 = .ok (.aload_n 0, 1) := by decide +kernel
theorem dX10_init_21 : decode cX10_init 21 = .ok (.bipush 63, 2) := by decide +kernel
theorem dX10_init_23 : decode cX10_init 23 = .ok (.newarray .int, 2) := by decide +kernel
theorem dX10_init_25 : decode cX10_init 25 = .ok (.putfield 18, 3) := by decide +kernel
theorem dX10_init_28 : decode cX10_init 28 = .ok (.aload_n 0, 1) := by decide +kernel
theorem dX10_init_29 : decode cX10_init 29 = .ok (.bipush 7, 2) := by decide +kernel
theorem dX10_init_31 : decode cX10_init 31 = .ok (.newarray .int, 2) := by decide +kernel
theorem dX10_init_33 : decode cX10_init 33 = .ok (.putfield 23, 3) := by decide +kernel
theorem dX10_init_36 : decode cX10_init 36 = .ok (.return_, 1) := by decide +kernel
theorem kc10 : Kcl yX10_init cX10_init 1 0 := ⟨gt_in 129 (by decide +kernel) (by decide +kernel), gt_in 452 (by decide +kernel) (by decide +kernel), by decide, by decide +kernel, gt_in 451 (by decide +kernel) (by decide +kernel), rfl⟩
theorem oi10_3 : Cond.methodLink RX10 3 objectInit ∈ GT := gt_in 453 (by decide +kernel) (by decide +kernel)
theorem pf10_9 : Fpf RX10 10 0 (.array .int) := ⟨RX10, TX10, 6, rfl, rfl, rfl, by decide +kernel⟩
theorem pf10_15 : Fpf RX10 10 1 (.array .int) := ⟨RX10, TX10, 6, rfl, rfl, rfl, by decide +kernel⟩
theorem pf10_18 : Fpf RX10 10 2 (.array .int) := ⟨RX10, TX10, 6, rfl, rfl, rfl, by decide +kernel⟩
theorem pf10_23 : Fpf RX10 10 3 (.array .int) := ⟨RX10, TX10, 6, rfl, rfl, rfl, by decide +kernel⟩
abbrev SX10_ : Type := Nat × Nat × Nat × Nat
def bX10 (Y : YT) (h0 : Nat) : SX10_ → va_W := fun (q1, q2, q3, q4) => (h0, .inr (10, [.ref q1, .ref q2, .ref q3, .ref q4, .null, .null])) :: (((([] ++ [(q1, .inl (Y.2.1 20, 54, .inl fun _ => 0))]) ++ [(q2, .inl (Y.2.1 20, 63, .inl fun _ => 0))]) ++ [(q3, .inl (Y.2.1 20, 63, .inl fun _ => 0))]) ++ [(q4, .inl (Y.2.1 20, 7, .inl fun _ => 0))])
theorem c_X10 {l : Launch} {Y : YT} {h0 : Nat} : CtrN l Y yX10_init cX10_init 1 1 4 187 [.ref h0] h0 10 [.null, .null, .null, .null, .null, .null] (bX10 Y h0) := by
  refine ctrn_of (by decide) rfl (Nat.le_of_ble_eq_true rfl) [(0, .ref h0)] rfl (fun A X hl C hm hR => ?_)
  subst hl
  refine k_aload (q := 0) C dX10_init_0 rfl rfl ?_
  refine k_obj C oi10_3 oi_m oi_c (by decide) dX10_init_1 ?_ rfl
  refine k_aload (q := 0) C dX10_init_4 rfl rfl ?_
  refine k_bipush (v := 54) C dX10_init_5 (by decide +kernel) ?_
  refine k_newa 54 0 (a0 := (54, .inl fun _ => 0)) C aw_int rfl rfl (ac_int 54) rfl (by decide) (by decide) dX10_init_7 (by decide) (by decide) (fun q1 => ?_)
  refine k_putF (fs' := [.ref q1, .null, .null, .null, .null, .null]) C hm fX10_9 pf10_9 dX10_init_9 rfl rfl (Nat.le_of_ble_eq_true rfl) rfl ?_
  refine k_aload (q := 0) C dX10_init_12 rfl rfl ?_
  refine k_bipush (v := 63) C dX10_init_13 (by decide +kernel) ?_
  refine k_newa 63 0 (a0 := (63, .inl fun _ => 0)) C aw_int rfl rfl (ac_int 63) rfl (by decide) (by decide) dX10_init_15 (by decide) (by decide) (fun q2 => ?_)
  refine k_putF (fs' := [.ref q1, .ref q2, .null, .null, .null, .null]) C hm fX10_15 pf10_15 dX10_init_17 rfl rfl (Nat.le_of_ble_eq_true rfl) rfl ?_
  refine k_aload (q := 0) C dX10_init_20 rfl rfl ?_
  refine k_bipush (v := 63) C dX10_init_21 (by decide +kernel) ?_
  refine k_newa 63 0 (a0 := (63, .inl fun _ => 0)) C aw_int rfl rfl (ac_int 63) rfl (by decide) (by decide) dX10_init_23 (by decide) (by decide) (fun q3 => ?_)
  refine k_putF (fs' := [.ref q1, .ref q2, .ref q3, .null, .null, .null]) C hm fX10_18 pf10_18 dX10_init_25 rfl rfl (Nat.le_of_ble_eq_true rfl) rfl ?_
  refine k_aload (q := 0) C dX10_init_28 rfl rfl ?_
  refine k_bipush (v := 7) C dX10_init_29 (by decide +kernel) ?_
  refine k_newa 7 0 (a0 := (7, .inl fun _ => 0)) C aw_int rfl rfl (ac_int 7) rfl (by decide) (by decide) dX10_init_31 (by decide) (by decide) (fun q4 => ?_)
  refine k_putF (fs' := [.ref q1, .ref q2, .ref q3, .ref q4, .null, .null]) C hm fX10_23 pf10_23 dX10_init_33 rfl rfl (Nat.le_of_ble_eq_true rfl) rfl ?_
  exact k_ret (q1, q2, q3, q4) C hR dX10_init_36 rfl (by decide) (by decide)
theorem dX2_init_0 : decode cX2_init 0 = .ok (.aload_n 0, 1) := by decide +kernel
theorem dX2_init_1 : decode cX2_init 1 = .ok (.invokespecial 3, 3) := by decide +kernel
theorem dX2_init_4 : decode cX2_init 4 = .ok (.aload_n 0, 1) := by decide +kernel
theorem dX2_init_5 : decode cX2_init 5 = .ok (.aload_n 1, 1) := by decide +kernel
theorem dX2_init_6 : decode cX2_init 6 = .ok (.putfield 9, 3) := by decide +kernel
theorem dX2_init_9 : decode cX2_init 9 = .ok (.return_, 1) := by decide +kernel
theorem kc2 : Kcl yX2_init cX2_init 2 1 := ⟨gt_in 124 (by decide +kernel) (by decide +kernel), gt_in 255 (by decide +kernel) (by decide +kernel), by decide, by decide +kernel, gt_in 254 (by decide +kernel) (by decide +kernel), rfl⟩
theorem oi2_3 : Cond.methodLink RX2 3 objectInit ∈ GT := gt_in 256 (by decide +kernel) (by decide +kernel)
theorem pf2_9 : Fpf RX2 2 0 (.object "SilentReel$Tape") := ⟨RX2, TX2, 3, rfl, rfl, rfl, by decide +kernel⟩
abbrev SX2_ : Type := Unit
def bX2 (Y : YT) (h0 : Nat) (h1 : Nat) : SX2_ → va_W := fun () => (h0, .inr (2, [.ref h1, .null, .int 0])) :: []
theorem c_X2 {l : Launch} {Y : YT} {h0 h1 : Nat} : CtrN l Y yX2_init cX2_init 2 1 0 0 [.ref h0, .ref h1] h0 2 [.null, .null, .int 0] (bX2 Y h0 h1) := by
  refine ctrn_of (by decide) rfl (Nat.le_of_ble_eq_true rfl) [(0, .ref h0), (1, .ref h1)] rfl (fun A X hl C hm hR => ?_)
  subst hl
  refine k_aload (q := 0) C dX2_init_0 rfl rfl ?_
  refine k_obj C oi2_3 oi_m oi_c (by decide) dX2_init_1 ?_ rfl
  refine k_aload (q := 0) C dX2_init_4 rfl rfl ?_
  refine k_aload (q := 1) C dX2_init_5 rfl rfl ?_
  refine k_putF (fs' := [.ref h1, .null, .int 0]) C hm fX2_9 pf2_9 dX2_init_6 rfl rfl (Nat.le_of_ble_eq_true rfl) rfl ?_
  exact k_ret (()) C hR dX2_init_9 rfl (by decide) (by decide)
theorem dX9_init_0 : decode cX9_init 0 = .ok (.aload_n 0, 1) := by decide +kernel
theorem dX9_init_1 : decode cX9_init 1 = .ok (.invokespecial 3, 3) := by decide +kernel
theorem dX9_init_4 : decode cX9_init 4 = .ok (.aload_n 0, 1) := by decide +kernel
theorem dX9_init_5 : decode cX9_init 5 = .ok (.aload_n 1, 1) := by decide +kernel
theorem dX9_init_6 : decode cX9_init 6 = .ok (.putfield 9, 3) := by decide +kernel
theorem dX9_init_9 : decode cX9_init 9 = .ok (.aload_n 0, 1) := by decide +kernel
theorem dX9_init_10 : decode cX9_init 10 = .ok (.new 15, 3) := by decide +kernel
theorem dX9_init_13 : decode cX9_init 13 = .ok (.dup, 1) := by decide +kernel
theorem dX9_init_14 : decode cX9_init 14 = .ok (.aload_n 1, 1) := by decide +kernel
theorem dX9_init_15 : decode cX9_init 15 = .ok (.invokespecial 17, 3) := by decide +kernel
theorem dX9_init_18 : decode cX9_init 18 = .ok (.putfield 20, 3) := by decide +kernel
theorem dX9_init_21 : decode cX9_init 21 = .ok (.return_, 1) := by decide +kernel
theorem kc9 : Kcl yX9_init cX9_init 2 1 := ⟨gt_in 123 (by decide +kernel) (by decide +kernel), gt_in 249 (by decide +kernel) (by decide +kernel), by decide, by decide +kernel, gt_in 248 (by decide +kernel) (by decide +kernel), rfl⟩
theorem oi9_3 : Cond.methodLink RX9 3 objectInit ∈ GT := gt_in 250 (by decide +kernel) (by decide +kernel)
theorem pf9_9 : Fpf RX9 9 0 (.object "SilentReel$Tape") := ⟨RX9, TX9, 4, rfl, rfl, rfl, by decide +kernel⟩
theorem kn9_15 : Knw RX9 15 2 3 [.null, .null, .int 0] := ⟨RX2, TX2, tyX2, rfl, uX2, tyX2_ok, gt_in 251 (by decide +kernel) (by decide +kernel), gt_in 252 (by decide +kernel) (by decide +kernel), gt_in 124 (by decide +kernel) (by decide +kernel), by decide +kernel⟩
theorem lk9_17 : Cond.methodLink RX9 17 yX2_init ∈ GT := gt_in 253 (by decide +kernel) (by decide +kernel)
theorem pf9_20 : Fpf RX9 9 1 (.object "SilentReel$FormulaReader") := ⟨RX9, TX9, 4, rfl, rfl, rfl, by decide +kernel⟩
abbrev SX9_ : Type := Nat × SX2_
def bX9 (Y : YT) (h0 : Nat) (h1 : Nat) : SX9_ → va_W := fun (q1, u2) => (h0, .inr (9, [.ref h1, .ref q1, .null, .int 0])) :: ([] ++ bX2 Y q1 h1 u2)
theorem c_X9 {l : Launch} {Y : YT} {h0 h1 : Nat} : CtrN l Y yX9_init cX9_init 2 2 1 3 [.ref h0, .ref h1] h0 9 [.null, .null, .null, .int 0] (bX9 Y h0 h1) := by
  refine ctrn_of (by decide) rfl (Nat.le_of_ble_eq_true rfl) [(0, .ref h0), (1, .ref h1)] rfl (fun A X hl C hm hR => ?_)
  subst hl
  refine k_aload (q := 0) C dX9_init_0 rfl rfl ?_
  refine k_obj C oi9_3 oi_m oi_c (by decide) dX9_init_1 ?_ rfl
  refine k_aload (q := 0) C dX9_init_4 rfl rfl ?_
  refine k_aload (q := 1) C dX9_init_5 rfl rfl ?_
  refine k_putF (fs' := [.ref h1, .null, .null, .int 0]) C hm fX9_9 pf9_9 dX9_init_6 rfl rfl (Nat.le_of_ble_eq_true rfl) rfl ?_
  refine k_aload (q := 0) C dX9_init_9 rfl rfl ?_
  refine k_new C kn9_15 dX9_init_10 (by decide) (by decide) (fun q1 => ?_)
  refine k_dup C dX9_init_13 ?_
  refine k_aload (q := 1) C dX9_init_14 rfl rfl ?_
  refine k_call (As := [.ref h1]) C lk9_17 kc2 dX9_init_15 rfl (Nat.le_of_ble_eq_true rfl) rfl (by decide) (by decide) (by decide) (c_X2) (fun u2 => ?_)
  refine k_putF (fs' := [.ref h1, .ref q1, .null, .int 0]) C hm fX9_20 pf9_20 dX9_init_18 rfl rfl (Nat.le_of_ble_eq_true rfl) rfl ?_
  exact k_ret (q1, u2) C hR dX9_init_21 rfl (by decide) (by decide)
theorem dX6_init_0 : decode cX6_init 0 = .ok (.aload_n 0, 1) := by decide +kernel
theorem dX6_init_1 : decode cX6_init 1 = .ok (.invokespecial 3, 3) := by decide +kernel
theorem dX6_init_4 : decode cX6_init 4 = .ok (.aload_n 0, 1) := by decide +kernel
theorem dX6_init_5 : decode cX6_init 5 = .ok (.bipush 6, 2) := by decide +kernel
theorem dX6_init_7 : decode cX6_init 7 = .ok (.newarray .int, 2) := by decide +kernel
theorem dX6_init_9 : decode cX6_init 9 = .ok (.putfield 9, 3) := by decide +kernel
theorem dX6_init_12 : decode cX6_init 12 = .ok (.aload_n 0, 1) := by decide +kernel
theorem dX6_init_13 : decode cX6_init 13 = .ok (.new 15, 3) := by decide +kernel
theorem dX6_init_16 : decode cX6_init 16 = .ok (.dup, 1) := by decide +kernel
theorem dX6_init_17 : decode cX6_init 17 = .ok (.invokespecial 17, 3) := by decide +kernel
theorem dX6_init_20 : decode cX6_init 20 = .ok (.putfield 18, 3) := by decide +kernel
theorem dX6_init_23 : decode cX6_init 23 = .ok (.return_, 1) := by decide +kernel
theorem kc6 : Kcl yX6_init cX6_init 1 0 := ⟨gt_in 128 (by decide +kernel) (by decide +kernel), gt_in 412 (by decide +kernel) (by decide +kernel), by decide, by decide +kernel, gt_in 411 (by decide +kernel) (by decide +kernel), rfl⟩
theorem oi6_3 : Cond.methodLink RX6 3 objectInit ∈ GT := gt_in 413 (by decide +kernel) (by decide +kernel)
theorem pf6_9 : Fpf RX6 6 1 (.array .int) := ⟨RX6, TX6, 5, rfl, rfl, rfl, by decide +kernel⟩
theorem kn6_15 : Knw RX6 15 5 4 [.int 0, .null, .null, .null] := ⟨RX5, TX5, tyX5, rfl, uX5, tyX5_ok, gt_in 414 (by decide +kernel) (by decide +kernel), gt_in 287 (by decide +kernel) (by decide +kernel), gt_in 126 (by decide +kernel) (by decide +kernel), by decide +kernel⟩
theorem pf6_18 : Fpf RX6 6 3 (.object "SilentReel$Reel") := ⟨RX6, TX6, 5, rfl, rfl, rfl, by decide +kernel⟩
abbrev SX6_ : Type := Nat × Nat × SX5_
def bX6 (Y : YT) (h0 : Nat) : SX6_ → va_W := fun (q1, q2, u3) => (h0, .inr (6, [.int 0, .ref q1, .int 0, .ref q2, .int 0])) :: (([] ++ [(q1, .inl (Y.2.1 20, 6, .inl fun _ => 0))]) ++ bX5 Y q2 u3)
theorem c_X6 {l : Launch} {Y : YT} {h0 : Nat} : CtrN l Y yX6_init cX6_init 1 2 5 37 [.ref h0] h0 6 [.int 0, .null, .int 0, .null, .int 0] (bX6 Y h0) := by
  refine ctrn_of (by decide) rfl (Nat.le_of_ble_eq_true rfl) [(0, .ref h0)] rfl (fun A X hl C hm hR => ?_)
  subst hl
  refine k_aload (q := 0) C dX6_init_0 rfl rfl ?_
  refine k_obj C oi6_3 oi_m oi_c (by decide) dX6_init_1 ?_ rfl
  refine k_aload (q := 0) C dX6_init_4 rfl rfl ?_
  refine k_bipush (v := 6) C dX6_init_5 (by decide +kernel) ?_
  refine k_newa 6 0 (a0 := (6, .inl fun _ => 0)) C aw_int rfl rfl (ac_int 6) rfl (by decide) (by decide) dX6_init_7 (by decide) (by decide) (fun q1 => ?_)
  refine k_putF (fs' := [.int 0, .ref q1, .int 0, .null, .int 0]) C hm fX6_9 pf6_9 dX6_init_9 rfl rfl (Nat.le_of_ble_eq_true rfl) rfl ?_
  refine k_aload (q := 0) C dX6_init_12 rfl rfl ?_
  refine k_new C kn6_15 dX6_init_13 (by decide) (by decide) (fun q2 => ?_)
  refine k_dup C dX6_init_16 ?_
  refine k_callN (As := []) C (by decide) kc5 dX6_init_17 rfl (Nat.le_of_ble_eq_true rfl) rfl (by decide) (by decide) (by decide) (c_X5) (fun u3 => ?_)
  refine k_putF (fs' := [.int 0, .ref q1, .int 0, .ref q2, .int 0]) C hm fX6_18 pf6_18 dX6_init_20 rfl rfl (Nat.le_of_ble_eq_true rfl) rfl ?_
  exact k_ret (q1, q2, u3) C hR dX6_init_23 rfl (by decide) (by decide)
theorem dX8_init_0 : decode cX8_init 0 = .ok (.aload_n 0, 1) := by decide +kernel
theorem dX8_init_1 : decode cX8_init 1 = .ok (.invokespecial 3, 3) := by decide +kernel
theorem dX8_init_4 : decode cX8_init 4 = .ok (.aload_n 0, 1) := by decide +kernel
theorem dX8_init_5 : decode cX8_init 5 = .ok (.bipush 7, 2) := by decide +kernel
theorem dX8_init_7 : decode cX8_init 7 = .ok (.newarray .int, 2) := by decide +kernel
theorem dX8_init_9 : decode cX8_init 9 = .ok (.putfield 9, 3) := by decide +kernel
theorem dX8_init_12 : decode cX8_init 12 = .ok (.aload_n 0, 1) := by decide +kernel
theorem dX8_init_13 : decode cX8_init 13 = .ok (.bipush 7, 2) := by decide +kernel
theorem dX8_init_15 : decode cX8_init 15 = .ok (.newarray .int, 2) := by decide +kernel
theorem dX8_init_17 : decode cX8_init 17 = .ok (.putfield 15, 3) := by decide +kernel
theorem dX8_init_20 : decode cX8_init 20 = .ok (.aload_n 0, 1) := by decide +kernel
theorem dX8_init_21 : decode cX8_init 21 = .ok (.bipush 49, 2) := by decide +kernel
theorem dX8_init_23 : decode cX8_init 23 = .ok (.newarray .int, 2) := by decide +kernel
theorem dX8_init_25 : decode cX8_init 25 = .ok (.putfield 18, 3) := by decide +kernel
theorem dX8_init_28 : decode cX8_init 28 = .ok (.aload_n 0, 1) := by decide +kernel
theorem dX8_init_29 : decode cX8_init 29 = .ok (.bipush 6, 2) := by decide +kernel
theorem dX8_init_31 : decode cX8_init 31 = .ok (.newarray .int, 2) := by decide +kernel
theorem dX8_init_33 : decode cX8_init 33 = .ok (.putfield 21, 3) := by decide +kernel
theorem dX8_init_36 : decode cX8_init 36 = .ok (.aload_n 0, 1) := by decide +kernel
theorem dX8_init_37 : decode cX8_init 37 = .ok (.bipush 6, 2) := by decide +kernel
theorem dX8_init_39 : decode cX8_init 39 = .ok (.newarray .int, 2) := by decide +kernel
theorem dX8_init_41 : decode cX8_init 41 = .ok (.putfield 24, 3) := by decide +kernel
theorem dX8_init_44 : decode cX8_init 44 = .ok (.aload_n 0, 1) := by decide +kernel
theorem dX8_init_45 : decode cX8_init 45 = .ok (.bipush 6, 2) := by decide +kernel
theorem dX8_init_47 : decode cX8_init 47 = .ok (.newarray .int, 2) := by decide +kernel
theorem dX8_init_49 : decode cX8_init 49 = .ok (.putfield 27, 3) := by decide +kernel
theorem dX8_init_52 : decode cX8_init 52 = .ok (.aload_n 0, 1) := by decide +kernel
theorem dX8_init_53 : decode cX8_init 53 = .ok (.new 30, 3) := by decide +kernel
theorem dX8_init_56 : decode cX8_init 56 = .ok (.dup, 1) := by decide +kernel
theorem dX8_init_57 : decode cX8_init 57 = .ok (.invokespecial 32, 3) := by decide +kernel
theorem dX8_init_60 : decode cX8_init 60 = .ok (.putfield 33, 3) := by decide +kernel
theorem dX8_init_63 : decode cX8_init 63 = .ok (.aload_n 0, 1) := by decide +kernel
theorem dX8_init_64 : decode cX8_init 64 = .ok (.new 37, 3) := by decide +kernel
theorem dX8_init_67 : decode cX8_init 67 = .ok (.dup, 1) := by decide +kernel
theorem dX8_init_68 : decode cX8_init 68 = .ok (.invokespecial 39, 3) := by decide +kernel
theorem dX8_init_71 : decode cX8_init 71 = .ok (.putfield 40, 3) := by decide +kernel
theorem dX8_init_74 : decode cX8_init 74 = .ok (.aload_n 0, 1) := by decide +kernel
theorem dX8_init_75 : decode cX8_init 75 = .ok (.new 37, 3) := by decide +kernel
theorem dX8_init_78 : decode cX8_init 78 = .ok (.dup, 1) := by decide +kernel
theorem dX8_init_79 : decode cX8_init 79 = .ok (.invokespecial 39, 3) := by decide +kernel
theorem dX8_init_82 : decode cX8_init 82 = .ok (.putfield 44, 3) := by decide +kernel
theorem dX8_init_85 : decode cX8_init 85 = .ok (.return_, 1) := by decide +kernel
theorem kc8 : Kcl yX8_init cX8_init 1 0 := ⟨gt_in 125 (by decide +kernel) (by decide +kernel), gt_in 284 (by decide +kernel) (by decide +kernel), by decide, by decide +kernel, gt_in 283 (by decide +kernel) (by decide +kernel), rfl⟩
theorem oi8_3 : Cond.methodLink RX8 3 objectInit ∈ GT := gt_in 285 (by decide +kernel) (by decide +kernel)
theorem pf8_9 : Fpf RX8 8 1 (.array .int) := ⟨RX8, TX8, 14, rfl, rfl, rfl, by decide +kernel⟩
theorem pf8_15 : Fpf RX8 8 3 (.array .int) := ⟨RX8, TX8, 14, rfl, rfl, rfl, by decide +kernel⟩
theorem pf8_18 : Fpf RX8 8 4 (.array .int) := ⟨RX8, TX8, 14, rfl, rfl, rfl, by decide +kernel⟩
theorem pf8_21 : Fpf RX8 8 6 (.array .int) := ⟨RX8, TX8, 14, rfl, rfl, rfl, by decide +kernel⟩
theorem pf8_24 : Fpf RX8 8 7 (.array .int) := ⟨RX8, TX8, 14, rfl, rfl, rfl, by decide +kernel⟩
theorem pf8_27 : Fpf RX8 8 8 (.array .int) := ⟨RX8, TX8, 14, rfl, rfl, rfl, by decide +kernel⟩
theorem kn8_30 : Knw RX8 30 5 4 [.int 0, .null, .null, .null] := ⟨RX5, TX5, tyX5, rfl, uX5, tyX5_ok, gt_in 286 (by decide +kernel) (by decide +kernel), gt_in 287 (by decide +kernel) (by decide +kernel), gt_in 126 (by decide +kernel) (by decide +kernel), by decide +kernel⟩
theorem pf8_33 : Fpf RX8 8 10 (.object "SilentReel$Reel") := ⟨RX8, TX8, 14, rfl, rfl, rfl, by decide +kernel⟩
theorem kn8_37 : Knw RX8 37 1 3 [.null, .null, .int 0] := ⟨RX1, TX1, tyX1, rfl, uX1, tyX1_ok, gt_in 321 (by decide +kernel) (by decide +kernel), gt_in 322 (by decide +kernel) (by decide +kernel), gt_in 127 (by decide +kernel) (by decide +kernel), by decide +kernel⟩
theorem pf8_40 : Fpf RX8 8 12 (.object "SilentReel$Formula") := ⟨RX8, TX8, 14, rfl, rfl, rfl, by decide +kernel⟩
theorem pf8_44 : Fpf RX8 8 13 (.object "SilentReel$Formula") := ⟨RX8, TX8, 14, rfl, rfl, rfl, by decide +kernel⟩
abbrev SX8_ : Type := Nat × Nat × Nat × Nat × Nat × Nat × Nat × SX5_ × Nat × SX1_ × Nat × SX1_
def bX8 (Y : YT) (h0 : Nat) : SX8_ → va_W := fun (q1, q2, q3, q4, q5, q6, q7, u8, q9, u10, q11, u12) => (h0, .inr (8, [.int 0, .ref q1, .int 0, .ref q2, .ref q3, .int 0, .ref q4, .ref q5, .ref q6, .int 0, .ref q7, .int 0, .ref q9, .ref q11])) :: ((((((((([] ++ [(q1, .inl (Y.2.1 20, 7, .inl fun _ => 0))]) ++ [(q2, .inl (Y.2.1 20, 7, .inl fun _ => 0))]) ++ [(q3, .inl (Y.2.1 20, 49, .inl fun _ => 0))]) ++ [(q4, .inl (Y.2.1 20, 6, .inl fun _ => 0))]) ++ [(q5, .inl (Y.2.1 20, 6, .inl fun _ => 0))]) ++ [(q6, .inl (Y.2.1 20, 6, .inl fun _ => 0))]) ++ bX5 Y q7 u8) ++ bX1 Y q9 u10) ++ bX1 Y q11 u12)
theorem c_X8 {l : Launch} {Y : YT} {h0 : Nat} : CtrN l Y yX8_init cX8_init 1 2 16 3446 [.ref h0] h0 8 [.int 0, .null, .int 0, .null, .null, .int 0, .null, .null, .null, .int 0, .null, .int 0, .null, .null] (bX8 Y h0) := by
  refine ctrn_of (by decide) rfl (Nat.le_of_ble_eq_true rfl) [(0, .ref h0)] rfl (fun A X hl C hm hR => ?_)
  subst hl
  refine k_aload (q := 0) C dX8_init_0 rfl rfl ?_
  refine k_obj C oi8_3 oi_m oi_c (by decide) dX8_init_1 ?_ rfl
  refine k_aload (q := 0) C dX8_init_4 rfl rfl ?_
  refine k_bipush (v := 7) C dX8_init_5 (by decide +kernel) ?_
  refine k_newa 7 0 (a0 := (7, .inl fun _ => 0)) C aw_int rfl rfl (ac_int 7) rfl (by decide) (by decide) dX8_init_7 (by decide) (by decide) (fun q1 => ?_)
  refine k_putF (fs' := [.int 0, .ref q1, .int 0, .null, .null, .int 0, .null, .null, .null, .int 0, .null, .int 0, .null, .null]) C hm fX8_9 pf8_9 dX8_init_9 rfl rfl (Nat.le_of_ble_eq_true rfl) rfl ?_
  refine k_aload (q := 0) C dX8_init_12 rfl rfl ?_
  refine k_bipush (v := 7) C dX8_init_13 (by decide +kernel) ?_
  refine k_newa 7 0 (a0 := (7, .inl fun _ => 0)) C aw_int rfl rfl (ac_int 7) rfl (by decide) (by decide) dX8_init_15 (by decide) (by decide) (fun q2 => ?_)
  refine k_putF (fs' := [.int 0, .ref q1, .int 0, .ref q2, .null, .int 0, .null, .null, .null, .int 0, .null, .int 0, .null, .null]) C hm fX8_15 pf8_15 dX8_init_17 rfl rfl (Nat.le_of_ble_eq_true rfl) rfl ?_
  refine k_aload (q := 0) C dX8_init_20 rfl rfl ?_
  refine k_bipush (v := 49) C dX8_init_21 (by decide +kernel) ?_
  refine k_newa 49 0 (a0 := (49, .inl fun _ => 0)) C aw_int rfl rfl (ac_int 49) rfl (by decide) (by decide) dX8_init_23 (by decide) (by decide) (fun q3 => ?_)
  refine k_putF (fs' := [.int 0, .ref q1, .int 0, .ref q2, .ref q3, .int 0, .null, .null, .null, .int 0, .null, .int 0, .null, .null]) C hm fX8_18 pf8_18 dX8_init_25 rfl rfl (Nat.le_of_ble_eq_true rfl) rfl ?_
  refine k_aload (q := 0) C dX8_init_28 rfl rfl ?_
  refine k_bipush (v := 6) C dX8_init_29 (by decide +kernel) ?_
  refine k_newa 6 0 (a0 := (6, .inl fun _ => 0)) C aw_int rfl rfl (ac_int 6) rfl (by decide) (by decide) dX8_init_31 (by decide) (by decide) (fun q4 => ?_)
  refine k_putF (fs' := [.int 0, .ref q1, .int 0, .ref q2, .ref q3, .int 0, .ref q4, .null, .null, .int 0, .null, .int 0, .null, .null]) C hm fX8_21 pf8_21 dX8_init_33 rfl rfl (Nat.le_of_ble_eq_true rfl) rfl ?_
  refine k_aload (q := 0) C dX8_init_36 rfl rfl ?_
  refine k_bipush (v := 6) C dX8_init_37 (by decide +kernel) ?_
  refine k_newa 6 0 (a0 := (6, .inl fun _ => 0)) C aw_int rfl rfl (ac_int 6) rfl (by decide) (by decide) dX8_init_39 (by decide) (by decide) (fun q5 => ?_)
  refine k_putF (fs' := [.int 0, .ref q1, .int 0, .ref q2, .ref q3, .int 0, .ref q4, .ref q5, .null, .int 0, .null, .int 0, .null, .null]) C hm fX8_24 pf8_24 dX8_init_41 rfl rfl (Nat.le_of_ble_eq_true rfl) rfl ?_
  refine k_aload (q := 0) C dX8_init_44 rfl rfl ?_
  refine k_bipush (v := 6) C dX8_init_45 (by decide +kernel) ?_
  refine k_newa 6 0 (a0 := (6, .inl fun _ => 0)) C aw_int rfl rfl (ac_int 6) rfl (by decide) (by decide) dX8_init_47 (by decide) (by decide) (fun q6 => ?_)
  refine k_putF (fs' := [.int 0, .ref q1, .int 0, .ref q2, .ref q3, .int 0, .ref q4, .ref q5, .ref q6, .int 0, .null, .int 0, .null, .null]) C hm fX8_27 pf8_27 dX8_init_49 rfl rfl (Nat.le_of_ble_eq_true rfl) rfl ?_
  refine k_aload (q := 0) C dX8_init_52 rfl rfl ?_
  refine k_new C kn8_30 dX8_init_53 (by decide) (by decide) (fun q7 => ?_)
  refine k_dup C dX8_init_56 ?_
  refine k_callN (As := []) C (by decide) kc5 dX8_init_57 rfl (Nat.le_of_ble_eq_true rfl) rfl (by decide) (by decide) (by decide) (c_X5) (fun u8 => ?_)
  refine k_putF (fs' := [.int 0, .ref q1, .int 0, .ref q2, .ref q3, .int 0, .ref q4, .ref q5, .ref q6, .int 0, .ref q7, .int 0, .null, .null]) C hm fX8_33 pf8_33 dX8_init_60 rfl rfl (Nat.le_of_ble_eq_true rfl) rfl ?_
  refine k_aload (q := 0) C dX8_init_63 rfl rfl ?_
  refine k_new C kn8_37 dX8_init_64 (by decide) (by decide) (fun q9 => ?_)
  refine k_dup C dX8_init_67 ?_
  refine k_callN (As := []) C (by decide) kc1 dX8_init_68 rfl (Nat.le_of_ble_eq_true rfl) rfl (by decide) (by decide) (by decide) (c_X1) (fun u10 => ?_)
  refine k_putF (fs' := [.int 0, .ref q1, .int 0, .ref q2, .ref q3, .int 0, .ref q4, .ref q5, .ref q6, .int 0, .ref q7, .int 0, .ref q9, .null]) C hm fX8_40 pf8_40 dX8_init_71 rfl rfl (Nat.le_of_ble_eq_true rfl) rfl ?_
  refine k_aload (q := 0) C dX8_init_74 rfl rfl ?_
  refine k_new C kn8_37 dX8_init_75 (by decide) (by decide) (fun q11 => ?_)
  refine k_dup C dX8_init_78 ?_
  refine k_callN (As := []) C (by decide) kc1 dX8_init_79 rfl (Nat.le_of_ble_eq_true rfl) rfl (by decide) (by decide) (by decide) (c_X1) (fun u12 => ?_)
  refine k_putF (fs' := [.int 0, .ref q1, .int 0, .ref q2, .ref q3, .int 0, .ref q4, .ref q5, .ref q6, .int 0, .ref q7, .int 0, .ref q9, .ref q11]) C hm fX8_44 pf8_44 dX8_init_82 rfl rfl (Nat.le_of_ble_eq_true rfl) rfl ?_
  exact k_ret (q1, q2, q3, q4, q5, q6, q7, u8, q9, u10, q11, u12) C hR dX8_init_85 rfl (by decide) (by decide)
