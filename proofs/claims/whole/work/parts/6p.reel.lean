/-! constructors: SilentReel -/
theorem dX11_init_0 : decode cX11_init 0 = .ok (.aload_n 0, 1) := by decide +kernel
theorem dX11_init_1 : decode cX11_init 1 = .ok (.invokespecial 1, 3) := by decide +kernel
theorem dX11_init_4 : decode cX11_init 4 = .ok (.aload_n 0, 1) := by decide +kernel
theorem dX11_init_5 : decode cX11_init 5 = .ok (.new 7, 3) := by decide +kernel
theorem dX11_init_8 : decode cX11_init 8 = .ok (.dup, 1) := by decide +kernel
theorem dX11_init_9 : decode cX11_init 9 = .ok (.invokespecial 9, 3) := by decide +kernel
theorem dX11_init_12 : decode cX11_init 12 = .ok (.putfield 10, 3) := by decide +kernel
theorem dX11_init_15 : decode cX11_init 15 = .ok (.aload_n 0, 1) := by decide +kernel
theorem dX11_init_16 : decode cX11_init 16 = .ok (.new 16, 3) := by decide +kernel
theorem dX11_init_19 : decode cX11_init 19 = .ok (.dup, 1) := by decide +kernel
theorem dX11_init_20 : decode cX11_init 20 = .ok (.aload_n 0, 1) := by decide +kernel
theorem dX11_init_21 : decode cX11_init 21 = .ok (.getfield 10, 3) := by decide +kernel
theorem dX11_init_24 : decode cX11_init 24 = .ok (.invokespecial 18, 3) := by decide +kernel
theorem dX11_init_27 : decode cX11_init 27 = .ok (.putfield 21, 3) := by decide +kernel
theorem dX11_init_30 : decode cX11_init 30 = .ok (.aload_n 0, 1) := by decide +kernel
theorem dX11_init_31 : decode cX11_init 31 = .ok (.new 25, 3) := by decide +kernel
theorem dX11_init_34 : decode cX11_init 34 = .ok (.dup, 1) := by decide +kernel
theorem dX11_init_35 : decode cX11_init 35 = .ok (.invokespecial 27, 3) := by decide +kernel
theorem dX11_init_38 : decode cX11_init 38 = .ok (.putfield 28, 3) := by decide +kernel
theorem dX11_init_41 : decode cX11_init 41 = .ok (.aload_n 0, 1) := by decide +kernel
theorem dX11_init_42 : decode cX11_init 42 = .ok (.new 25, 3) := by decide +kernel
theorem dX11_init_45 : decode cX11_init 45 = .ok (.dup, 1) := by decide +kernel
theorem dX11_init_46 : decode cX11_init 46 = .ok (.invokespecial 27, 3) := by decide +kernel
theorem dX11_init_49 : decode cX11_init 49 = .ok (.putfield 32, 3) := by decide +kernel
theorem dX11_init_52 : decode cX11_init 52 = .ok (.aload_n 0, 1) := by decide +kernel
theorem dX11_init_53 : decode cX11_init 53 = .ok (.new 35, 3) := by decide +kernel
theorem dX11_init_56 : decode cX11_init 56 = .ok (.dup, 1) := by decide +kernel
theorem dX11_init_57 : decode cX11_init 57 = .ok (.invokespecial 37, 3) := by decide +kernel
theorem dX11_init_60 : decode cX11_init 60 = .ok (.putfield 38, 3) := by decide +kernel
theorem dX11_init_63 : decode cX11_init 63 = .ok (.aload_n 0, 1) := by decide +kernel
theorem dX11_init_64 : decode cX11_init 64 = .ok (.new 35, 3) := by decide +kernel
theorem dX11_init_67 : decode cX11_init 67 = .ok (.dup, 1) := by decide +kernel
theorem dX11_init_68 : decode cX11_init 68 = .ok (.invokespecial 37, 3) := by decide +kernel
theorem dX11_init_71 : decode cX11_init 71 = .ok (.putfield 42, 3) := by decide +kernel
theorem dX11_init_74 : decode cX11_init 74 = .ok (.aload_n 0, 1) := by decide +kernel
theorem dX11_init_75 : decode cX11_init 75 = .ok (.new 45, 3) := by decide +kernel
theorem dX11_init_78 : decode cX11_init 78 = .ok (.dup, 1) := by decide +kernel
theorem dX11_init_79 : decode cX11_init 79 = .ok (.invokespecial 47, 3) := by decide +kernel
theorem dX11_init_82 : decode cX11_init 82 = .ok (.putfield 48, 3) := by decide +kernel
theorem dX11_init_85 : decode cX11_init 85 = .ok (.aload_n 0, 1) := by decide +kernel
theorem dX11_init_86 : decode cX11_init 86 = .ok (.new 45, 3) := by decide +kernel
theorem dX11_init_89 : decode cX11_init 89 = .ok (.dup, 1) := by decide +kernel
theorem dX11_init_90 : decode cX11_init 90 = .ok (.invokespecial 47, 3) := by decide +kernel
theorem dX11_init_93 : decode cX11_init 93 = .ok (.putfield 52, 3) := by decide +kernel
theorem dX11_init_96 : decode cX11_init 96 = .ok (.aload_n 0, 1) := by decide +kernel
theorem dX11_init_97 : decode cX11_init 97 = .ok (.new 55, 3) := by decide +kernel
theorem dX11_init_100 : decode cX11_init 100 = .ok (.dup, 1) := by decide +kernel
theorem dX11_init_101 : decode cX11_init 101 = .ok (.invokespecial 57, 3) := by decide +kernel
theorem dX11_init_104 : decode cX11_init 104 = .ok (.putfield 58, 3) := by decide +kernel
theorem dX11_init_107 : decode cX11_init 107 = .ok (.aload_n 0, 1) := by decide +kernel
theorem dX11_init_108 : decode cX11_init 108 = .ok (.new 62, 3) := by decide +kernel
theorem dX11_init_111 : decode cX11_init 111 = .ok (.dup, 1) := by decide +kernel
theorem dX11_init_112 : decode cX11_init 112 = .ok (.invokespecial 64, 3) := by decide +kernel
theorem dX11_init_115 : decode cX11_init 115 = .ok (.putfield 65, 3) := by decide +kernel
theorem dX11_init_118 : decode cX11_init 118 = .ok (.aload_n 0, 1) := by decide +kernel
theorem dX11_init_119 : decode cX11_init 119 = .ok (.new 69, 3) := by decide +kernel
theorem dX11_init_122 : decode cX11_init 122 = .ok (.dup, 1) := by decide +kernel
theorem dX11_init_123 : decode cX11_init 123 = .ok (.invokespecial 71, 3) := by decide +kernel
theorem dX11_init_126 : decode cX11_init 126 = .ok (.putfield 72, 3) := by decide +kernel
theorem dX11_init_129 : decode cX11_init 129 = .ok (.aload_n 0, 1) := by decide +kernel
theorem dX11_init_130 : decode cX11_init 130 = .ok (.bipush 6, 2) := by decide +kernel
theorem dX11_init_132 : decode cX11_init 132 = .ok (.newarray .int, 2) := by decide +kernel
theorem dX11_init_134 : decode cX11_init 134 = .ok (.putfield 76, 3) := by decide +kernel
theorem dX11_init_137 : decode cX11_init 137 = .ok (.aload_n 0, 1) := by decide +kernel
theorem dX11_init_138 : decode cX11_init 138 = .ok (.iconst 1, 1) := by decide +kernel
theorem dX11_init_139 : decode cX11_init 139 = .ok (.putfield 80, 3) := by decide +kernel
theorem dX11_init_142 : decode cX11_init 142 = .ok (.return_, 1) := by decide +kernel
theorem kc11 : Kcl yX11_init cX11_init 1 0 := ⟨gt_in 117 (by decide +kernel) (by decide +kernel), gt_in 142 (by decide +kernel) (by decide +kernel), by decide, by decide +kernel, gt_in 141 (by decide +kernel) (by decide +kernel), rfl⟩
theorem oi11_1 : Cond.methodLink RX11 1 objectInit ∈ GT := gt_in 143 (by decide +kernel) (by decide +kernel)
theorem pf11_10 : Fpf RX11 11 0 (.object "SilentReel$Tape") := ⟨RX11, TX11, 14, rfl, rfl, rfl, by decide +kernel⟩
theorem pf11_21 : Fpf RX11 11 1 (.object "SilentReel$TownReader") := ⟨RX11, TX11, 14, rfl, rfl, rfl, by decide +kernel⟩
theorem pf11_38 : Fpf RX11 11 4 (.object "SilentReel$Scene") := ⟨RX11, TX11, 14, rfl, rfl, rfl, by decide +kernel⟩
theorem pf11_42 : Fpf RX11 11 5 (.object "SilentReel$Scene") := ⟨RX11, TX11, 14, rfl, rfl, rfl, by decide +kernel⟩
theorem pf11_48 : Fpf RX11 11 6 (.object "SilentReel$Walk") := ⟨RX11, TX11, 14, rfl, rfl, rfl, by decide +kernel⟩
theorem pf11_52 : Fpf RX11 11 7 (.object "SilentReel$Walk") := ⟨RX11, TX11, 14, rfl, rfl, rfl, by decide +kernel⟩
theorem pf11_58 : Fpf RX11 11 9 (.object "SilentReel$Past") := ⟨RX11, TX11, 14, rfl, rfl, rfl, by decide +kernel⟩
theorem pf11_65 : Fpf RX11 11 10 (.object "SilentReel$Picture") := ⟨RX11, TX11, 14, rfl, rfl, rfl, by decide +kernel⟩
theorem pf11_72 : Fpf RX11 11 11 (.object "SilentReel$Beginnings") := ⟨RX11, TX11, 14, rfl, rfl, rfl, by decide +kernel⟩
theorem pf11_76 : Fpf RX11 11 12 (.array .int) := ⟨RX11, TX11, 14, rfl, rfl, rfl, by decide +kernel⟩
theorem kn11_7 : Knw RX11 7 7 11 [.null, .int 0, .int 0, .int 0, .int 0, .int 0, .int 0, .int 0, .null, .int 0, .int 0] := ⟨RX7, TX7, tyX7, rfl, uX7, tyX7_ok, gt_in 146 (by decide +kernel) (by decide +kernel), gt_in 147 (by decide +kernel) (by decide +kernel), gt_in 118 (by decide +kernel) (by decide +kernel), by decide +kernel⟩
theorem lk11_9 : Cond.methodLink RX11 9 yX7_init ∈ GT := gt_in 148 (by decide +kernel) (by decide +kernel)
theorem kn11_16 : Knw RX11 16 9 4 [.null, .null, .null, .int 0] := ⟨RX9, TX9, tyX9, rfl, uX9, tyX9_ok, gt_in 245 (by decide +kernel) (by decide +kernel), gt_in 246 (by decide +kernel) (by decide +kernel), gt_in 123 (by decide +kernel) (by decide +kernel), by decide +kernel⟩
theorem lk11_18 : Cond.methodLink RX11 18 yX9_init ∈ GT := gt_in 247 (by decide +kernel) (by decide +kernel)
theorem kn11_25 : Knw RX11 25 8 14 [.int 0, .null, .int 0, .null, .null, .int 0, .null, .null, .null, .int 0, .null, .int 0, .null, .null] := ⟨RX8, TX8, tyX8, rfl, uX8, tyX8_ok, gt_in 280 (by decide +kernel) (by decide +kernel), gt_in 281 (by decide +kernel) (by decide +kernel), gt_in 125 (by decide +kernel) (by decide +kernel), by decide +kernel⟩
theorem kn11_35 : Knw RX11 35 6 5 [.int 0, .null, .int 0, .null, .int 0] := ⟨RX6, TX6, tyX6, rfl, uX6, tyX6_ok, gt_in 408 (by decide +kernel) (by decide +kernel), gt_in 409 (by decide +kernel) (by decide +kernel), gt_in 128 (by decide +kernel) (by decide +kernel), by decide +kernel⟩
theorem kn11_45 : Knw RX11 45 10 6 [.null, .null, .null, .null, .null, .null] := ⟨RX10, TX10, tyX10, rfl, uX10, tyX10_ok, gt_in 448 (by decide +kernel) (by decide +kernel), gt_in 449 (by decide +kernel) (by decide +kernel), gt_in 129 (by decide +kernel) (by decide +kernel), by decide +kernel⟩
theorem kn11_55 : Knw RX11 55 3 4 [.null, .int 0, .int 0, .null] := ⟨RX3, TX3, tyX3, rfl, uX3, tyX3_ok, gt_in 473 (by decide +kernel) (by decide +kernel), gt_in 474 (by decide +kernel) (by decide +kernel), gt_in 130 (by decide +kernel) (by decide +kernel), by decide +kernel⟩
theorem lk11_57 : Cond.methodLink RX11 57 yX3_init ∈ GT := gt_in 475 (by decide +kernel) (by decide +kernel)
theorem kn11_62 : Knw RX11 62 4 2 [.null, .int 0] := ⟨RX4, TX4, tyX4, rfl, uX4, tyX4_ok, gt_in 496 (by decide +kernel) (by decide +kernel), gt_in 497 (by decide +kernel) (by decide +kernel), gt_in 131 (by decide +kernel) (by decide +kernel), by decide +kernel⟩
theorem kn11_69 : Knw RX11 69 0 8 [.null, .int 0, .null, .null, .int 0, .int 0, .int 0, .int 0] := ⟨RX0, TX0, tyX0, rfl, uX0, tyX0_ok, gt_in 511 (by decide +kernel) (by decide +kernel), gt_in 512 (by decide +kernel) (by decide +kernel), gt_in 132 (by decide +kernel) (by decide +kernel), by decide +kernel⟩
abbrev SX11_ : Type := Nat × (Nat × Nat) × Nat × SX9_ × Nat × SX8_ × Nat × SX8_ × Nat × SX6_ × Nat × SX6_ × Nat × SX10_ × Nat × SX10_ × Nat × SX3_ × Nat × SX4_ × Nat × SX0_ × Nat
def bX11 (Y : YT) (h0 : Nat) : SX11_ → va_W := fun t => (h0, .inr (11, [.ref t.1, .ref t.2.2.1, .ref t.2.2.2.2.1, .ref t.2.2.2.2.2.2.1, .ref t.2.2.2.2.2.2.2.2.1, .ref t.2.2.2.2.2.2.2.2.2.2.1, .ref t.2.2.2.2.2.2.2.2.2.2.2.2.1, .ref t.2.2.2.2.2.2.2.2.2.2.2.2.2.2.1, .int 0, .ref t.2.2.2.2.2.2.2.2.2.2.2.2.2.2.2.2.1, .ref t.2.2.2.2.2.2.2.2.2.2.2.2.2.2.2.2.2.2.1, .ref t.2.2.2.2.2.2.2.2.2.2.2.2.2.2.2.2.2.2.2.2.1, .ref t.2.2.2.2.2.2.2.2.2.2.2.2.2.2.2.2.2.2.2.2.2.2, vI (1)])) :: (((((((((((([] ++ bX7 Y t.1 t.2.1) ++ bX9 Y t.2.2.1 t.1 t.2.2.2.1) ++ bX8 Y t.2.2.2.2.1 t.2.2.2.2.2.1) ++ bX8 Y t.2.2.2.2.2.2.1 t.2.2.2.2.2.2.2.1) ++ bX6 Y t.2.2.2.2.2.2.2.2.1 t.2.2.2.2.2.2.2.2.2.1) ++ bX6 Y t.2.2.2.2.2.2.2.2.2.2.1 t.2.2.2.2.2.2.2.2.2.2.2.1) ++ bX10 Y t.2.2.2.2.2.2.2.2.2.2.2.2.1 t.2.2.2.2.2.2.2.2.2.2.2.2.2.1) ++ bX10 Y t.2.2.2.2.2.2.2.2.2.2.2.2.2.2.1 t.2.2.2.2.2.2.2.2.2.2.2.2.2.2.2.1) ++ bX3 Y t.2.2.2.2.2.2.2.2.2.2.2.2.2.2.2.2.1 t.2.2.2.2.2.2.2.2.2.2.2.2.2.2.2.2.2.1) ++ bX4 Y t.2.2.2.2.2.2.2.2.2.2.2.2.2.2.2.2.2.2.1 t.2.2.2.2.2.2.2.2.2.2.2.2.2.2.2.2.2.2.2.1) ++ bX0 Y t.2.2.2.2.2.2.2.2.2.2.2.2.2.2.2.2.2.2.2.2.1 t.2.2.2.2.2.2.2.2.2.2.2.2.2.2.2.2.2.2.2.2.2.1) ++ [(t.2.2.2.2.2.2.2.2.2.2.2.2.2.2.2.2.2.2.2.2.2.2, .inl (Y.2.1 20, 6, .inl fun _ => 0))])
set_option maxHeartbeats 2000000 in
theorem c_X11 {l : Launch} {Y : YT} {h0 : Nat} {g : Nat × Nat × Nat} : CtrS l Y yX11_init cX11_init 1 6 198 13403 [.ref h0] h0 11 [.null, .null, .null, .null, .null, .null, .null, .null, .int 0, .null, .null, .null, .null, .int 0] g (bX11 Y h0) := by
  refine ctrs_of (by decide) rfl (Nat.le_of_ble_eq_true rfl) [(0, .ref h0)] rfl (fun A X hl C hm hs hR => ?_)
  subst hl
  refine k_aload (q := 0) C dX11_init_0 rfl rfl ?_
  refine k_obj C oi11_1 oi_m oi_c (by decide) dX11_init_1 ?_ rfl
  refine k_aload (q := 0) C dX11_init_4 rfl rfl ?_
  refine k_new C kn11_7 dX11_init_5 (by decide) (by decide) (fun q1 => ?_)
  refine k_dup C dX11_init_8 ?_
  refine k_callS (As := []) C hs lk11_9 kc7 dX11_init_9 rfl (Nat.le_of_ble_eq_true rfl) rfl (by decide) (by decide) (by decide) (c_X7) (fun u2 => ?_)
  refine k_putF (fs' := [.ref q1, .null, .null, .null, .null, .null, .null, .null, .int 0, .null, .null, .null, .null, .int 0]) C hm fX11_10 pf11_10 dX11_init_12 rfl rfl (Nat.le_of_ble_eq_true rfl) rfl ?_
  refine k_aload (q := 0) C dX11_init_15 rfl rfl ?_
  refine k_new C kn11_16 dX11_init_16 (by decide) (by decide) (fun q3 => ?_)
  refine k_dup C dX11_init_19 ?_
  refine k_aload (q := 0) C dX11_init_20 rfl rfl ?_
  refine k_getQ 0 C fX11_10 rfl dX11_init_21 rfl ?_
  refine k_call (As := [.ref q1]) C lk11_18 kc9 dX11_init_24 rfl (Nat.le_of_ble_eq_true rfl) rfl (by decide) (by decide) (by decide) (c_X9) (fun u4 => ?_)
  refine k_putF (fs' := [.ref q1, .ref q3, .null, .null, .null, .null, .null, .null, .int 0, .null, .null, .null, .null, .int 0]) C hm fX11_21 pf11_21 dX11_init_27 rfl rfl (Nat.le_of_ble_eq_true rfl) rfl ?_
  refine k_aload (q := 0) C dX11_init_30 rfl rfl ?_
  refine k_new C kn11_25 dX11_init_31 (by decide) (by decide) (fun q5 => ?_)
  refine k_dup C dX11_init_34 ?_
  refine k_callN (As := []) C (by decide) kc8 dX11_init_35 rfl (Nat.le_of_ble_eq_true rfl) rfl (by decide) (by decide) (by decide) (c_X8) (fun u6 => ?_)
  refine k_putN (fs' := [.ref q1, .ref q3, .ref q5, .null, .null, .null, .null, .null, .int 0, .null, .null, .null, .null, .int 0]) C fX11_28 pX11_28 dX11_init_38 rfl rfl (Nat.le_of_ble_eq_true rfl) rfl ?_
  refine k_aload (q := 0) C dX11_init_41 rfl rfl ?_
  refine k_new C kn11_25 dX11_init_42 (by decide) (by decide) (fun q7 => ?_)
  refine k_dup C dX11_init_45 ?_
  refine k_callN (As := []) C (by decide) kc8 dX11_init_46 rfl (Nat.le_of_ble_eq_true rfl) rfl (by decide) (by decide) (by decide) (c_X8) (fun u8 => ?_)
  refine k_putN (fs' := [.ref q1, .ref q3, .ref q5, .ref q7, .null, .null, .null, .null, .int 0, .null, .null, .null, .null, .int 0]) C fX11_32 pX11_32 dX11_init_49 rfl rfl (Nat.le_of_ble_eq_true rfl) rfl ?_
  refine k_aload (q := 0) C dX11_init_52 rfl rfl ?_
  refine k_new C kn11_35 dX11_init_53 (by decide) (by decide) (fun q9 => ?_)
  refine k_dup C dX11_init_56 ?_
  refine k_callN (As := []) C (by decide) kc6 dX11_init_57 rfl (Nat.le_of_ble_eq_true rfl) rfl (by decide) (by decide) (by decide) (c_X6) (fun u10 => ?_)
  refine k_putF (fs' := [.ref q1, .ref q3, .ref q5, .ref q7, .ref q9, .null, .null, .null, .int 0, .null, .null, .null, .null, .int 0]) C hm fX11_38 pf11_38 dX11_init_60 rfl rfl (Nat.le_of_ble_eq_true rfl) rfl ?_
  refine k_aload (q := 0) C dX11_init_63 rfl rfl ?_
  refine k_new C kn11_35 dX11_init_64 (by decide) (by decide) (fun q11 => ?_)
  refine k_dup C dX11_init_67 ?_
  refine k_callN (As := []) C (by decide) kc6 dX11_init_68 rfl (Nat.le_of_ble_eq_true rfl) rfl (by decide) (by decide) (by decide) (c_X6) (fun u12 => ?_)
  refine k_putF (fs' := [.ref q1, .ref q3, .ref q5, .ref q7, .ref q9, .ref q11, .null, .null, .int 0, .null, .null, .null, .null, .int 0]) C hm fX11_42 pf11_42 dX11_init_71 rfl rfl (Nat.le_of_ble_eq_true rfl) rfl ?_
  refine k_aload (q := 0) C dX11_init_74 rfl rfl ?_
  refine k_new C kn11_45 dX11_init_75 (by decide) (by decide) (fun q13 => ?_)
  refine k_dup C dX11_init_78 ?_
  refine k_callN (As := []) C (by decide) kc10 dX11_init_79 rfl (Nat.le_of_ble_eq_true rfl) rfl (by decide) (by decide) (by decide) (c_X10) (fun u14 => ?_)
  refine k_putF (fs' := [.ref q1, .ref q3, .ref q5, .ref q7, .ref q9, .ref q11, .ref q13, .null, .int 0, .null, .null, .null, .null, .int 0]) C hm fX11_48 pf11_48 dX11_init_82 rfl rfl (Nat.le_of_ble_eq_true rfl) rfl ?_
  refine k_aload (q := 0) C dX11_init_85 rfl rfl ?_
  refine k_new C kn11_45 dX11_init_86 (by decide) (by decide) (fun q15 => ?_)
  refine k_dup C dX11_init_89 ?_
  refine k_callN (As := []) C (by decide) kc10 dX11_init_90 rfl (Nat.le_of_ble_eq_true rfl) rfl (by decide) (by decide) (by decide) (c_X10) (fun u16 => ?_)
  refine k_putF (fs' := [.ref q1, .ref q3, .ref q5, .ref q7, .ref q9, .ref q11, .ref q13, .ref q15, .int 0, .null, .null, .null, .null, .int 0]) C hm fX11_52 pf11_52 dX11_init_93 rfl rfl (Nat.le_of_ble_eq_true rfl) rfl ?_
  refine k_aload (q := 0) C dX11_init_96 rfl rfl ?_
  refine k_new C kn11_55 dX11_init_97 (by decide) (by decide) (fun q17 => ?_)
  refine k_dup C dX11_init_100 ?_
  refine k_call (As := []) C lk11_57 kc3 dX11_init_101 rfl (Nat.le_of_ble_eq_true rfl) rfl (by decide) (by decide) (by decide) (c_X3) (fun u18 => ?_)
  refine k_putF (fs' := [.ref q1, .ref q3, .ref q5, .ref q7, .ref q9, .ref q11, .ref q13, .ref q15, .int 0, .ref q17, .null, .null, .null, .int 0]) C hm fX11_58 pf11_58 dX11_init_104 rfl rfl (Nat.le_of_ble_eq_true rfl) rfl ?_
  refine k_aload (q := 0) C dX11_init_107 rfl rfl ?_
  refine k_new C kn11_62 dX11_init_108 (by decide) (by decide) (fun q19 => ?_)
  refine k_dup C dX11_init_111 ?_
  refine k_callN (As := []) C (by decide) kc4 dX11_init_112 rfl (Nat.le_of_ble_eq_true rfl) rfl (by decide) (by decide) (by decide) (c_X4) (fun u20 => ?_)
  refine k_putF (fs' := [.ref q1, .ref q3, .ref q5, .ref q7, .ref q9, .ref q11, .ref q13, .ref q15, .int 0, .ref q17, .ref q19, .null, .null, .int 0]) C hm fX11_65 pf11_65 dX11_init_115 rfl rfl (Nat.le_of_ble_eq_true rfl) rfl ?_
  refine k_aload (q := 0) C dX11_init_118 rfl rfl ?_
  refine k_new C kn11_69 dX11_init_119 (by decide) (by decide) (fun q21 => ?_)
  refine k_dup C dX11_init_122 ?_
  refine k_callN (As := []) C (by decide) kc0 dX11_init_123 rfl (Nat.le_of_ble_eq_true rfl) rfl (by decide) (by decide) (by decide) (c_X0) (fun u22 => ?_)
  refine k_putF (fs' := [.ref q1, .ref q3, .ref q5, .ref q7, .ref q9, .ref q11, .ref q13, .ref q15, .int 0, .ref q17, .ref q19, .ref q21, .null, .int 0]) C hm fX11_72 pf11_72 dX11_init_126 rfl rfl (Nat.le_of_ble_eq_true rfl) rfl ?_
  refine k_aload (q := 0) C dX11_init_129 rfl rfl ?_
  refine k_bipush (v := 6) C dX11_init_130 (by decide +kernel) ?_
  refine k_newa 6 0 (a0 := (6, .inl fun _ => 0)) C aw_int rfl rfl (ac_int 6) rfl (by decide) (by decide) dX11_init_132 (by decide) (by decide) (fun q23 => ?_)
  refine k_putF (fs' := [.ref q1, .ref q3, .ref q5, .ref q7, .ref q9, .ref q11, .ref q13, .ref q15, .int 0, .ref q17, .ref q19, .ref q21, .ref q23, .int 0]) C hm fX11_76 pf11_76 dX11_init_134 rfl rfl (Nat.le_of_ble_eq_true rfl) rfl ?_
  refine k_aload (q := 0) C dX11_init_137 rfl rfl ?_
  refine k_iconst C dX11_init_138 ?_
  refine k_putN (fs' := [.ref q1, .ref q3, .ref q5, .ref q7, .ref q9, .ref q11, .ref q13, .ref q15, .int 0, .ref q17, .ref q19, .ref q21, .ref q23, vI (1)]) C fX11_80 pX11_80 dX11_init_139 rfl rfl (Nat.le_of_ble_eq_true rfl) rfl ?_
  exact k_ret (q1, u2, q3, u4, q5, u6, q7, u8, q9, u10, q11, u12, q13, u14, q15, u16, q17, u18, q19, u20, q21, u22, q23) C hR dX11_init_142 rfl (by decide) (by decide)
