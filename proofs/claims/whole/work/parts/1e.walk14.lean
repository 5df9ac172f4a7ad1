theorem dX12_on_0 : decode cX12_on 0 = .ok (.aload_n 0, 1) := by decide +kernel
theorem dX12_on_1 : decode cX12_on 1 = .ok (.getfield 13, 3) := by decide +kernel
theorem dX12_on_4 : decode cX12_on 4 = .ok (.istore_n 1, 1) := by decide +kernel
theorem dX12_on_5 : decode cX12_on 5 = .ok (.aload_n 0, 1) := by decide +kernel
theorem dX12_on_6 : decode cX12_on 6 = .ok (.iconst 0, 1) := by decide +kernel
theorem dX12_on_7 : decode cX12_on 7 = .ok (.putfield 13, 3) := by decide +kernel
theorem dX12_on_10 : decode cX12_on 10 = .ok (.aload_n 0, 1) := by decide +kernel
theorem dX12_on_11 : decode cX12_on 11 = .ok (.iload_n 1, 1) := by decide +kernel
theorem dX12_on_12 : decode cX12_on 12 = .ok (.invokevirtual 520, 3) := by decide +kernel
theorem dX12_on_15 : decode cX12_on 15 = .ok (.ifCond .ne 17, 3) := by decide +kernel
theorem dX12_on_18 : decode cX12_on 18 = .ok (.aload_n 0, 1) := by decide +kernel
theorem dX12_on_19 : decode cX12_on 19 = .ok (.iconst 5, 1) := by decide +kernel
theorem dX12_on_20 : decode cX12_on 20 = .ok (.invokevirtual 216, 3) := by decide +kernel
theorem dX12_on_23 : decode cX12_on 23 = .ok (.ifCond .lt 7, 3) := by decide +kernel
theorem dX12_on_26 : decode cX12_on 26 = .ok (.iconst 1, 1) := by decide +kernel
theorem dX12_on_27 : decode cX12_on 27 = .ok (.goto 4, 3) := by decide +kernel
theorem dX12_on_30 : decode cX12_on 30 = .ok (.iconst 0, 1) := by decide +kernel
theorem dX12_on_31 : decode cX12_on 31 = .ok (.ireturn, 1) := by decide +kernel
theorem dX12_on_32 : decode cX12_on 32 = .ok (.aload_n 0, 1) := by decide +kernel
theorem dX12_on_33 : decode cX12_on 33 = .ok (.iconst 0, 1) := by decide +kernel
theorem dX12_on_34 : decode cX12_on 34 = .ok (.iconst 1, 1) := by decide +kernel
theorem dX12_on_35 : decode cX12_on 35 = .ok (.invokevirtual 411, 3) := by decide +kernel
theorem dX12_on_38 : decode cX12_on 38 = .ok (.aload_n 0, 1) := by decide +kernel
theorem dX12_on_39 : decode cX12_on 39 = .ok (.iconst 0, 1) := by decide +kernel
theorem dX12_on_40 : decode cX12_on 40 = .ok (.putfield 180, 3) := by decide +kernel
theorem dX12_on_43 : decode cX12_on 43 = .ok (.iconst 1, 1) := by decide +kernel
theorem dX12_on_44 : decode cX12_on 44 = .ok (.ireturn, 1) := by decide +kernel
set_option maxRecDepth 20000 in
theorem w_X12_on_J31 {Y : YT} {X : CX} (C : Cx Y X cX12_on 2 RX12 3) {Q : Int → Mem → Prop} (hR : Rt Y X (some .boolean) (PQi Y Q)) {s0 : Int}  {M : Mem}  (h : m_X12_on_J31  Q s0 M) : G Y X 2 31 [] ((vI s0) :: []) M := by
  unfold m_X12_on_J31 at h
  obtain ⟨g1, h⟩ := h
  exact g_retz C hR dX12_on_31 g1 h
set_option maxRecDepth 20000 in
theorem t_X12_on {l : Launch} {Y : YT} (hY : YOK Y) {M : Mem} {Q : Int → Mem → Prop} (h : m_X12_on  M Q) : Ctr l Y yX12_on cX12_on 2 (some .boolean) 3 [vR Y 199] M (PQi Y Q) := by
  unfold m_X12_on at h
  refine ctr_ofF hY (by decide +kernel) (Nat.le_of_ble_eq_true rfl) [(0, vR Y 199)] rfl (fun X hX C hR => ?_)
  refine g_aload_n (q := 0) C dX12_on_0 rfl rfl ?_
  refine g_getI C fX12_13 (by decide) dX12_on_1 kd_199 ?_
  refine g_istore_n (lv' := [(1, vI (M 199 1)), (0, vR Y 199)]) C dX12_on_4 rfl (by decide) rfl ?_
  refine g_aload_n (q := 1) C dX12_on_5 rfl rfl ?_
  refine g_iconst C dX12_on_6 rfl ?_
  obtain ⟨M2, e_M2⟩ : ∃ z : Mem, z = up M 199 1 0 := ⟨_, rfl⟩
  have h := h M2 e_M2
  refine g_putI C fX12_13 pX12_13 dX12_on_7 kd_199 e_M2 ?_
  refine g_aload_n (q := 1) C dX12_on_10 rfl rfl ?_
  refine g_iload_n (q := 0) C dX12_on_11 rfl rfl ?_
  refine g_cVi (As := [vI (M 199 1)]) C clX12_520 clvX12_comesOn dX12_on_12 kd_199 rfl (Nat.le_of_ble_eq_true rfl) rfl (by decide) (t_X12_comesOn (Cx.ok C) h) (fun r4 M3 h => ?_)
  obtain ⟨g5, h⟩ := h
  obtain ⟨ht, hf⟩ := h
  refine g_if_ne (tgt := 32) C dX12_on_15 (by decide) g5 (fun c => ?_) (fun c => ?_)
  · have h := hf c
    refine g_aload_n (q := 1) C dX12_on_32 rfl rfl ?_
    refine g_iconst C dX12_on_33 rfl ?_
    refine g_iconst C dX12_on_34 rfl ?_
    refine g_cVv (As := [vI 0, vI 1]) C clX12_411 clvX12_copies dX12_on_35 kd_199 rfl (Nat.le_of_ble_eq_true rfl) rfl (by decide) (t_X12_copies (Cx.ok C) h) (fun M6 h => ?_)
    refine g_aload_n (q := 1) C dX12_on_38 rfl rfl ?_
    refine g_iconst C dX12_on_39 rfl ?_
    obtain ⟨M7, e_M7⟩ : ∃ z : Mem, z = up M6 199 55 0 := ⟨_, rfl⟩
    have h := h M7 e_M7
    refine g_putI C fX12_180 pX12_180 dX12_on_40 kd_199 e_M7 ?_
    refine g_iconst C dX12_on_43 rfl ?_
    exact g_retz C hR dX12_on_44 (by decide) h
  · have h := ht c
    refine g_aload_n (q := 1) C dX12_on_18 rfl rfl ?_
    refine g_iconst C dX12_on_19 rfl ?_
    refine g_cVi (As := [vI 5]) C clX12_216 clvX12_refuses dX12_on_20 kd_199 rfl (Nat.le_of_ble_eq_true rfl) rfl (by decide) (t_X12_refuses (Cx.ok C) h) (fun r9 M8 h => ?_)
    obtain ⟨g10, h⟩ := h
    obtain ⟨ht, hf⟩ := h
    refine g_if_lt (tgt := 30) C dX12_on_23 (by decide) g10 (fun c => ?_) (fun c => ?_)
    · have h := ht c
      refine g_iconst C dX12_on_30 rfl ?_
      refine G.sub [] rfl ?_
      exact w_X12_on_J31 C hR  h
    · have h := hf c
      refine g_iconst C dX12_on_26 rfl ?_
      refine g_goto (tgt := 31) C dX12_on_27 (by decide) ?_
      refine G.sub [] rfl ?_
      exact w_X12_on_J31 C hR  h
