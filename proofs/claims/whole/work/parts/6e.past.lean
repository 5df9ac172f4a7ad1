theorem dX3_init_0 : decode cX3_init 0 = .ok (.aload_n 0, 1) := by decide +kernel
theorem dX3_init_1 : decode cX3_init 1 = .ok (.invokespecial 3, 3) := by decide +kernel
theorem dX3_init_4 : decode cX3_init 4 = .ok (.aload_n 0, 1) := by decide +kernel
theorem dX3_init_5 : decode cX3_init 5 = .ok (.bipush 20, 2) := by decide +kernel
theorem dX3_init_7 : decode cX3_init 7 = .ok (.anewarray 11, 3) := by decide +kernel
theorem dX3_init_10 : decode cX3_init 10 = .ok (.putfield 13, 3) := by decide +kernel
theorem dX3_init_13 : decode cX3_init 13 = .ok (.aload_n 0, 1) := by decide +kernel
theorem dX3_init_14 : decode cX3_init 14 = .ok (.sipush 2997, 3) := by decide +kernel
theorem dX3_init_17 : decode cX3_init 17 = .ok (.newarray .int, 2) := by decide +kernel
theorem dX3_init_19 : decode cX3_init 19 = .ok (.putfield 17, 3) := by decide +kernel
theorem dX3_init_22 : decode cX3_init 22 = .ok (.iconst 0, 1) := by decide +kernel
theorem dX3_init_23 : decode cX3_init 23 = .ok (.istore_n 1, 1) := by decide +kernel
theorem dX3_init_24 : decode cX3_init 24 = .ok (.iload_n 1, 1) := by decide +kernel
theorem dX3_init_25 : decode cX3_init 25 = .ok (.bipush 20, 2) := by decide +kernel
theorem dX3_init_27 : decode cX3_init 27 = .ok (.if_icmp .ge 22, 3) := by decide +kernel
theorem dX3_init_30 : decode cX3_init 30 = .ok (.aload_n 0, 1) := by decide +kernel
theorem dX3_init_31 : decode cX3_init 31 = .ok (.getfield 13, 3) := by decide +kernel
theorem dX3_init_34 : decode cX3_init 34 = .ok (.iload_n 1, 1) := by decide +kernel
theorem dX3_init_35 : decode cX3_init 35 = .ok (.new 11, 3) := by decide +kernel
theorem dX3_init_38 : decode cX3_init 38 = .ok (.dup, 1) := by decide +kernel
theorem dX3_init_39 : decode cX3_init 39 = .ok (.invokespecial 21, 3) := by decide +kernel
theorem dX3_init_42 : decode cX3_init 42 = .ok (.aastore, 1) := by decide +kernel
theorem dX3_init_43 : decode cX3_init 43 = .ok (.iinc 1 1, 3) := by decide +kernel
theorem dX3_init_46 : decode cX3_init 46 = .ok (.goto (-22), 3) := by decide +kernel
theorem dX3_init_49 : decode cX3_init 49 = .ok (.return_, 1) := by decide +kernel
theorem kc3 : Kcl yX3_init cX3_init 2 0 := ⟨gt_in 130 (by decide +kernel) (by decide +kernel), gt_in 477 (by decide +kernel) (by decide +kernel), by decide, by decide +kernel, gt_in 476 (by decide +kernel) (by decide +kernel), rfl⟩
theorem oi3_3 : Cond.methodLink RX3 3 objectInit ∈ GT := gt_in 478 (by decide +kernel) (by decide +kernel)
theorem pf3_13 : Fpf RX3 3 0 (.array (.object "SilentReel$Scene")) := ⟨RX3, TX3, 4, rfl, rfl, rfl, by decide +kernel⟩
theorem pf3_17 : Fpf RX3 3 3 (.array .int) := ⟨RX3, TX3, 4, rfl, rfl, rfl, by decide +kernel⟩
theorem kn3_11 : Knw RX3 11 6 5 [.int 0, .null, .int 0, .null, .int 0] := ⟨RX6, TX6, tyX6, rfl, uX6, tyX6_ok, gt_in 479 (by decide +kernel) (by decide +kernel), gt_in 409 (by decide +kernel) (by decide +kernel), gt_in 128 (by decide +kernel) (by decide +kernel), by decide +kernel⟩
theorem cl3_11 : Cond.classLink RX3 11 RX6 ∈ GT := gt_in 479 (by decide +kernel) (by decide +kernel)
/-- the past's cells when i scenes are made -/
def wPs (Y : YT) (h0 qa qr i : Nat) (u : Nat → Nat × SX6_) : va_W := (h0, .inr (3, [.ref qa, .int 0, .int 0, .ref qr])) :: (qa, .inl (Y.2.1 23, 20, .inr (.inr (.inr (.inr fun j => if j < i then some (u j).1 else none))))) :: (qr, .inl (Y.2.1 20, 2997, .inl fun _ => 0)) :: (List.range i).flatMap fun j => bX6 Y (u j).1 (u j).2
theorem wPs_step {Y : YT} {h0 qa qr i : Nat} {u : Nat → Nat × SX6_} (q : Nat) (v : SX6_) : (wPs Y h0 qa qr i u ++ bX6 Y q v).set 1 (qa, .inl (Y.2.1 23, 20, .inr (.inr (.inr (.inr (va_up (fun j => if j < i then some (u j).1 else none) i (some q))))))) = wPs Y h0 qa qr (i + 1) (fun j => if j = i then (q, v) else u j) := by
  have e1 : va_up (fun j => if j < i then some (u j).1 else none) i (some q) = fun j => if j < i + 1 then some ((if j = i then (q, v) else u j) : Nat × SX6_).1 else none := by
    funext j
    show (if j = i then some q else if j < i then some (u j).1 else none) = _
    by_cases h : j = i
    · rw [if_pos h, if_pos (by omega), if_pos h]
    · rw [if_neg h, if_neg h]
      by_cases h2 : j < i
      · rw [if_pos h2, if_pos (by omega)]
      · rw [if_neg h2, if_neg (by omega)]
  have e2 : ((List.range i).flatMap fun j => bX6 Y (u j).1 (u j).2) ++ bX6 Y q v = (List.range (i + 1)).flatMap fun j => bX6 Y ((if j = i then (q, v) else u j) : Nat × SX6_).1 ((if j = i then (q, v) else u j) : Nat × SX6_).2 := by
    rw [List.range_succ, List.flatMap_append]
    congr 1
    · rw [List.flatMap_def, List.flatMap_def]
      congr 1
      apply List.map_congr_left
      intro j hj
      have : j ≠ i := Nat.ne_of_lt (List.mem_range.mp hj)
      simp only [if_neg this]
    · simp
  show (h0, _) :: (qa, _) :: (qr, _) :: (_ ++ bX6 Y q v) = _
  rw [e1, e2]
  rfl
abbrev SX3_ : Type := Nat × Nat × (Nat → Nat × SX6_)
def bX3 (Y : YT) (h0 : Nat) : SX3_ → va_W := fun t => wPs Y h0 t.1 t.2.1 20 t.2.2
theorem c_X3 {l : Launch} {Y : YT} {h0 : Nat} : CtrN l Y yX3_init cX3_init 2 3 122 3857 [.ref h0] h0 3 [.null, .int 0, .int 0, .null] (bX3 Y h0) := by
  refine ctrn_of (by decide) rfl (Nat.le_of_ble_eq_true rfl) [(0, .ref h0)] rfl (fun A X hl C hm hR => ?_)
  subst hl
  refine k_aload (q := 0) C dX3_init_0 rfl rfl ?_
  refine k_obj C oi3_3 oi_m oi_c (by decide) dX3_init_1 ?_ rfl
  refine k_aload (q := 0) C dX3_init_4 rfl rfl ?_
  refine k_bipush (v := 20) C dX3_init_5 (by decide +kernel) ?_
  refine k_anew 20 C cl3_11 rfl (by decide) dX3_init_7 (by decide) (by decide) (fun qa => ?_)
  refine k_putF (fs' := [.ref qa, .int 0, .int 0, .null]) C hm fX3_13 pf3_13 dX3_init_10 rfl rfl (Nat.le_of_ble_eq_true rfl) rfl ?_
  refine k_aload (q := 0) C dX3_init_13 rfl rfl ?_
  refine k_sipush (v := 2997) C dX3_init_14 (by decide +kernel) ?_
  refine k_newa 2997 0 (a0 := (2997, .inl fun _ => 0)) C aw_int rfl rfl (ac_int 2997) rfl (by decide) (by decide) dX3_init_17 (by decide) (by decide) (fun qr => ?_)
  refine k_putF (fs' := [.ref qa, .int 0, .int 0, .ref qr]) C hm fX3_17 pf3_17 dX3_init_19 rfl rfl (Nat.le_of_ble_eq_true rfl) rfl ?_
  refine k_iconst C dX3_init_22 ?_
  refine k_istore (lv' := [(1, vI 0), (0, .ref h0)]) C dX3_init_23 rfl (by decide) rfl ?_
  have loop : ∀ n i : Nat, i + n = 20 → ∀ u : Nat → Nat × SX6_, KG (Y.1, Y.2.1, Y.2.2.1, A) X 2 24 [(1, vI i), (0, .ref h0)] [] (wPs (Y.1, Y.2.1, Y.2.2.1, A) h0 qa qr i u) (2 + 6 * i) (3017 + 42 * i) := by
    intro n
    induction n with
    | zero =>
      intro i hi u
      have e : i = 20 := by omega
      subst e
      refine k_iload (q := 0) C dX3_init_24 rfl rfl ?_
      refine k_bipush (v := 20) C dX3_init_25 (by decide +kernel) ?_
      refine k_ge (tgt := 49) C dX3_init_27 (by decide) (by decide) (by decide) (fun _ => ?_) (fun z => absurd (by decide) z)
      exact k_ret (qa, qr, u) C hR dX3_init_49 rfl (by decide) (by decide)
    | succ n ih =>
      intro i hi u
      refine k_iload (q := 0) C dX3_init_24 rfl rfl ?_
      refine k_bipush (v := 20) C dX3_init_25 (by decide +kernel) ?_
      refine k_ge (tgt := 49) C dX3_init_27 (by decide) (by omega) (by decide) (fun z => absurd z (by omega)) (fun _ => ?_)
      refine k_aload (q := 1) C dX3_init_30 rfl rfl ?_
      refine k_getQ 0 C fX3_13 rfl dX3_init_31 rfl ?_
      refine k_iload (q := 0) C dX3_init_34 rfl rfl ?_
      refine k_new C kn3_11 dX3_init_35 (by omega) (by omega) (fun q => ?_)
      refine k_dup C dX3_init_38 ?_
      refine k_callN (As := []) C (by decide) kc6 dX3_init_39 rfl (Nat.le_of_ble_eq_true rfl) rfl (by decide) (by omega) (by omega) c_X6 (fun v => ?_)
      refine k_aast 1 (wPs (Y.1, Y.2.1, Y.2.2.1, A) h0 qa qr i u).length C rfl (by rw [List.getElem?_append_right (Nat.le_refl _), Nat.sub_self]; rfl) (by omega) (by decide) dX3_init_42 (wPs_step q v) ?_
      refine k_iinc (q := 0) (v := ((i + 1 : Nat) : Int)) (lv' := [(1, vI ((i + 1 : Nat) : Int)), (0, .ref h0)]) C dX3_init_43 rfl (by omega) (by decide) rfl ?_
      refine k_goto (tgt := 24) C dX3_init_46 (by decide) ?_
      exact (ih (i + 1) (by omega) _).to rfl (by omega) (by omega)
  exact loop 20 0 rfl (fun _ => (0, 0, 0, 0, 0, 0))
