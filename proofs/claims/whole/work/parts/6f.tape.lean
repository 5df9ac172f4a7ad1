theorem dX7_init_0 : decode cX7_init 0 = .ok (.aload_n 0, 1) := by decide +kernel
theorem dX7_init_1 : decode cX7_init 1 = .ok (.invokespecial 3, 3) := by decide +kernel
theorem dX7_init_4 : decode cX7_init 4 = .ok (.aload_n 0, 1) := by decide +kernel
theorem dX7_init_5 : decode cX7_init 5 = .ok (.sipush 1600, 3) := by decide +kernel
theorem dX7_init_8 : decode cX7_init 8 = .ok (.newarray .int, 2) := by decide +kernel
theorem dX7_init_10 : decode cX7_init 10 = .ok (.putfield 9, 3) := by decide +kernel
theorem dX7_init_13 : decode cX7_init 13 = .ok (.aload_n 0, 1) := by decide +kernel
theorem dX7_init_14 : decode cX7_init 14 = .ok (.iconst (-1), 1) := by decide +kernel
theorem dX7_init_15 : decode cX7_init 15 = .ok (.putfield 15, 3) := by decide +kernel
theorem dX7_init_18 : decode cX7_init 18 = .ok (.aload_n 0, 1) := by decide +kernel
theorem dX7_init_19 : decode cX7_init 19 = .ok (.bipush 24, 2) := by decide +kernel
theorem dX7_init_21 : decode cX7_init 21 = .ok (.newarray .int, 2) := by decide +kernel
theorem dX7_init_23 : decode cX7_init 23 = .ok (.putfield 19, 3) := by decide +kernel
theorem dX7_init_26 : decode cX7_init 26 = .ok (.iconst 0, 1) := by decide +kernel
theorem dX7_init_27 : decode cX7_init 27 = .ok (.istore_n 1, 1) := by decide +kernel
theorem dX7_init_28 : decode cX7_init 28 = .ok (.iload_n 1, 1) := by decide +kernel
theorem dX7_init_29 : decode cX7_init 29 = .ok (.bipush 24, 2) := by decide +kernel
theorem dX7_init_31 : decode cX7_init 31 = .ok (.if_icmp .ge 19, 3) := by decide +kernel
theorem dX7_init_34 : decode cX7_init 34 = .ok (.aload_n 0, 1) := by decide +kernel
theorem dX7_init_35 : decode cX7_init 35 = .ok (.getfield 19, 3) := by decide +kernel
theorem dX7_init_38 : decode cX7_init 38 = .ok (.iload_n 1, 1) := by decide +kernel
theorem dX7_init_39 : decode cX7_init 39 = .ok (.iload_n 1, 1) := by decide +kernel
theorem dX7_init_40 : decode cX7_init 40 = .ok (.invokestatic 22, 3) := by decide +kernel
theorem dX7_init_43 : decode cX7_init 43 = .ok (.iastore, 1) := by decide +kernel
theorem dX7_init_44 : decode cX7_init 44 = .ok (.iinc 1 1, 3) := by decide +kernel
theorem dX7_init_47 : decode cX7_init 47 = .ok (.goto (-19), 3) := by decide +kernel
theorem dX7_init_50 : decode cX7_init 50 = .ok (.return_, 1) := by decide +kernel
theorem kc7 : Kcl yX7_init cX7_init 2 0 := ⟨gt_in 118 (by decide +kernel) (by decide +kernel), gt_in 150 (by decide +kernel) (by decide +kernel), by decide, by decide +kernel, gt_in 149 (by decide +kernel) (by decide +kernel), rfl⟩
theorem oi7_3 : Cond.methodLink RX7 3 objectInit ∈ GT := gt_in 151 (by decide +kernel) (by decide +kernel)
theorem pf7_9 : Fpf RX7 7 0 (.array .int) := ⟨RX7, TX7, 11, rfl, rfl, rfl, by decide +kernel⟩
theorem pf7_19 : Fpf RX7 7 8 (.array .int) := ⟨RX7, TX7, 11, rfl, rfl, rfl, by decide +kernel⟩
/-- a constructor's contract where the text of the own names is read -/
def PNS (Y : YT) (vs : List Value) (h0 ci : Nat) (fs : List Value) (g : Nat × Nat × Nat) (sz : Nat) : Array Value → State → Prop := va_Pc vs (fun U => U.heap.size = sz ∧ va_P Y.1 classes (wC h0 ci fs) U.heap ∧ KC Y U ∧ va_D (fun _ => True) (wC h0 ci fs) ∧ SP g (va_A (wC h0 ci fs) sz) U U.heap)
theorem blindS {Y : YT} {vs : List Value} {h0 ci sz : Nat} {fs : List Value} {g : Nat × Nat × Nat} : FrameBlind (PNS Y vs h0 ci fs g sz) := fun a U f mk h => ⟨h.1, h.2.1, h.2.2.1, KC.same (u := U) (U := U.calling f mk a) rfl h.2.2.2.1, h.2.2.2.2.1, SP.same (u := U) (U := U.calling f mk a) rfl h.2.2.2.2.2⟩
def CtrS {S : Type} (l : Launch) (Y : YT) (y : MethodName) (cc : ByteArray) (nL d mc ms : Nat) (vs : List Value) (h0 ci : Nat) (fs : List Value) (g : Nat × Nat × Nat) (B : S → va_W) : Prop := ∀ sz, Met l y (Cond.code y cc nL none :: GT) (rk d mc ms) (PNS Y vs h0 ci fs g sz) (QN Y B (va_A (wC h0 ci fs) sz)) mc ms (va_A (wC h0 ci fs) sz)
theorem ctrs_of {l : Launch} {Y : YT} {y : MethodName} {cc : ByteArray} {nL d mc ms : Nat} {vs : List Value} {h0 ci : Nat} {fs : List Value} {g : Nat × Nat × Nat} {S : Type} {B : S → va_W} (hy : plainName y.cls = true) (hi : y.name = "<init>") (hn : (lg_sl vs).length ≤ nL) (lv : List (Nat × Value)) (hlv : lv_args 0 vs = lv)
    (body : ∀ (A : Nat → Prop) (X : CX), X.2.1 = l → Cn (Y.1, Y.2.1, Y.2.2.1, A) X cc nL y.cls d mc ms → Cm X → Sp (Y.1, Y.2.1, Y.2.2.1, A) X g → Rn (Y.1, Y.2.1, Y.2.2.1, A) X B mc ms → KG (Y.1, Y.2.1, Y.2.2.1, A) X nL 0 lv [] (wC h0 ci fs) 0 0) : CtrS l Y y cc nL d mc ms vs h0 ci fs g B := by
  intro sz
  refine Met.ofW (cc := cc) (maxL := nL) (ret := none) hy rfl ?_
  intro p e s m args below meth c s₁ B0 hml hv
  obtain ⟨rfl, rfl, hP, hK, hD, hSP⟩ := hv
  have hts := atoms_spec (ws := Cond.code y cc nL none :: GT) B0.pre
  have hl := lv_entry vs (n := nL) hn
  rw [hlv] at hl
  rw [lg_entry_eq]
  have hnm : meth.name = "<init>" := (name_of_methodNamed B0.named B0.method).1.trans hi
  exact body (va_A (wC h0 ci fs) s.heap.size) (p, l, e, rk d mc ms, s, m, vs.toArray, below, meth, c, MQ below (QN Y B (va_A (wC h0 ci fs) s.heap.size)) vs.toArray s mc ms (va_A (wC h0 ci fs) s.heap.size), 0, 0) rfl ⟨B0.exec, B0.bytes, hml, findClass_of_methodNamed B0.named, fun w h => hts w (List.mem_cons_of_mem _ h), hK, fun q h => Or.inr h, Nat.le_refl _, Nat.le_refl _, Nat.le_refl _, Nat.le_refl _, B0.notSynchronized⟩ hnm hSP ⟨B0.returns, rfl, rfl, rfl⟩ s.heap [] _ hl hP hD.self va_S.rf
section RK
variable {Y : YT} {X : CX} {cc : ByteArray} {nL pc d mc ms k n : Nat} {own : String} {lv lv' : List (Nat × Value)} {st st0 : List Value} {ws ws' rest : va_W} {g : Nat × Nat × Nat}
theorem k_callS {i q ci nC dC mC sC nA : Nat} {y : MethodName} {cC : ByteArray} {As fs : List Value} {S : Type} {B : S → va_W} (C : Cn Y X cc nL own d mc ms) (hs : Sp Y X g) (h1 : Cond.methodLink own i y ∈ GT) (hc : Kcl y cC nC nA) (hd : decode cc pc = .ok (.invokespecial i, 3)) (hst : As.reverse ++ .ref q :: st = st0) (hcat : (st.map fun v => v.category).sum ≤ 8) (hlen : As.length = nA) (hdep : dC + 1 ≤ d) (hk : k + mC ≤ mc) (hn : n + sC ≤ ms) (hM : CtrS X.2.1 Y y cC nC dC mC sC (.ref q :: As) q ci fs g B) (kk : ∀ u, KG Y X nL (pc + 3) lv st (ws ++ B u) (k + mC) (n + sC)) : KG Y X nL pc lv st0 (ws ++ [(q, .inr (ci, fs))]) k n := by
  obtain ⟨p, l, e, R, s, m, args, below, meth, c, Q, cl, sl⟩ := X
  intro H locs ls hl hP hD hS
  obtain ⟨hx, hb, hml, hown, hts, hK, hY, hf, hlo, hc1, hs1, hlk⟩ := C
  obtain ⟨w1, w2, w3, w4, w5, w6⟩ := hc
  have hC : [ws.length].map (fun i => (ws ++ [(q, .inr (ci, fs))])[i]?) = (wC q ci fs).map some := by simp [wC]
  have hPc := hP.sub (ws' := wC q ci fs) [ws.length] (by simp [wC])
  have hDc := hD.sub (ws' := wC q ci fs) [ws.length] rfl hC
  have hFc := va_free (wc := wC q ci fs) hD hS hY [ws.length] hC
  have hB : CallB R s args own i y cC nC none (Cond.code y cC nC none :: GT) (rk dC mC sC) mC sC nA := callB_of nA hts (gt_in3 w2) rfl rfl rfl (hts _ w1) (hts _ h1) w4 ⟨by show dC + 1 ≤ _; omega, by show 8 + (nC + 11) + 64 * dC ≤ _; omega⟩
  have hrun := va_runI (p := p) (e := e) (below := below) (meth := meth) (locs := locs) (cells := k) (slots := n) (g := F0 m pc ls st0) (As := As) (rest := st) ⟨hx, hb, hml, hown, hts⟩ (hM H.size) ⟨hB, w6, hts _ w5⟩ ⟨blindS, fun U hU hWm => ⟨rfl, by rw [hU], by rw [hU]; exact hPc, KC.warm hWm hK, hDc.weaken (fun _ _ _ _ => trivial), by rw [hU]; exact ((SP.kept hs hS.2.1).warm hWm).narrow hFc⟩⟩ rfl hlen hl.1 hst.symm (lv_room hcat) hd ⟨Nat.le_trans hk hc1, Nat.le_trans hn hs1⟩
  exact k_back (cl := cl) (sl := sl) hY hl hP hD hS hrun kk
end RK
/-- the tape's cells when i own names are packed -/
def wTq (Y : YT) (h0 q1 q2 i : Nat) : va_W := [(h0, .inr (7, [.ref q1, .int 0, .int 0, .int 0, .int 0, .int 0, .int 0, vI (-1), .ref q2, .int 0, .int 0])), (q1, .inl (Y.2.1 20, 1600, .inl fun _ => 0)), (q2, .inl (Y.2.1 20, 24, .inl fun j => if j < i then iI (pkv j 6) else 0))]
theorem wTq_step {Y : YT} {h0 q1 q2 i : Nat} : (wTq Y h0 q1 q2 i).set 2 (q2, .inl (Y.2.1 20, 24, .inl (upd (fun j => if j < i then iI (pkv j 6) else 0) i (iI (pkv i 6))))) = wTq Y h0 q1 q2 (i + 1) := by
  have e1 : upd (fun j => if j < i then iI (pkv j 6) else 0) i (iI (pkv i 6)) = fun j => if j < i + 1 then iI (pkv j 6) else 0 := by
    funext j
    show (if j = i then iI (pkv i 6) else if j < i then iI (pkv j 6) else 0) = _
    by_cases h : j = i
    · subst h
      rw [if_pos rfl, if_pos (by omega)]
    · rw [if_neg h]
      by_cases h2 : j < i
      · rw [if_pos h2, if_pos (by omega)]
      · rw [if_neg h2, if_neg (by omega)]
  rw [e1]
  rfl
def bX7 (Y : YT) (h0 : Nat) : Nat × Nat → va_W := fun t => wTq Y h0 t.1 t.2 24
theorem c_X7 {l : Launch} {Y : YT} {h0 : Nat} {g : Nat × Nat × Nat} : CtrS l Y yX7_init cX7_init 2 5 2 1624 [.ref h0] h0 7 [.null, .int 0, .int 0, .int 0, .int 0, .int 0, .int 0, .int 0, .null, .int 0, .int 0] g (bX7 Y h0) := by
  refine ctrs_of (by decide) rfl (Nat.le_of_ble_eq_true rfl) [(0, .ref h0)] rfl (fun A X hl C hm hs hR => ?_)
  subst hl
  refine k_aload (q := 0) C dX7_init_0 rfl rfl ?_
  refine k_obj C oi7_3 oi_m oi_c (by decide) dX7_init_1 ?_ rfl
  refine k_aload (q := 0) C dX7_init_4 rfl rfl ?_
  refine k_sipush (v := 1600) C dX7_init_5 (by decide +kernel) ?_
  refine k_newa 1600 0 (a0 := (1600, .inl fun _ => 0)) C aw_int rfl rfl (ac_int 1600) rfl (by decide) (by decide) dX7_init_8 (by decide) (by decide) (fun q1 => ?_)
  refine k_putF (fs' := [.ref q1, .int 0, .int 0, .int 0, .int 0, .int 0, .int 0, .int 0, .null, .int 0, .int 0]) C hm fX7_9 pf7_9 dX7_init_10 rfl rfl (Nat.le_of_ble_eq_true rfl) rfl ?_
  refine k_aload (q := 0) C dX7_init_13 rfl rfl ?_
  refine k_iconst C dX7_init_14 ?_
  refine k_putN (fs' := [.ref q1, .int 0, .int 0, .int 0, .int 0, .int 0, .int 0, vI (-1), .null, .int 0, .int 0]) C fX7_15 pX7_15 dX7_init_15 rfl rfl (Nat.le_of_ble_eq_true rfl) rfl ?_
  refine k_aload (q := 0) C dX7_init_18 rfl rfl ?_
  refine k_bipush (v := 24) C dX7_init_19 (by decide +kernel) ?_
  refine k_newa 24 0 (a0 := (24, .inl fun _ => 0)) C aw_int rfl rfl (ac_int 24) rfl (by decide) (by decide) dX7_init_21 (by decide) (by decide) (fun q2 => ?_)
  refine k_putF (fs' := [.ref q1, .int 0, .int 0, .int 0, .int 0, .int 0, .int 0, vI (-1), .ref q2, .int 0, .int 0]) C hm fX7_19 pf7_19 dX7_init_23 rfl rfl (Nat.le_of_ble_eq_true rfl) rfl ?_
  refine k_iconst C dX7_init_26 ?_
  refine k_istore (lv' := [(1, vI 0), (0, .ref h0)]) C dX7_init_27 rfl (by decide) rfl ?_
  have loop : ∀ n i : Nat, i + n = 24 → KG (Y.1, Y.2.1, Y.2.2.1, A) X 2 28 [(1, vI i), (0, .ref h0)] [] (wTq (Y.1, Y.2.1, Y.2.2.1, A) h0 q1 q2 i) 2 1624 := by
    intro n
    induction n with
    | zero =>
      intro i hi
      have e : i = 24 := by omega
      subst e
      refine k_iload (q := 0) C dX7_init_28 rfl rfl ?_
      refine k_bipush (v := 24) C dX7_init_29 (by decide +kernel) ?_
      refine k_ge (tgt := 50) C dX7_init_31 (by decide) (by decide) (by decide) (fun _ => ?_) (fun z => absurd (by decide) z)
      exact k_ret (q1, q2) C hR dX7_init_50 rfl (by decide) (by decide)
    | succ n ih =>
      intro i hi
      refine k_iload (q := 0) C dX7_init_28 rfl rfl ?_
      refine k_bipush (v := 24) C dX7_init_29 (by decide +kernel) ?_
      refine k_ge (tgt := 50) C dX7_init_31 (by decide) (by omega) (by decide) (fun z => absurd z (by omega)) (fun _ => ?_)
      refine k_aload (q := 1) C dX7_init_34 rfl rfl ?_
      refine k_getQ 0 C fX7_19 rfl dX7_init_35 rfl ?_
      refine k_iload (q := 0) C dX7_init_38 rfl rfl ?_
      refine k_iload (q := 0) C dX7_init_39 rfl rfl ?_
      refine k_cS (As := [vI i]) C hs cl_X7_packedOwn_22 st_X7_packedOwn dX7_init_40 rfl (Nat.le_of_ble_eq_true rfl) rfl (by decide) (by decide) (by decide) (t_pk (by omega)) ?_
      refine k_iast 2 C rfl (by omega) (by decide) dX7_init_43 wTq_step ?_
      refine k_iinc (q := 0) (v := ((i + 1 : Nat) : Int)) (lv' := [(1, vI ((i + 1 : Nat) : Int)), (0, .ref h0)]) C dX7_init_44 rfl (by omega) (by decide) rfl ?_
      refine k_goto (tgt := 28) C dX7_init_47 (by decide) ?_
      exact ih (i + 1) (by omega)
  refine (loop 24 0 rfl).to ?_ rfl rfl
  have e0 : (fun j : Nat => if j < 0 then iI (pkv j 6) else 0) = fun _ => (0 : Int32) := by
    funext j
    rw [if_neg (Nat.not_lt_zero j)]
  unfold wTq
  rw [e0]
  rfl
