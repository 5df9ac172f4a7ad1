theorem gt_in2 {w0 : Cond} {y : MethodName} {cc : ByteArray} {nL : Nat} {ret : Option FieldType} (h : Cond.code y cc nL ret ∈ GT) : GoodIn (w0 :: GT) (Cond.code y cc nL ret :: GT) := fun w hw => by
  rcases List.mem_cons.mp hw with rfl | hw
  · exact ⟨List.mem_cons_of_mem _ h, gt_good h⟩
  · exact ⟨List.mem_cons_of_mem _ hw, gt_good hw⟩
theorem gt_in3 {y : MethodName} {cc : ByteArray} {nL : Nat} {ret : Option FieldType} (h : Cond.code y cc nL ret ∈ GT) : GoodIn GT (Cond.code y cc nL ret :: GT) := fun w hw => by
  rcases List.mem_cons.mp hw with rfl | hw
  · exact ⟨h, gt_good h⟩
  · exact ⟨hw, gt_good hw⟩
def PreY (Y : YT) (vs : List Value) (M : Mem) : Array Value → State → Prop := va_Pc vs (fun U => va_P Y.1 classes (wsM Y M) U.heap ∧ KX Y U)
theorem blindY {Y : YT} {vs : List Value} {M : Mem} : FrameBlind (PreY Y vs M) := fun a U g mk h => ⟨h.1, h.2.1, KX.same (u := U) (U := U.calling g mk a) rfl h.2.2⟩
def PQi (Y : YT) (Qf : Int → Mem → Prop) : Array Value → State → Outcome → State → Prop := va_Qi (S := Int × Mem) (fun r u => r = iI u.1 ∧ Qf u.1 u.2) (fun u t => va_P Y.1 classes (wsM Y u.2) t.heap) Y.2.2.2
def PQl (Y : YT) (Qf : Int → Mem → Prop) : Array Value → State → Outcome → State → Prop := va_Ql (S := Int × Mem) (fun r u => r = iL u.1 ∧ Qf u.1 u.2) (fun u t => va_P Y.1 classes (wsM Y u.2) t.heap) Y.2.2.2
def PQv (Y : YT) (Qf : Mem → Prop) : Array Value → State → Outcome → State → Prop := va_Qv (S := Mem) (fun u => Qf u) (fun u t => va_P Y.1 classes (wsM Y u) t.heap) Y.2.2.2
def PQr (Y : YT) (Qf : Int → Mem → Prop) : Array Value → State → Outcome → State → Prop := va_Qr (S := Int × Mem) (fun u => Qf u.1 u.2) (fun u a t => a = Y.2.2.1 u.1.toNat ∧ va_P Y.1 classes (wsM Y u.2) t.heap) Y.2.2.2
/-- a method's contract: from M with the arguments vs to the end Qc, calls at most d deep -/
def Ctr (l : Launch) (Y : YT) (y : MethodName) (cc : ByteArray) (nL : Nat) (ret : Option FieldType) (d : Nat) (vs : List Value) (M : Mem) (Qc : Array Value → State → Outcome → State → Prop) : Prop := Met l y (Cond.code y cc nL ret :: GT) (rm d) (PreY Y vs M) Qc 0 0 Y.2.2.2
def Rt (Y : YT) (X : CX) (ret : Option FieldType) (Qc : Array Value → State → Outcome → State → Prop) : Prop := match X with
  | (_, _, _, _, s, _, args, below, meth, _, Q, cl, sl) => meth.sig.returnType = ret ∧ Q = MQ below Qc args s 0 0 Y.2.2.2 ∧ cl = 0 ∧ sl = 0
theorem ctr_of {l : Launch} {Y : YT} {y : MethodName} {cc : ByteArray} {nL : Nat} {ret : Option FieldType} {d : Nat} {vs : List Value} {M : Mem} {Qc : Array Value → State → Outcome → State → Prop} (hY : YOK Y) (hy : plainName y.cls = true) (hn : (lg_sl vs).length ≤ nL) (lv : List (Nat × Value)) (hlv : lv_args 0 vs = lv)
    (body : ∀ X : CX, X.2.1 = l → Cx Y X cc nL y.cls d → Rt Y X ret Qc → G Y X nL 0 lv [] M) : Ctr l Y y cc nL ret d vs M Qc := by
  refine Met.ofW (cc := cc) (maxL := nL) (ret := ret) hy rfl ?_
  intro p e s m args below meth c s₁ B hml hv
  obtain ⟨rfl, hP, hK⟩ := hv
  have hts := atoms_spec (ws := Cond.code y cc nL ret :: GT) B.pre
  have hl := lv_entry vs (n := nL) hn
  rw [hlv] at hl
  rw [lg_entry_eq]
  exact body (p, l, e, rm d, s, m, vs.toArray, below, meth, c, MQ below Qc vs.toArray s 0 0 Y.2.2.2, 0, 0) rfl ⟨B.exec, B.bytes, hml, findClass_of_methodNamed B.named, fun w h => hts w (List.mem_cons_of_mem _ h), hK, hY, Nat.le_refl _, Nat.le_refl _, Nat.zero_le _, Nat.zero_le _, B.notSynchronized⟩ ⟨B.returns, rfl, rfl, rfl⟩ s.heap [] _ hl hP va_S.rf
section RC
variable {Y : YT} {X : CX} {cc : ByteArray} {nL pc d : Nat} {own : String} {lv lv' : List (Nat × Value)} {st st0 : List Value} {M : Mem}
theorem g_reti {v : Int} {Qf : Int → Mem → Prop} (C : Cx Y X cc nL own d) (hR : Rt Y X (some .int) (PQi Y Qf)) (hd : decode cc pc = .ok (.ireturn, 1)) (h : Qf v M) : G Y X nL pc lv [vI v] M := by
  obtain ⟨p, l, e, R, s, m, args, below, meth, c, Q, cl, sl⟩ := X
  intro H locs ls hl hP hS
  obtain ⟨r1, rfl, rfl, rfl⟩ := hR
  exact W.iret C.1 C.2.1 r1 (fun t ht hW => ⟨⟨iI v, (v, M), rfl, ⟨rfl, h⟩, by show va_P _ _ _ t.heap; rw [ht]; exact hP⟩, hS.F ht⟩) hS.2.2 hd C.2.2.2.2.2.2.2.2.2.2.2
theorem g_retz {v : Int} {Qf : Int → Mem → Prop} (C : Cx Y X cc nL own d) (hR : Rt Y X (some .boolean) (PQi Y Qf)) (hd : decode cc pc = .ok (.ireturn, 1)) (hv : v = 0 ∨ v = 1) (h : Qf v M) : G Y X nL pc lv [vI v] M := by
  obtain ⟨p, l, e, R, s, m, args, below, meth, c, Q, cl, sl⟩ := X
  intro H locs ls hl hP hS
  obtain ⟨r1, rfl, rfl, rfl⟩ := hR
  exact W.zret C.1 C.2.1 r1 (nz hv).1 (fun t ht hW => ⟨⟨iI v, (v, M), rfl, ⟨rfl, h⟩, by show va_P _ _ _ t.heap; rw [ht]; exact hP⟩, hS.F ht⟩) hS.2.2 hd C.2.2.2.2.2.2.2.2.2.2.2
theorem g_retl {v : Int} {Qf : Int → Mem → Prop} (C : Cx Y X cc nL own d) (hR : Rt Y X (some .long) (PQl Y Qf)) (hd : decode cc pc = .ok (.lreturn, 1)) (h : Qf v M) : G Y X nL pc lv [vL v] M := by
  obtain ⟨p, l, e, R, s, m, args, below, meth, c, Q, cl, sl⟩ := X
  intro H locs ls hl hP hS
  obtain ⟨r1, rfl, rfl, rfl⟩ := hR
  exact W.lret C.1 C.2.1 r1 (fun t ht hW => ⟨⟨iL v, (v, M), rfl, ⟨rfl, h⟩, by show va_P _ _ _ t.heap; rw [ht]; exact hP⟩, hS.F ht⟩) hS.2.2 hd C.2.2.2.2.2.2.2.2.2.2.2
theorem g_retv {Qf : Mem → Prop} (C : Cx Y X cc nL own d) (hR : Rt Y X none (PQv Y Qf)) (hd : decode cc pc = .ok (.return_, 1)) (h : Qf M) : G Y X nL pc lv [] M := by
  obtain ⟨p, l, e, R, s, m, args, below, meth, c, Q, cl, sl⟩ := X
  intro H locs ls hl hP hS
  obtain ⟨r1, rfl, rfl, rfl⟩ := hR
  exact W.vret C.1 C.2.1 r1 (fun t ht hW => ⟨⟨M, rfl, h, by show va_P _ _ _ t.heap; rw [ht]; exact hP⟩, hS.F ht⟩) hS.2.2 hd C.2.2.2.2.2.2.2.2.2.2.2
theorem g_retr {v : Int} {n : String} {Qf : Int → Mem → Prop} (C : Cx Y X cc nL own d) (hR : Rt Y X (some (.object n)) (PQr Y Qf)) (hd : decode cc pc = .ok (.areturn, 1)) (h : Qf v M) : G Y X nL pc lv [vR Y v] M := by
  obtain ⟨p, l, e, R, s, m, args, below, meth, c, Q, cl, sl⟩ := X
  intro H locs ls hl hP hS
  obtain ⟨r1, rfl, rfl, rfl⟩ := hR
  exact W.aret C.1 C.2.1 r1 (Or.inl ⟨n, rfl⟩) (Or.inr ⟨_, rfl⟩) (fun t ht hW => ⟨⟨(v, M), _, rfl, h, rfl, by show va_P _ _ _ t.heap; rw [ht]; exact hP⟩, hS.F ht⟩) hS.2.2 hd C.2.2.2.2.2.2.2.2.2.2.2
/-- what a call's link says: y by the pool's place i of own; its code; how many arguments -/
def Cl (own : String) (i : Nat) (y : MethodName) (cC : ByteArray) (nC : Nat) (ret : Option FieldType) (n : Nat) : Prop := Cond.methodLink own i y ∈ GT ∧ Cond.initialized y.cls ∈ GT ∧ Cond.code y cC nC ret ∈ GT ∧ nC ≤ 45 ∧ (y.cls ≠ "java/lang/invoke/MethodHandle" ∧ y.cls ≠ "java/lang/invoke/VarHandle" ∧ (parseMethodDescriptor y.desc).map (fun d => d.parameters.length) = some n)
def Clv (ci : Nat) (y : MethodName) : Prop := Cond.instanceMethod y ∈ GT ∧ Cond.selects y.cls y y ∈ GT ∧ ci < 20 ∧ ∃ (T : u_T) (N : Nat), classes[ci]? = some (y.cls, T, N)
theorem cl_B {p : Program} {l : Launch} {e : Env} {R : Room} {s : State} {m : MethodId} {args : Array Value} {below : List Frame} {meth : Method} {c : Code} {Q : State → Prop} {cl sl : Nat} (C : Cx Y (p, l, e, R, s, m, args, below, meth, c, Q, cl, sl) cc nL own d) {i nC n dC : Nat} {y : MethodName} {cC : ByteArray} {ret : Option FieldType} (h : Cl own i y cC nC ret n) (hdep : dC + 1 ≤ d) :
    CallB R s args own i y cC nC ret (Cond.code y cC nC ret :: GT) (rm dC) 0 0 n := by
  obtain ⟨h1, h2, h3, h4, h5⟩ := h
  obtain ⟨hx, hb, hml, hown, hts, hK, hY, hf, hlo, hc1, hs1, hlk⟩ := C
  exact callB_of n hts (gt_in3 h3) rfl rfl rfl (hts _ h2) (hts _ h1) h5 ⟨by show dC + 1 ≤ _; omega, by show 8 + (nC + 11) + 64 * dC ≤ _; omega⟩

theorem g_cVi {i ci n nC dC : Nat} {y : MethodName} {cC : ByteArray} {ret : Option FieldType} {r : Int} {As : List Value} (C : Cx Y X cc nL own d) (hV : Cl own i y cC nC ret n) (hW : Clv ci y) (hd : decode cc pc = .ok (.invokevirtual i, 3)) (hr : kd r = ci) (hst : As.reverse ++ vR Y r :: st = st0) (hcat : (st.map fun v => v.category).sum ≤ 8) (hlen : As.length = n) (hdep : dC + 1 ≤ d) {Qf : Int → Mem → Prop} (hM : Ctr X.2.1 Y y cC nC ret dC (vR Y r :: As) M (PQi Y Qf)) (hk : ∀ v M', Qf v M' → G Y X nL (pc + 3) lv (vI v :: st) M') : G Y X nL pc lv st0 M := by
  obtain ⟨p, l, e, R, s, m, args, below, meth, c, Q, cl, sl⟩ := X
  intro H locs ls hl hP hS
  obtain ⟨w1, w2, w3, T, N, w4⟩ := hW
  obtain ⟨r0, r1, r2⟩ := kd_in hr (by omega)
  have e1 := ws_get (Y := Y) (M := M) r1
  rw [cel_obj r2 w3] at e1
  have hB := cl_B C hV hdep
  obtain ⟨hx, hb, hml, hown, hts, hK, hY, hf, hlo, hc1, hs1, hlk⟩ := C
  have hrun := va_runV (p := p) (e := e) (below := below) (meth := meth) (locs := locs) (cells := cl) (slots := sl) (g := F0 m pc ls st0) (As := As) (rest := st) ⟨hx, hb, hml, hown, hts⟩ hM ⟨hB, hts _ w1, hts _ w2⟩ ⟨blindY, va_recv hK.1 hP w4 e1, fun U hU hWm => ⟨rfl, by rw [hU]; exact hP, KX.warm hWm hK⟩⟩ rfl hlen hl.1 hst.symm (lv_room hcat) hd ⟨hc1, hs1⟩
  refine va_calli hrun hS (fun q _ h => h) (fun q h => h) (fun r9 u t H1 locs1 ht hvm hw hBt hz hkk hS1 => ?_)
  obtain ⟨v, M2⟩ := u
  obtain ⟨rfl, hq⟩ := hw
  exact hk _ _ hq H1 locs1 ls hl (by rw [← ht]; exact hBt) hS1

theorem g_cSi {i n nC dC : Nat} {y : MethodName} {cC : ByteArray} {ret : Option FieldType} {As : List Value} (C : Cx Y X cc nL own d) (hV : Cl own i y cC nC ret n) (hW : Cond.static y ∈ GT) (hd : decode cc pc = .ok (.invokestatic i, 3)) (hst : As.reverse ++ st = st0) (hcat : (st.map fun v => v.category).sum ≤ 8) (hlen : As.length = n) (hdep : dC + 1 ≤ d) {Qf : Int → Mem → Prop} (hM : Ctr X.2.1 Y y cC nC ret dC As M (PQi Y Qf)) (hk : ∀ v M', Qf v M' → G Y X nL (pc + 3) lv (vI v :: st) M') : G Y X nL pc lv st0 M := by
  obtain ⟨p, l, e, R, s, m, args, below, meth, c, Q, cl, sl⟩ := X
  intro H locs ls hl hP hS
  have hB := cl_B C hV hdep
  obtain ⟨hx, hb, hml, hown, hts, hK, hY, hf, hlo, hc1, hs1, hlk⟩ := C
  have hrun := va_runS (p := p) (e := e) (below := below) (meth := meth) (locs := locs) (cells := cl) (slots := sl) (g := F0 m pc ls st0) (As := As) (rest := st) ⟨hx, hb, hml, hown, hts⟩ hM ⟨hB, hts _ hW⟩ ⟨blindY, fun U hU hWm => ⟨rfl, by rw [hU]; exact hP, KX.warm hWm hK⟩⟩ rfl hlen hl.1 hst.symm (lv_room hcat) hd ⟨hc1, hs1⟩
  refine va_calli hrun hS (fun q _ h => h) (fun q h => h) (fun r9 u t H1 locs1 ht hvm hw hBt hz hkk hS1 => ?_)
  obtain ⟨v, M2⟩ := u
  obtain ⟨rfl, hq⟩ := hw
  exact hk _ _ hq H1 locs1 ls hl (by rw [← ht]; exact hBt) hS1

theorem g_cVl {i ci n nC dC : Nat} {y : MethodName} {cC : ByteArray} {ret : Option FieldType} {r : Int} {As : List Value} (C : Cx Y X cc nL own d) (hV : Cl own i y cC nC ret n) (hW : Clv ci y) (hd : decode cc pc = .ok (.invokevirtual i, 3)) (hr : kd r = ci) (hst : As.reverse ++ vR Y r :: st = st0) (hcat : (st.map fun v => v.category).sum ≤ 8) (hlen : As.length = n) (hdep : dC + 1 ≤ d) {Qf : Int → Mem → Prop} (hM : Ctr X.2.1 Y y cC nC ret dC (vR Y r :: As) M (PQl Y Qf)) (hk : ∀ v M', Qf v M' → G Y X nL (pc + 3) lv (vL v :: st) M') : G Y X nL pc lv st0 M := by
  obtain ⟨p, l, e, R, s, m, args, below, meth, c, Q, cl, sl⟩ := X
  intro H locs ls hl hP hS
  obtain ⟨w1, w2, w3, T, N, w4⟩ := hW
  obtain ⟨r0, r1, r2⟩ := kd_in hr (by omega)
  have e1 := ws_get (Y := Y) (M := M) r1
  rw [cel_obj r2 w3] at e1
  have hB := cl_B C hV hdep
  obtain ⟨hx, hb, hml, hown, hts, hK, hY, hf, hlo, hc1, hs1, hlk⟩ := C
  have hrun := va_runV (p := p) (e := e) (below := below) (meth := meth) (locs := locs) (cells := cl) (slots := sl) (g := F0 m pc ls st0) (As := As) (rest := st) ⟨hx, hb, hml, hown, hts⟩ hM ⟨hB, hts _ w1, hts _ w2⟩ ⟨blindY, va_recv hK.1 hP w4 e1, fun U hU hWm => ⟨rfl, by rw [hU]; exact hP, KX.warm hWm hK⟩⟩ rfl hlen hl.1 hst.symm (lv_room hcat) hd ⟨hc1, hs1⟩
  refine va_calll hrun hS (fun q _ h => h) (fun q h => h) (fun r9 u t H1 locs1 ht hvm hw hBt hz hkk hS1 => ?_)
  obtain ⟨v, M2⟩ := u
  obtain ⟨rfl, hq⟩ := hw
  exact hk _ _ hq H1 locs1 ls hl (by rw [← ht]; exact hBt) hS1

theorem g_cSl {i n nC dC : Nat} {y : MethodName} {cC : ByteArray} {ret : Option FieldType} {As : List Value} (C : Cx Y X cc nL own d) (hV : Cl own i y cC nC ret n) (hW : Cond.static y ∈ GT) (hd : decode cc pc = .ok (.invokestatic i, 3)) (hst : As.reverse ++ st = st0) (hcat : (st.map fun v => v.category).sum ≤ 8) (hlen : As.length = n) (hdep : dC + 1 ≤ d) {Qf : Int → Mem → Prop} (hM : Ctr X.2.1 Y y cC nC ret dC As M (PQl Y Qf)) (hk : ∀ v M', Qf v M' → G Y X nL (pc + 3) lv (vL v :: st) M') : G Y X nL pc lv st0 M := by
  obtain ⟨p, l, e, R, s, m, args, below, meth, c, Q, cl, sl⟩ := X
  intro H locs ls hl hP hS
  have hB := cl_B C hV hdep
  obtain ⟨hx, hb, hml, hown, hts, hK, hY, hf, hlo, hc1, hs1, hlk⟩ := C
  have hrun := va_runS (p := p) (e := e) (below := below) (meth := meth) (locs := locs) (cells := cl) (slots := sl) (g := F0 m pc ls st0) (As := As) (rest := st) ⟨hx, hb, hml, hown, hts⟩ hM ⟨hB, hts _ hW⟩ ⟨blindY, fun U hU hWm => ⟨rfl, by rw [hU]; exact hP, KX.warm hWm hK⟩⟩ rfl hlen hl.1 hst.symm (lv_room hcat) hd ⟨hc1, hs1⟩
  refine va_calll hrun hS (fun q _ h => h) (fun q h => h) (fun r9 u t H1 locs1 ht hvm hw hBt hz hkk hS1 => ?_)
  obtain ⟨v, M2⟩ := u
  obtain ⟨rfl, hq⟩ := hw
  exact hk _ _ hq H1 locs1 ls hl (by rw [← ht]; exact hBt) hS1

theorem g_cVv {i ci n nC dC : Nat} {y : MethodName} {cC : ByteArray} {ret : Option FieldType} {r : Int} {As : List Value} (C : Cx Y X cc nL own d) (hV : Cl own i y cC nC ret n) (hW : Clv ci y) (hd : decode cc pc = .ok (.invokevirtual i, 3)) (hr : kd r = ci) (hst : As.reverse ++ vR Y r :: st = st0) (hcat : (st.map fun v => v.category).sum ≤ 8) (hlen : As.length = n) (hdep : dC + 1 ≤ d) {Qf : Mem → Prop} (hM : Ctr X.2.1 Y y cC nC ret dC (vR Y r :: As) M (PQv Y Qf)) (hk : ∀ M', Qf M' → G Y X nL (pc + 3) lv (st) M') : G Y X nL pc lv st0 M := by
  obtain ⟨p, l, e, R, s, m, args, below, meth, c, Q, cl, sl⟩ := X
  intro H locs ls hl hP hS
  obtain ⟨w1, w2, w3, T, N, w4⟩ := hW
  obtain ⟨r0, r1, r2⟩ := kd_in hr (by omega)
  have e1 := ws_get (Y := Y) (M := M) r1
  rw [cel_obj r2 w3] at e1
  have hB := cl_B C hV hdep
  obtain ⟨hx, hb, hml, hown, hts, hK, hY, hf, hlo, hc1, hs1, hlk⟩ := C
  have hrun := va_runV (p := p) (e := e) (below := below) (meth := meth) (locs := locs) (cells := cl) (slots := sl) (g := F0 m pc ls st0) (As := As) (rest := st) ⟨hx, hb, hml, hown, hts⟩ hM ⟨hB, hts _ w1, hts _ w2⟩ ⟨blindY, va_recv hK.1 hP w4 e1, fun U hU hWm => ⟨rfl, by rw [hU]; exact hP, KX.warm hWm hK⟩⟩ rfl hlen hl.1 hst.symm (lv_room hcat) hd ⟨hc1, hs1⟩
  refine va_callv hrun hS (fun q _ h => h) (fun q h => h) (fun u t H1 locs1 ht hvm hw hBt hz hkk hS1 => ?_)
  exact hk _ hw H1 locs1 ls hl (by rw [← ht]; exact hBt) hS1

theorem g_cSv {i n nC dC : Nat} {y : MethodName} {cC : ByteArray} {ret : Option FieldType} {As : List Value} (C : Cx Y X cc nL own d) (hV : Cl own i y cC nC ret n) (hW : Cond.static y ∈ GT) (hd : decode cc pc = .ok (.invokestatic i, 3)) (hst : As.reverse ++ st = st0) (hcat : (st.map fun v => v.category).sum ≤ 8) (hlen : As.length = n) (hdep : dC + 1 ≤ d) {Qf : Mem → Prop} (hM : Ctr X.2.1 Y y cC nC ret dC As M (PQv Y Qf)) (hk : ∀ M', Qf M' → G Y X nL (pc + 3) lv (st) M') : G Y X nL pc lv st0 M := by
  obtain ⟨p, l, e, R, s, m, args, below, meth, c, Q, cl, sl⟩ := X
  intro H locs ls hl hP hS
  have hB := cl_B C hV hdep
  obtain ⟨hx, hb, hml, hown, hts, hK, hY, hf, hlo, hc1, hs1, hlk⟩ := C
  have hrun := va_runS (p := p) (e := e) (below := below) (meth := meth) (locs := locs) (cells := cl) (slots := sl) (g := F0 m pc ls st0) (As := As) (rest := st) ⟨hx, hb, hml, hown, hts⟩ hM ⟨hB, hts _ hW⟩ ⟨blindY, fun U hU hWm => ⟨rfl, by rw [hU]; exact hP, KX.warm hWm hK⟩⟩ rfl hlen hl.1 hst.symm (lv_room hcat) hd ⟨hc1, hs1⟩
  refine va_callv hrun hS (fun q _ h => h) (fun q h => h) (fun u t H1 locs1 ht hvm hw hBt hz hkk hS1 => ?_)
  exact hk _ hw H1 locs1 ls hl (by rw [← ht]; exact hBt) hS1

theorem g_cVr {i ci n nC dC : Nat} {y : MethodName} {cC : ByteArray} {ret : Option FieldType} {r : Int} {As : List Value} (C : Cx Y X cc nL own d) (hV : Cl own i y cC nC ret n) (hW : Clv ci y) (hd : decode cc pc = .ok (.invokevirtual i, 3)) (hr : kd r = ci) (hst : As.reverse ++ vR Y r :: st = st0) (hcat : (st.map fun v => v.category).sum ≤ 8) (hlen : As.length = n) (hdep : dC + 1 ≤ d) {Qf : Int → Mem → Prop} (hM : Ctr X.2.1 Y y cC nC ret dC (vR Y r :: As) M (PQr Y Qf)) (hk : ∀ v M', Qf v M' → G Y X nL (pc + 3) lv (vR Y v :: st) M') : G Y X nL pc lv st0 M := by
  obtain ⟨p, l, e, R, s, m, args, below, meth, c, Q, cl, sl⟩ := X
  intro H locs ls hl hP hS
  obtain ⟨w1, w2, w3, T, N, w4⟩ := hW
  obtain ⟨r0, r1, r2⟩ := kd_in hr (by omega)
  have e1 := ws_get (Y := Y) (M := M) r1
  rw [cel_obj r2 w3] at e1
  have hB := cl_B C hV hdep
  obtain ⟨hx, hb, hml, hown, hts, hK, hY, hf, hlo, hc1, hs1, hlk⟩ := C
  have hrun := va_runV (p := p) (e := e) (below := below) (meth := meth) (locs := locs) (cells := cl) (slots := sl) (g := F0 m pc ls st0) (As := As) (rest := st) ⟨hx, hb, hml, hown, hts⟩ hM ⟨hB, hts _ w1, hts _ w2⟩ ⟨blindY, va_recv hK.1 hP w4 e1, fun U hU hWm => ⟨rfl, by rw [hU]; exact hP, KX.warm hWm hK⟩⟩ rfl hlen hl.1 hst.symm (lv_room hcat) hd ⟨hc1, hs1⟩
  refine va_callr hrun hS (fun q _ h => h) (fun q h => h) (fun u ra t H1 locs1 ht hvm hw hBt hz hkk hS1 => ?_)
  obtain ⟨v, M2⟩ := u
  obtain ⟨rfl, hb2⟩ := hBt
  exact hk _ _ hw H1 locs1 ls hl (by rw [← ht]; exact hb2) hS1

theorem g_cSr {i n nC dC : Nat} {y : MethodName} {cC : ByteArray} {ret : Option FieldType} {As : List Value} (C : Cx Y X cc nL own d) (hV : Cl own i y cC nC ret n) (hW : Cond.static y ∈ GT) (hd : decode cc pc = .ok (.invokestatic i, 3)) (hst : As.reverse ++ st = st0) (hcat : (st.map fun v => v.category).sum ≤ 8) (hlen : As.length = n) (hdep : dC + 1 ≤ d) {Qf : Int → Mem → Prop} (hM : Ctr X.2.1 Y y cC nC ret dC As M (PQr Y Qf)) (hk : ∀ v M', Qf v M' → G Y X nL (pc + 3) lv (vR Y v :: st) M') : G Y X nL pc lv st0 M := by
  obtain ⟨p, l, e, R, s, m, args, below, meth, c, Q, cl, sl⟩ := X
  intro H locs ls hl hP hS
  have hB := cl_B C hV hdep
  obtain ⟨hx, hb, hml, hown, hts, hK, hY, hf, hlo, hc1, hs1, hlk⟩ := C
  have hrun := va_runS (p := p) (e := e) (below := below) (meth := meth) (locs := locs) (cells := cl) (slots := sl) (g := F0 m pc ls st0) (As := As) (rest := st) ⟨hx, hb, hml, hown, hts⟩ hM ⟨hB, hts _ hW⟩ ⟨blindY, fun U hU hWm => ⟨rfl, by rw [hU]; exact hP, KX.warm hWm hK⟩⟩ rfl hlen hl.1 hst.symm (lv_room hcat) hd ⟨hc1, hs1⟩
  refine va_callr hrun hS (fun q _ h => h) (fun q h => h) (fun u ra t H1 locs1 ht hvm hw hBt hz hkk hS1 => ?_)
  obtain ⟨v, M2⟩ := u
  obtain ⟨rfl, hb2⟩ := hBt
  exact hk _ _ hw H1 locs1 ls hl (by rw [← ht]; exact hb2) hS1

/-- a nest mate's private static method: SilentReel.isStep -/
theorem g_cN {i nC dC : Nat} {cC : ByteArray} {a : Value} {Qf : Int → Mem → Prop} (C : Cx Y X cc nL own d) (hi : (own = RX0 ∧ i = 32) ∨ (own = RX4 ∧ i = 83)) (h1 : Cond.initialized RX11 ∈ GT) (h2 : Cond.code yX11_isStep cC nC (some .boolean) ∈ GT) (h3 : Cond.static yX11_isStep ∈ GT) (h4 : nC ≤ 45) (hd : decode cc pc = .ok (.invokestatic i, 3)) (hcat : (st.map fun v => v.category).sum ≤ 8) (hdep : dC + 1 ≤ d) (hM : Ctr X.2.1 Y yX11_isStep cC nC (some .boolean) dC [a] M (PQi Y Qf)) (hk : ∀ v M', Qf v M' → G Y X nL (pc + 3) lv (vI v :: st) M') : G Y X nL pc lv (a :: st) M := by
  obtain ⟨p, l, e, R, s, m, args, below, meth, c, Q, cl, sl⟩ := X
  intro H locs ls hl hP hS
  obtain ⟨hx, hb, hml, hown, hts, hK, hY, hf, hlo, hc1, hs1, hlk⟩ := C
  have hlink : va_Nw (.methodLinkNest own i yX11_isStep RX11) s := by
    rcases hi with ⟨rfl, rfl⟩ | ⟨rfl, rfl⟩
    · exact hK.2.1
    · exact hK.2.2
  have hB : va_CN R s args own i yX11_isStep RX11 cC nC (some .boolean) (Cond.code yX11_isStep cC nC (some .boolean) :: GT) (rm dC) 0 0 1 := va_cnB 1 hts (gt_in3 h2) rfl rfl rfl hlink (hts _ h1) (by decide +kernel) ⟨by show dC + 1 ≤ _; omega, by show 8 + (nC + 11) + 64 * dC ≤ _; omega⟩
  have hrun := va_runSN (p := p) (e := e) (below := below) (meth := meth) (locs := locs) (cells := cl) (slots := sl) (g := F0 m pc ls (a :: st)) (As := [a]) (rest := st) ⟨hx, hb, hml, hown, hts⟩ hM ⟨hB, hts _ h3, trivial⟩ ⟨blindY, fun U hU hWm => ⟨rfl, by rw [hU]; exact hP, KX.warm hWm hK⟩⟩ rfl rfl hl.1 rfl (lv_room hcat) hd ⟨hc1, hs1⟩
  refine va_calli hrun hS (fun q _ h => h) (fun q h => h) (fun r9 u t H1 locs1 ht hvm hw hBt hz hkk hS1 => ?_)
  obtain ⟨v, M2⟩ := u
  obtain ⟨rfl, hq⟩ := hw
  exact hk _ _ hq H1 locs1 ls hl (by rw [← ht]; exact hBt) hS1
theorem g_tswIn {dflt lo hi off x : Int} {offs : Array Int} {len tgt : Nat} (C : Cx Y X cc nL own d) (hd : decode cc pc = .ok (.tableswitch dflt lo hi offs, len)) (hx : inI x) (h1 : lo ≤ x) (h2 : x ≤ hi) (ho : offs[(x - lo).toNat]? = some off) (ht : (pc : Int) + off = (tgt : Int)) (k : G Y X nL tgt lv st M) : G Y X nL pc lv (vI x :: st) M := by
  obtain ⟨p, l, e, R, s, m, args, below, meth, c, Q, cl, sl⟩ := X
  intro H locs ls hl hP hS
  exact lv_tableIn C.1 C.2.1 hd (by rw [iI_toInt hx]; omega) (by rw [iI_toInt hx]; omega) (by rw [iI_toInt hx]; exact ho) ht (k H locs ls hl hP hS)
theorem g_tswOut {dflt lo hi x : Int} {offs : Array Int} {len tgt : Nat} (C : Cx Y X cc nL own d) (hd : decode cc pc = .ok (.tableswitch dflt lo hi offs, len)) (hx : inI x) (h : x < lo ∨ hi < x) (ht : (pc : Int) + dflt = (tgt : Int)) (k : G Y X nL tgt lv st M) : G Y X nL pc lv (vI x :: st) M := by
  obtain ⟨p, l, e, R, s, m, args, below, meth, c, Q, cl, sl⟩ := X
  intro H locs ls hl hP hS
  exact lv_tableOut C.1 C.2.1 hd (by rw [iI_toInt hx]; exact h) ht (k H locs ls hl hP hS)
theorem g_lsw {dflt off x : Int} {ps : Array (Int × Int)} {len tgt : Nat} (C : Cx Y X cc nL own d) (hd : decode cc pc = .ok (.lookupswitch dflt ps, len)) (hp : (ps.toList.zip (ps.toList.drop 1)).all (fun (a, next) => a.1 < next.1) = true) (hx : inI x) (ho : Op.lookupswitch.offset ps.toList dflt x = off) (ht : (pc : Int) + off = (tgt : Int)) (k : G Y X nL tgt lv st M) : G Y X nL pc lv (vI x :: st) M := by
  obtain ⟨p, l, e, R, s, m, args, below, meth, c, Q, cl, sl⟩ := X
  intro H locs ls hl hP hS
  exact lv_lookup C.1 C.2.1 hd hp (by rw [iI_toInt hx]; exact ho) ht (k H locs ls hl hP hS)
/-- n places of row a from sp on come into row b from dp on -/
def cpy (M : Mem) (a sp b dp n : Int) : Mem := fun r => if r = b then (fun j => if dp ≤ j ∧ j < dp + n then M a (sp + (j - dp)) else M b j) else M r
theorem g_copy {i : Nat} {a sp b dp n : Int} (C : Cx Y X cc nL own d) (hl1 : Cond.methodLink own i arraycopyName ∈ GT) (hl2 : Cond.native arraycopyName ∈ GT) (hl3 : Cond.static arraycopyName ∈ GT) (hl4 : Cond.initialized "java/lang/System" ∈ GT) (hd : decode cc pc = .ok (.invokestatic i, 3)) (ha : kd a = 20) (hb : kd b = 20) (g1 : 0 ≤ sp ∧ 0 ≤ dp ∧ 0 ≤ n) {na nb : Int} (na1 : ln a = na) (nb1 : ln b = nb) (g2 : sp + n ≤ na) (g3 : dp + n ≤ nb) {M1 : Mem} (e1 : M1 = cpy M a sp b dp n) (hcat : (st.map fun v => v.category).sum ≤ 8) (hdep : 1 ≤ d) (k : G Y X nL (pc + 3) lv st M1) : G Y X nL pc lv (vI n :: vI dp :: vR Y b :: vI sp :: vR Y a :: st) M := by
  obtain ⟨p, l, e, R, s, m, args, below, meth, c, Q, cl, sl⟩ := X
  intro H locs ls hl hP hS
  subst e1
  subst na1
  subst nb1
  obtain ⟨a0, a1, a2⟩ := kd_in ha (by omega)
  obtain ⟨b0, b1, b2⟩ := kd_in hb (by omega)
  have ea := ws_get (Y := Y) (M := M) a1
  rw [cel_i a2, toNat_i a0] at ea
  have eb := ws_get (Y := Y) (M := M) b1
  rw [cel_i b2, toNat_i b0] at eb
  have na := lnN_lt a.toNat
  have nb := lnN_lt b.toNat
  have g2' : sp + n ≤ ((lnN a.toNat : Nat) : Int) := g2
  have g3' : dp + n ≤ ((lnN b.toNat : Nat) : Int) := g3
  have c1 := iI_clamp g1.1 (show sp < 2147483648 by omega)
  have c2 := iI_clamp g1.2.1 (show dp < 2147483648 by omega)
  have c3 := iI_clamp g1.2.2 (show n < 2147483648 by omega)
  have nn : ∀ {v : Int}, 0 ≤ v → v < 2147483648 → ¬ iI v < 0 := fun {v} h1 h2 q => by
    rw [← iI_0, iI_lt (by omega) inI_0] at q
    omega
  obtain ⟨hx, hbb, hml, hown, hts, hK, hY, hf, hlo, hc1, hs1, hlk⟩ := C
  refine va_copyi hx hbb (by rw [hml]; exact hl.1.symm) hown (hts _ hl1) (hts _ hl2) (hts _ hl3) (hts _ hl4) hK.1 hP (ws_D hY) hS a.toNat b.toNat 0 0 ea eb rfl rfl rfl (nn g1.1 (by omega)) (nn g1.2.1 (by omega)) (nn g1.2.2 (by omega)) (by rw [c1, c3]; omega) (by rw [c2, c3]; omega) (fun _ _ => rfl) (by omega) ?_ hd (fun H1 locs1 hP1 _ hS1 => ?_)
  · have : nativeFrameWords "java/lang/System" "arraycopy" 5 + 11 ≤ 56 := by decide +kernel
    omega
  · refine k H1 locs1 ls hl ?_ hS1
    rw [c1, c2, c3, ws_set (M' := cpy M a sp b dp n) b1 ?_ (fun q hq => if_neg (by omega))] at hP1
    · exact hP1
    · rw [cel_i b2, toNat_i b0]
      congr 4
      funext j
      unfold cpy va_cpy
      rw [if_pos rfl]
      by_cases h : dp.toNat ≤ j ∧ j < dp.toNat + n.toNat
      · rw [if_pos h, if_pos (by omega)]
        congr 2
        omega
      · rw [if_neg h, if_neg (by omega)]
end RC

