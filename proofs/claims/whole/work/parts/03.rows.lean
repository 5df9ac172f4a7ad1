section RW
variable {Y : YT} {X : CX} {cc : ByteArray} {nL pc d : Nat} {own : String} {lv lv' : List (Nat × Value)} {st : List Value} {M : Mem}
theorem G.to {pc2 : Nat} {lv2 : List (Nat × Value)} {st2 : List Value} {M2 : Mem} (h : G Y X nL pc lv st M) (e1 : pc = pc2) (e2 : lv = lv2) (e3 : st = st2) (e4 : M = M2) : G Y X nL pc2 lv2 st2 M2 := by
  subst e1; subst e2; subst e3; subst e4; exact h
theorem G.nmI {x e : Int} (h : x = e) (k : G Y X nL pc lv (vI x :: st) M) : G Y X nL pc lv (vI e :: st) M := h ▸ k
theorem G.nmL {x e : Int} (h : x = e) (k : G Y X nL pc lv (vL x :: st) M) : G Y X nL pc lv (vL e :: st) M := h ▸ k
/-- fewer locals -/
theorem G.sub (ks : List Nat) (hl : lv_pick lv ks = lv') (k : G Y X nL pc lv' st M) : G Y X nL pc lv st M := by
  obtain ⟨p, l, e, R, s, m, args, below, meth, c, Q, cl, sl⟩ := X
  intro H locs ls h hP hS
  exact k H locs ls (lv_sub h ks hl) hP hS

theorem g_iconst {n v : Int} (C : Cx Y X cc nL own d) (hd : decode cc pc = .ok (.iconst n, 1)) (hv : n = v) (k : G Y X nL (pc + 1) lv (vI v :: st) M) : G Y X nL pc lv st M := by
  obtain ⟨p, l, e, R, s, m, args, below, meth, c, Q, cl, sl⟩ := X
  intro H locs ls hl hP hS
  subst hv
  exact lv_iconst C.1 C.2.1 hd rfl (k H locs ls hl hP hS)

theorem g_bipush {n v : Int} (C : Cx Y X cc nL own d) (hd : decode cc pc = .ok (.bipush n, 2)) (hv : (Int8.ofInt n).toInt32 = iI v) (k : G Y X nL (pc + 2) lv (vI v :: st) M) : G Y X nL pc lv st M := by
  obtain ⟨p, l, e, R, s, m, args, below, meth, c, Q, cl, sl⟩ := X
  intro H locs ls hl hP hS
  exact lv_bipush C.1 C.2.1 hd hv (k H locs ls hl hP hS)

theorem g_sipush {n v : Int} (C : Cx Y X cc nL own d) (hd : decode cc pc = .ok (.sipush n, 3)) (hv : (Int16.ofInt n).toInt32 = iI v) (k : G Y X nL (pc + 3) lv (vI v :: st) M) : G Y X nL pc lv st M := by
  obtain ⟨p, l, e, R, s, m, args, below, meth, c, Q, cl, sl⟩ := X
  intro H locs ls hl hP hS
  exact lv_sipush C.1 C.2.1 hd hv (k H locs ls hl hP hS)

theorem g_lconst {n : Fin 2} {v : Int} (C : Cx Y X cc nL own d) (hd : decode cc pc = .ok (.lconst n, 1)) (hv : Int64.ofNat (n : Nat) = iL v) (k : G Y X nL (pc + 1) lv (vL v :: st) M) : G Y X nL pc lv st M := by
  obtain ⟨p, l, e, R, s, m, args, below, meth, c, Q, cl, sl⟩ := X
  intro H locs ls hl hP hS
  exact lv_lconst C.1 C.2.1 hd hv (k H locs ls hl hP hS)

theorem g_ldc {i : Nat} {x : Int32} {v : Int} (C : Cx Y X cc nL own d) (hd : decode cc pc = .ok (.ldc i, 2)) (hw : Cond.constant own i x ∈ GT) (hv : x = iI v) (k : G Y X nL (pc + 2) lv (vI v :: st) M) : G Y X nL pc lv st M := by
  obtain ⟨p, l, e, R, s, m, args, below, meth, c, Q, cl, sl⟩ := X
  intro H locs ls hl hP hS
  subst hv
  exact lv_ldc C.1 C.2.1 C.2.2.2.1 (C.2.2.2.2.1 _ hw) hd (k H locs ls hl hP hS)

theorem g_ldcw {i : Nat} {x : Int32} {v : Int} (C : Cx Y X cc nL own d) (hd : decode cc pc = .ok (.ldc_w i, 3)) (hw : Cond.constant own i x ∈ GT) (hv : x = iI v) (k : G Y X nL (pc + 3) lv (vI v :: st) M) : G Y X nL pc lv st M := by
  obtain ⟨p, l, e, R, s, m, args, below, meth, c, Q, cl, sl⟩ := X
  intro H locs ls hl hP hS
  subst hv
  exact lv_ldcw C.1 C.2.1 C.2.2.2.1 (C.2.2.2.2.1 _ hw) hd (k H locs ls hl hP hS)

theorem g_ldc2 {i : Nat} {x : Int64} {v : Int} (C : Cx Y X cc nL own d) (hd : decode cc pc = .ok (.ldc2_w i, 3)) (hw : Cond.constantLong own i x ∈ GT) (hv : x = iL v) (k : G Y X nL (pc + 3) lv (vL v :: st) M) : G Y X nL pc lv st M := by
  obtain ⟨p, l, e, R, s, m, args, below, meth, c, Q, cl, sl⟩ := X
  intro H locs ls hl hP hS
  subst hv
  exact lv_ldc2 C.1 C.2.1 C.2.2.2.1 (C.2.2.2.2.1 _ hw) hd (k H locs ls hl hP hS)

theorem g_iload_n {j : Fin 4} {i q : Nat} {x : Int} (C : Cx Y X cc nL own d) (hd : decode cc pc = .ok (.iload_n j, 1)) (hi : (j : Nat) = i) (hq : lv[q]? = some (i, vI x)) (k : G Y X nL (pc + 1) lv (vI x :: st) M) : G Y X nL pc lv st M := by
  obtain ⟨p, l, e, R, s, m, args, below, meth, c, Q, cl, sl⟩ := X
  intro H locs ls hl hP hS
  exact lv_iload_n C.1 C.2.1 hd hi (lv_at hl q hq) (k H locs ls hl hP hS)

theorem g_iload {i q : Nat} {x : Int} (C : Cx Y X cc nL own d) (hd : decode cc pc = .ok (.iload i, 2)) (hq : lv[q]? = some (i, vI x)) (k : G Y X nL (pc + 2) lv (vI x :: st) M) : G Y X nL pc lv st M := by
  obtain ⟨p, l, e, R, s, m, args, below, meth, c, Q, cl, sl⟩ := X
  intro H locs ls hl hP hS
  exact lv_iload C.1 C.2.1 hd (lv_at hl q hq) (k H locs ls hl hP hS)

theorem g_lload_n {j : Fin 4} {i q : Nat} {x : Int} (C : Cx Y X cc nL own d) (hd : decode cc pc = .ok (.lload_n j, 1)) (hi : (j : Nat) = i) (hq : lv[q]? = some (i, vL x)) (k : G Y X nL (pc + 1) lv (vL x :: st) M) : G Y X nL pc lv st M := by
  obtain ⟨p, l, e, R, s, m, args, below, meth, c, Q, cl, sl⟩ := X
  intro H locs ls hl hP hS
  exact lv_lload_n C.1 C.2.1 hd hi (lv_at hl q hq) (k H locs ls hl hP hS)

theorem g_lload {i q : Nat} {x : Int} (C : Cx Y X cc nL own d) (hd : decode cc pc = .ok (.lload i, 2)) (hq : lv[q]? = some (i, vL x)) (k : G Y X nL (pc + 2) lv (vL x :: st) M) : G Y X nL pc lv st M := by
  obtain ⟨p, l, e, R, s, m, args, below, meth, c, Q, cl, sl⟩ := X
  intro H locs ls hl hP hS
  exact lv_lload C.1 C.2.1 hd (lv_at hl q hq) (k H locs ls hl hP hS)

theorem g_aload_n {j : Fin 4} {i q : Nat} {x : Int} (C : Cx Y X cc nL own d) (hd : decode cc pc = .ok (.aload_n j, 1)) (hi : (j : Nat) = i) (hq : lv[q]? = some (i, vR Y x)) (k : G Y X nL (pc + 1) lv (vR Y x :: st) M) : G Y X nL pc lv st M := by
  obtain ⟨p, l, e, R, s, m, args, below, meth, c, Q, cl, sl⟩ := X
  intro H locs ls hl hP hS
  exact lv_aload_n C.1 C.2.1 hd hi (lv_at hl q hq) (k H locs ls hl hP hS)

theorem g_aload {i q : Nat} {x : Int} (C : Cx Y X cc nL own d) (hd : decode cc pc = .ok (.aload i, 2)) (hq : lv[q]? = some (i, vR Y x)) (k : G Y X nL (pc + 2) lv (vR Y x :: st) M) : G Y X nL pc lv st M := by
  obtain ⟨p, l, e, R, s, m, args, below, meth, c, Q, cl, sl⟩ := X
  intro H locs ls hl hP hS
  exact lv_aload C.1 C.2.1 hd (lv_at hl q hq) (k H locs ls hl hP hS)

theorem g_istore_n {j : Fin 4} {i : Nat} {x : Int} (C : Cx Y X cc nL own d) (hd : decode cc pc = .ok (.istore_n j, 1)) (hi : (j : Nat) = i) (hn : i < nL) (hv : (i, vI x) :: lv.filter (fun q => !(q.1 == i) && !(q.1 + 1 == i && q.2.category == 2)) = lv') (k : G Y X nL (pc + 1) lv' st M) : G Y X nL pc lv (vI x :: st) M := by
  obtain ⟨p, l, e, R, s, m, args, below, meth, c, Q, cl, sl⟩ := X
  intro H locs ls hl hP hS
  exact lv_istore_n C.1 C.2.1 hd hi hl hn hv (fun ls hl => k H locs ls hl hP hS)

theorem g_istore {i : Nat} {x : Int} (C : Cx Y X cc nL own d) (hd : decode cc pc = .ok (.istore i, 2)) (hn : i < nL) (hv : (i, vI x) :: lv.filter (fun q => !(q.1 == i) && !(q.1 + 1 == i && q.2.category == 2)) = lv') (k : G Y X nL (pc + 2) lv' st M) : G Y X nL pc lv (vI x :: st) M := by
  obtain ⟨p, l, e, R, s, m, args, below, meth, c, Q, cl, sl⟩ := X
  intro H locs ls hl hP hS
  exact lv_istore C.1 C.2.1 hd hl hn hv (fun ls hl => k H locs ls hl hP hS)

theorem g_lstore_n {j : Fin 4} {i : Nat} {x : Int} (C : Cx Y X cc nL own d) (hd : decode cc pc = .ok (.lstore_n j, 1)) (hi : (j : Nat) = i) (hn : i + 1 < nL) (hv : (i, vL x) :: lv.filter (fun q => !(q.1 == i) && (!(q.1 == i + 1) && !(q.1 + 1 == i && q.2.category == 2))) = lv') (k : G Y X nL (pc + 1) lv' st M) : G Y X nL pc lv (vL x :: st) M := by
  obtain ⟨p, l, e, R, s, m, args, below, meth, c, Q, cl, sl⟩ := X
  intro H locs ls hl hP hS
  exact lv_lstore_n C.1 C.2.1 hd hi hl hn hv (fun ls hl => k H locs ls hl hP hS)

theorem g_lstore {i : Nat} {x : Int} (C : Cx Y X cc nL own d) (hd : decode cc pc = .ok (.lstore i, 2)) (hn : i + 1 < nL) (hv : (i, vL x) :: lv.filter (fun q => !(q.1 == i) && (!(q.1 == i + 1) && !(q.1 + 1 == i && q.2.category == 2))) = lv') (k : G Y X nL (pc + 2) lv' st M) : G Y X nL pc lv (vL x :: st) M := by
  obtain ⟨p, l, e, R, s, m, args, below, meth, c, Q, cl, sl⟩ := X
  intro H locs ls hl hP hS
  exact lv_lstore C.1 C.2.1 hd hl hn hv (fun ls hl => k H locs ls hl hP hS)

theorem g_astore_n {j : Fin 4} {i : Nat} {x : Int} (C : Cx Y X cc nL own d) (hd : decode cc pc = .ok (.astore_n j, 1)) (hi : (j : Nat) = i) (hn : i < nL) (hv : (i, vR Y x) :: lv.filter (fun q => !(q.1 == i) && !(q.1 + 1 == i && q.2.category == 2)) = lv') (k : G Y X nL (pc + 1) lv' st M) : G Y X nL pc lv (vR Y x :: st) M := by
  obtain ⟨p, l, e, R, s, m, args, below, meth, c, Q, cl, sl⟩ := X
  intro H locs ls hl hP hS
  exact lv_astore_n C.1 C.2.1 hd hi hl hn hv (fun ls hl => k H locs ls hl hP hS)

theorem g_astore {i : Nat} {x : Int} (C : Cx Y X cc nL own d) (hd : decode cc pc = .ok (.astore i, 2)) (hn : i < nL) (hv : (i, vR Y x) :: lv.filter (fun q => !(q.1 == i) && !(q.1 + 1 == i && q.2.category == 2)) = lv') (k : G Y X nL (pc + 2) lv' st M) : G Y X nL pc lv (vR Y x :: st) M := by
  obtain ⟨p, l, e, R, s, m, args, below, meth, c, Q, cl, sl⟩ := X
  intro H locs ls hl hP hS
  exact lv_astore C.1 C.2.1 hd hl hn hv (fun ls hl => k H locs ls hl hP hS)

theorem g_iinc {i q : Nat} {n x v : Int} (C : Cx Y X cc nL own d) (hd : decode cc pc = .ok (.iinc i n, 3)) (hq : lv[q]? = some (i, vI x)) (hx : x + n = v) (hn : i < nL) (hv : (i, vI v) :: lv.filter (fun q => !(q.1 == i) && !(q.1 + 1 == i && q.2.category == 2)) = lv') (k : G Y X nL (pc + 3) lv' st M) : G Y X nL pc lv st M := by
  obtain ⟨p, l, e, R, s, m, args, below, meth, c, Q, cl, sl⟩ := X
  intro H locs ls hl hP hS
  subst hx
  exact lv_iinc C.1 C.2.1 hd hl hq (iI_add x n) hn hv (fun ls hl => k H locs ls hl hP hS)

theorem g_iadd {x y : Int} (C : Cx Y X cc nL own d) (hd : decode cc pc = .ok (.iadd, 1)) (k : G Y X nL (pc + 1) lv (vI (x + y) :: st) M) : G Y X nL pc lv (vI y :: vI x :: st) M := by
  obtain ⟨p, l, e, R, s, m, args, below, meth, c, Q, cl, sl⟩ := X
  intro H locs ls hl hP hS
  refine lv_iadd C.1 C.2.1 hd ?_
  rw [iI_add]
  exact k H locs ls hl hP hS

theorem g_isub {x y : Int} (C : Cx Y X cc nL own d) (hd : decode cc pc = .ok (.isub, 1)) (k : G Y X nL (pc + 1) lv (vI (x - y) :: st) M) : G Y X nL pc lv (vI y :: vI x :: st) M := by
  obtain ⟨p, l, e, R, s, m, args, below, meth, c, Q, cl, sl⟩ := X
  intro H locs ls hl hP hS
  refine lv_isub C.1 C.2.1 hd ?_
  rw [iI_sub]
  exact k H locs ls hl hP hS

theorem g_imul {x y : Int} (C : Cx Y X cc nL own d) (hd : decode cc pc = .ok (.imul, 1)) (k : G Y X nL (pc + 1) lv (vI (x * y) :: st) M) : G Y X nL pc lv (vI y :: vI x :: st) M := by
  obtain ⟨p, l, e, R, s, m, args, below, meth, c, Q, cl, sl⟩ := X
  intro H locs ls hl hP hS
  refine lv_imul C.1 C.2.1 hd ?_
  rw [iI_mul]
  exact k H locs ls hl hP hS

theorem g_iand {x y : Int} (C : Cx Y X cc nL own d) (hd : decode cc pc = .ok (.iand, 1)) (k : G Y X nL (pc + 1) lv (vI (zand x y) :: st) M) : G Y X nL pc lv (vI y :: vI x :: st) M := by
  obtain ⟨p, l, e, R, s, m, args, below, meth, c, Q, cl, sl⟩ := X
  intro H locs ls hl hP hS
  refine lv_iand C.1 C.2.1 hd ?_
  rw [iI_and]
  exact k H locs ls hl hP hS

theorem g_ior {x y : Int} (C : Cx Y X cc nL own d) (hd : decode cc pc = .ok (.ior, 1)) (k : G Y X nL (pc + 1) lv (vI (zor x y) :: st) M) : G Y X nL pc lv (vI y :: vI x :: st) M := by
  obtain ⟨p, l, e, R, s, m, args, below, meth, c, Q, cl, sl⟩ := X
  intro H locs ls hl hP hS
  refine lv_ior C.1 C.2.1 hd ?_
  rw [iI_or]
  exact k H locs ls hl hP hS

theorem g_ixor {x y : Int} (C : Cx Y X cc nL own d) (hd : decode cc pc = .ok (.ixor, 1)) (k : G Y X nL (pc + 1) lv (vI (zxor x y) :: st) M) : G Y X nL pc lv (vI y :: vI x :: st) M := by
  obtain ⟨p, l, e, R, s, m, args, below, meth, c, Q, cl, sl⟩ := X
  intro H locs ls hl hP hS
  refine lv_ixor C.1 C.2.1 hd ?_
  rw [iI_xor]
  exact k H locs ls hl hP hS

theorem g_ishl {x y : Int} (C : Cx Y X cc nL own d) (hd : decode cc pc = .ok (.ishl, 1)) (k : G Y X nL (pc + 1) lv (vI (zshl x y) :: st) M) : G Y X nL pc lv (vI y :: vI x :: st) M := by
  obtain ⟨p, l, e, R, s, m, args, below, meth, c, Q, cl, sl⟩ := X
  intro H locs ls hl hP hS
  refine lv_ishl C.1 C.2.1 hd ?_
  rw [iI_shl]
  exact k H locs ls hl hP hS

theorem g_ishr {x y : Int} (C : Cx Y X cc nL own d) (hd : decode cc pc = .ok (.ishr, 1)) (k : G Y X nL (pc + 1) lv (vI (zshr x y) :: st) M) : G Y X nL pc lv (vI y :: vI x :: st) M := by
  obtain ⟨p, l, e, R, s, m, args, below, meth, c, Q, cl, sl⟩ := X
  intro H locs ls hl hP hS
  refine lv_ishr C.1 C.2.1 hd ?_
  rw [iI_shr]
  exact k H locs ls hl hP hS

theorem g_iushr {x y : Int} (C : Cx Y X cc nL own d) (hd : decode cc pc = .ok (.iushr, 1)) (k : G Y X nL (pc + 1) lv (vI (zushr x y) :: st) M) : G Y X nL pc lv (vI y :: vI x :: st) M := by
  obtain ⟨p, l, e, R, s, m, args, below, meth, c, Q, cl, sl⟩ := X
  intro H locs ls hl hP hS
  exact lv_iushr C.1 C.2.1 hd (iI_ushr x y) (k H locs ls hl hP hS)

theorem g_idiv {x y : Int} (C : Cx Y X cc nL own d) (hd : decode cc pc = .ok (.idiv, 1)) (hx : inI x) (hy : inI y) (h0 : ¬ y = 0) (k : G Y X nL (pc + 1) lv (vI (x.tdiv y) :: st) M) : G Y X nL pc lv (vI y :: vI x :: st) M := by
  obtain ⟨p, l, e, R, s, m, args, below, meth, c, Q, cl, sl⟩ := X
  intro H locs ls hl hP hS
  refine lv_idiv C.1 C.2.1 hd (fun q => h0 ((iI_inj hy inI_0).mp q)) ?_
  rw [iI_div hx hy]
  exact k H locs ls hl hP hS

theorem g_irem {x y : Int} (C : Cx Y X cc nL own d) (hd : decode cc pc = .ok (.irem, 1)) (hx : inI x) (hy : inI y) (h0 : ¬ y = 0) (k : G Y X nL (pc + 1) lv (vI (x.tmod y) :: st) M) : G Y X nL pc lv (vI y :: vI x :: st) M := by
  obtain ⟨p, l, e, R, s, m, args, below, meth, c, Q, cl, sl⟩ := X
  intro H locs ls hl hP hS
  refine lv_irem C.1 C.2.1 hd (fun q => h0 ((iI_inj hy inI_0).mp q)) ?_
  rw [iI_rem hx hy]
  exact k H locs ls hl hP hS

theorem g_ladd {x y : Int} (C : Cx Y X cc nL own d) (hd : decode cc pc = .ok (.ladd, 1)) (k : G Y X nL (pc + 1) lv (vL (x + y) :: st) M) : G Y X nL pc lv (vL y :: vL x :: st) M := by
  obtain ⟨p, l, e, R, s, m, args, below, meth, c, Q, cl, sl⟩ := X
  intro H locs ls hl hP hS
  refine lv_ladd C.1 C.2.1 hd ?_
  rw [iL_add]
  exact k H locs ls hl hP hS

theorem g_lsub {x y : Int} (C : Cx Y X cc nL own d) (hd : decode cc pc = .ok (.lsub, 1)) (k : G Y X nL (pc + 1) lv (vL (x - y) :: st) M) : G Y X nL pc lv (vL y :: vL x :: st) M := by
  obtain ⟨p, l, e, R, s, m, args, below, meth, c, Q, cl, sl⟩ := X
  intro H locs ls hl hP hS
  refine lv_lsub C.1 C.2.1 hd ?_
  rw [iL_sub]
  exact k H locs ls hl hP hS

theorem g_lmul {x y : Int} (C : Cx Y X cc nL own d) (hd : decode cc pc = .ok (.lmul, 1)) (k : G Y X nL (pc + 1) lv (vL (x * y) :: st) M) : G Y X nL pc lv (vL y :: vL x :: st) M := by
  obtain ⟨p, l, e, R, s, m, args, below, meth, c, Q, cl, sl⟩ := X
  intro H locs ls hl hP hS
  refine lv_lmul C.1 C.2.1 hd ?_
  rw [iL_mul]
  exact k H locs ls hl hP hS

theorem g_land {x y : Int} (C : Cx Y X cc nL own d) (hd : decode cc pc = .ok (.land, 1)) (k : G Y X nL (pc + 1) lv (vL (wand x y) :: st) M) : G Y X nL pc lv (vL y :: vL x :: st) M := by
  obtain ⟨p, l, e, R, s, m, args, below, meth, c, Q, cl, sl⟩ := X
  intro H locs ls hl hP hS
  refine lv_land C.1 C.2.1 hd ?_
  rw [iL_and]
  exact k H locs ls hl hP hS

theorem g_lor {x y : Int} (C : Cx Y X cc nL own d) (hd : decode cc pc = .ok (.lor, 1)) (k : G Y X nL (pc + 1) lv (vL (wor x y) :: st) M) : G Y X nL pc lv (vL y :: vL x :: st) M := by
  obtain ⟨p, l, e, R, s, m, args, below, meth, c, Q, cl, sl⟩ := X
  intro H locs ls hl hP hS
  refine lv_lor C.1 C.2.1 hd ?_
  rw [iL_or]
  exact k H locs ls hl hP hS

theorem g_lxor {x y : Int} (C : Cx Y X cc nL own d) (hd : decode cc pc = .ok (.lxor, 1)) (k : G Y X nL (pc + 1) lv (vL (wxor x y) :: st) M) : G Y X nL pc lv (vL y :: vL x :: st) M := by
  obtain ⟨p, l, e, R, s, m, args, below, meth, c, Q, cl, sl⟩ := X
  intro H locs ls hl hP hS
  refine lv_lxor C.1 C.2.1 hd ?_
  rw [iL_xor]
  exact k H locs ls hl hP hS

theorem g_ldiv {x y : Int} (C : Cx Y X cc nL own d) (hd : decode cc pc = .ok (.ldiv, 1)) (hx : inL x) (hy : inL y) (h0 : ¬ y = 0) (k : G Y X nL (pc + 1) lv (vL (x.tdiv y) :: st) M) : G Y X nL pc lv (vL y :: vL x :: st) M := by
  obtain ⟨p, l, e, R, s, m, args, below, meth, c, Q, cl, sl⟩ := X
  intro H locs ls hl hP hS
  refine lv_ldiv C.1 C.2.1 hd (fun q => h0 ((iL_inj hy (by decide)).mp q)) ?_
  rw [iL_div hx hy]
  exact k H locs ls hl hP hS

theorem g_lrem {x y : Int} (C : Cx Y X cc nL own d) (hd : decode cc pc = .ok (.lrem, 1)) (hx : inL x) (hy : inL y) (h0 : ¬ y = 0) (k : G Y X nL (pc + 1) lv (vL (x.tmod y) :: st) M) : G Y X nL pc lv (vL y :: vL x :: st) M := by
  obtain ⟨p, l, e, R, s, m, args, below, meth, c, Q, cl, sl⟩ := X
  intro H locs ls hl hP hS
  refine lv_lrem C.1 C.2.1 hd (fun q => h0 ((iL_inj hy (by decide)).mp q)) ?_
  rw [iL_rem hx hy]
  exact k H locs ls hl hP hS

theorem g_lshl {x y : Int} (C : Cx Y X cc nL own d) (hd : decode cc pc = .ok (.lshl, 1)) (k : G Y X nL (pc + 1) lv (vL (wshl x y) :: st) M) : G Y X nL pc lv (vI y :: vL x :: st) M := by
  obtain ⟨p, l, e, R, s, m, args, below, meth, c, Q, cl, sl⟩ := X
  intro H locs ls hl hP hS
  exact lv_lshl C.1 C.2.1 hd (iL_shl x y) (k H locs ls hl hP hS)

theorem g_lshr {x y : Int} (C : Cx Y X cc nL own d) (hd : decode cc pc = .ok (.lshr, 1)) (k : G Y X nL (pc + 1) lv (vL (wshr x y) :: st) M) : G Y X nL pc lv (vI y :: vL x :: st) M := by
  obtain ⟨p, l, e, R, s, m, args, below, meth, c, Q, cl, sl⟩ := X
  intro H locs ls hl hP hS
  exact lv_lshr C.1 C.2.1 hd (iL_shr x y) (k H locs ls hl hP hS)

theorem g_i2l {x : Int} (C : Cx Y X cc nL own d) (hd : decode cc pc = .ok (.i2l, 1)) (hx : inI x) (k : G Y X nL (pc + 1) lv (vL x :: st) M) : G Y X nL pc lv (vI x :: st) M := by
  obtain ⟨p, l, e, R, s, m, args, below, meth, c, Q, cl, sl⟩ := X
  intro H locs ls hl hP hS
  exact lv_i2l C.1 C.2.1 hd (iI_l hx) (k H locs ls hl hP hS)

theorem g_l2i {x : Int} (C : Cx Y X cc nL own d) (hd : decode cc pc = .ok (.l2i, 1)) (k : G Y X nL (pc + 1) lv (vI x :: st) M) : G Y X nL pc lv (vL x :: st) M := by
  obtain ⟨p, l, e, R, s, m, args, below, meth, c, Q, cl, sl⟩ := X
  intro H locs ls hl hP hS
  exact lv_l2i C.1 C.2.1 hd (iL_i x) (k H locs ls hl hP hS)

theorem g_dup {v : Value} (C : Cx Y X cc nL own d) (hd : decode cc pc = .ok (.dup, 1)) (hv : v.category = 1) (k : G Y X nL (pc + 1) lv (v :: v :: st) M) : G Y X nL pc lv (v :: st) M := by
  obtain ⟨p, l, e, R, s, m, args, below, meth, c, Q, cl, sl⟩ := X
  intro H locs ls hl hP hS
  exact lv_dup C.1 C.2.1 hd hv (k H locs ls hl hP hS)

theorem g_pop {v : Value} (C : Cx Y X cc nL own d) (hd : decode cc pc = .ok (.pop, 1)) (hv : v.category = 1) (k : G Y X nL (pc + 1) lv st M) : G Y X nL pc lv (v :: st) M := by
  obtain ⟨p, l, e, R, s, m, args, below, meth, c, Q, cl, sl⟩ := X
  intro H locs ls hl hP hS
  exact lv_pop C.1 C.2.1 hd hv (k H locs ls hl hP hS)

theorem g_dup2 {v w : Value} (C : Cx Y X cc nL own d) (hd : decode cc pc = .ok (.dup2, 1)) (hv : v.category = 1) (hw : w.category = 1) (k : G Y X nL (pc + 1) lv (v :: w :: v :: w :: st) M) : G Y X nL pc lv (v :: w :: st) M := by
  obtain ⟨p, l, e, R, s, m, args, below, meth, c, Q, cl, sl⟩ := X
  intro H locs ls hl hP hS
  exact lv_dup2_11 C.1 C.2.1 hd hv hw (k H locs ls hl hP hS)

theorem g_goto {off : Int} {tgt : Nat} (C : Cx Y X cc nL own d) (hd : decode cc pc = .ok (.goto off, 3)) (ht : (pc : Int) + off = (tgt : Int)) (k : G Y X nL tgt lv st M) : G Y X nL pc lv st M := by
  obtain ⟨p, l, e, R, s, m, args, below, meth, c, Q, cl, sl⟩ := X
  intro H locs ls hl hP hS
  exact lv_goto C.1 C.2.1 hd ht (k H locs ls hl hP hS)

theorem g_icmp_eq {x y off : Int} {tgt : Nat} (C : Cx Y X cc nL own d) (hd : decode cc pc = .ok (.if_icmp .eq off, 3)) (ht : (pc : Int) + off = (tgt : Int)) (hx : inI x) (hy : inI y) (kt : x = y → G Y X nL tgt lv st M) (kf : ¬ x = y → G Y X nL (pc + 3) lv st M) : G Y X nL pc lv (vI y :: vI x :: st) M := by
  obtain ⟨p, l, e, R, s, m, args, below, meth, c, Q, cl, sl⟩ := X
  intro H locs ls hl hP hS
  exact lv_icmp_eq C.1 C.2.1 hd ht (fun q => kt ((iI_inj hx hy).mp q) H locs ls hl hP hS) (fun q => kf (fun z => q ((iI_inj hx hy).mpr z)) H locs ls hl hP hS)

theorem g_if_eq {x off : Int} {tgt : Nat} (C : Cx Y X cc nL own d) (hd : decode cc pc = .ok (.ifCond .eq off, 3)) (ht : (pc : Int) + off = (tgt : Int)) (hx : inI x) (kt : x = 0 → G Y X nL tgt lv st M) (kf : ¬ x = 0 → G Y X nL (pc + 3) lv st M) : G Y X nL pc lv (vI x :: st) M := by
  obtain ⟨p, l, e, R, s, m, args, below, meth, c, Q, cl, sl⟩ := X
  intro H locs ls hl hP hS
  exact lv_if_eq C.1 C.2.1 hd ht (fun q => kt ((iI_inj hx inI_0).mp q) H locs ls hl hP hS) (fun q => kf (fun z => q ((iI_inj hx inI_0).mpr z)) H locs ls hl hP hS)

theorem g_icmp_ne {x y off : Int} {tgt : Nat} (C : Cx Y X cc nL own d) (hd : decode cc pc = .ok (.if_icmp .ne off, 3)) (ht : (pc : Int) + off = (tgt : Int)) (hx : inI x) (hy : inI y) (kt : ¬ x = y → G Y X nL tgt lv st M) (kf : x = y → G Y X nL (pc + 3) lv st M) : G Y X nL pc lv (vI y :: vI x :: st) M := by
  obtain ⟨p, l, e, R, s, m, args, below, meth, c, Q, cl, sl⟩ := X
  intro H locs ls hl hP hS
  exact lv_icmp_ne C.1 C.2.1 hd ht (fun q => kt (fun z => q ((iI_inj hx hy).mpr z)) H locs ls hl hP hS) (fun q => kf ((iI_inj hx hy).mp q) H locs ls hl hP hS)

theorem g_if_ne {x off : Int} {tgt : Nat} (C : Cx Y X cc nL own d) (hd : decode cc pc = .ok (.ifCond .ne off, 3)) (ht : (pc : Int) + off = (tgt : Int)) (hx : inI x) (kt : ¬ x = 0 → G Y X nL tgt lv st M) (kf : x = 0 → G Y X nL (pc + 3) lv st M) : G Y X nL pc lv (vI x :: st) M := by
  obtain ⟨p, l, e, R, s, m, args, below, meth, c, Q, cl, sl⟩ := X
  intro H locs ls hl hP hS
  exact lv_if_ne C.1 C.2.1 hd ht (fun q => kt (fun z => q ((iI_inj hx inI_0).mpr z)) H locs ls hl hP hS) (fun q => kf ((iI_inj hx inI_0).mp q) H locs ls hl hP hS)

theorem g_icmp_lt {x y off : Int} {tgt : Nat} (C : Cx Y X cc nL own d) (hd : decode cc pc = .ok (.if_icmp .lt off, 3)) (ht : (pc : Int) + off = (tgt : Int)) (hx : inI x) (hy : inI y) (kt : x < y → G Y X nL tgt lv st M) (kf : ¬ x < y → G Y X nL (pc + 3) lv st M) : G Y X nL pc lv (vI y :: vI x :: st) M := by
  obtain ⟨p, l, e, R, s, m, args, below, meth, c, Q, cl, sl⟩ := X
  intro H locs ls hl hP hS
  exact lv_icmp_lt C.1 C.2.1 hd ht (fun q => kt ((iI_lt hx hy).mp q) H locs ls hl hP hS) (fun q => kf (fun z => q ((iI_lt hx hy).mpr z)) H locs ls hl hP hS)

theorem g_if_lt {x off : Int} {tgt : Nat} (C : Cx Y X cc nL own d) (hd : decode cc pc = .ok (.ifCond .lt off, 3)) (ht : (pc : Int) + off = (tgt : Int)) (hx : inI x) (kt : x < 0 → G Y X nL tgt lv st M) (kf : ¬ x < 0 → G Y X nL (pc + 3) lv st M) : G Y X nL pc lv (vI x :: st) M := by
  obtain ⟨p, l, e, R, s, m, args, below, meth, c, Q, cl, sl⟩ := X
  intro H locs ls hl hP hS
  exact lv_if_lt C.1 C.2.1 hd ht (fun q => kt ((iI_lt hx inI_0).mp q) H locs ls hl hP hS) (fun q => kf (fun z => q ((iI_lt hx inI_0).mpr z)) H locs ls hl hP hS)

theorem g_icmp_ge {x y off : Int} {tgt : Nat} (C : Cx Y X cc nL own d) (hd : decode cc pc = .ok (.if_icmp .ge off, 3)) (ht : (pc : Int) + off = (tgt : Int)) (hx : inI x) (hy : inI y) (kt : y ≤ x → G Y X nL tgt lv st M) (kf : ¬ y ≤ x → G Y X nL (pc + 3) lv st M) : G Y X nL pc lv (vI y :: vI x :: st) M := by
  obtain ⟨p, l, e, R, s, m, args, below, meth, c, Q, cl, sl⟩ := X
  intro H locs ls hl hP hS
  exact lv_icmp_ge C.1 C.2.1 hd ht (fun q => kt ((iI_le hy hx).mp q) H locs ls hl hP hS) (fun q => kf (fun z => q ((iI_le hy hx).mpr z)) H locs ls hl hP hS)

theorem g_if_ge {x off : Int} {tgt : Nat} (C : Cx Y X cc nL own d) (hd : decode cc pc = .ok (.ifCond .ge off, 3)) (ht : (pc : Int) + off = (tgt : Int)) (hx : inI x) (kt : 0 ≤ x → G Y X nL tgt lv st M) (kf : ¬ 0 ≤ x → G Y X nL (pc + 3) lv st M) : G Y X nL pc lv (vI x :: st) M := by
  obtain ⟨p, l, e, R, s, m, args, below, meth, c, Q, cl, sl⟩ := X
  intro H locs ls hl hP hS
  exact lv_if_ge C.1 C.2.1 hd ht (fun q => kt ((iI_le inI_0 hx).mp q) H locs ls hl hP hS) (fun q => kf (fun z => q ((iI_le inI_0 hx).mpr z)) H locs ls hl hP hS)

theorem g_icmp_gt {x y off : Int} {tgt : Nat} (C : Cx Y X cc nL own d) (hd : decode cc pc = .ok (.if_icmp .gt off, 3)) (ht : (pc : Int) + off = (tgt : Int)) (hx : inI x) (hy : inI y) (kt : y < x → G Y X nL tgt lv st M) (kf : ¬ y < x → G Y X nL (pc + 3) lv st M) : G Y X nL pc lv (vI y :: vI x :: st) M := by
  obtain ⟨p, l, e, R, s, m, args, below, meth, c, Q, cl, sl⟩ := X
  intro H locs ls hl hP hS
  exact lv_icmp_gt C.1 C.2.1 hd ht (fun q => kt ((iI_lt hy hx).mp q) H locs ls hl hP hS) (fun q => kf (fun z => q ((iI_lt hy hx).mpr z)) H locs ls hl hP hS)

theorem g_if_gt {x off : Int} {tgt : Nat} (C : Cx Y X cc nL own d) (hd : decode cc pc = .ok (.ifCond .gt off, 3)) (ht : (pc : Int) + off = (tgt : Int)) (hx : inI x) (kt : 0 < x → G Y X nL tgt lv st M) (kf : ¬ 0 < x → G Y X nL (pc + 3) lv st M) : G Y X nL pc lv (vI x :: st) M := by
  obtain ⟨p, l, e, R, s, m, args, below, meth, c, Q, cl, sl⟩ := X
  intro H locs ls hl hP hS
  exact lv_if_gt C.1 C.2.1 hd ht (fun q => kt ((iI_lt inI_0 hx).mp q) H locs ls hl hP hS) (fun q => kf (fun z => q ((iI_lt inI_0 hx).mpr z)) H locs ls hl hP hS)

theorem g_icmp_le {x y off : Int} {tgt : Nat} (C : Cx Y X cc nL own d) (hd : decode cc pc = .ok (.if_icmp .le off, 3)) (ht : (pc : Int) + off = (tgt : Int)) (hx : inI x) (hy : inI y) (kt : x ≤ y → G Y X nL tgt lv st M) (kf : ¬ x ≤ y → G Y X nL (pc + 3) lv st M) : G Y X nL pc lv (vI y :: vI x :: st) M := by
  obtain ⟨p, l, e, R, s, m, args, below, meth, c, Q, cl, sl⟩ := X
  intro H locs ls hl hP hS
  exact lv_icmp_le C.1 C.2.1 hd ht (fun q => kt ((iI_le hx hy).mp q) H locs ls hl hP hS) (fun q => kf (fun z => q ((iI_le hx hy).mpr z)) H locs ls hl hP hS)

theorem g_if_le {x off : Int} {tgt : Nat} (C : Cx Y X cc nL own d) (hd : decode cc pc = .ok (.ifCond .le off, 3)) (ht : (pc : Int) + off = (tgt : Int)) (hx : inI x) (kt : x ≤ 0 → G Y X nL tgt lv st M) (kf : ¬ x ≤ 0 → G Y X nL (pc + 3) lv st M) : G Y X nL pc lv (vI x :: st) M := by
  obtain ⟨p, l, e, R, s, m, args, below, meth, c, Q, cl, sl⟩ := X
  intro H locs ls hl hP hS
  exact lv_if_le C.1 C.2.1 hd ht (fun q => kt ((iI_le hx inI_0).mp q) H locs ls hl hP hS) (fun q => kf (fun z => q ((iI_le hx inI_0).mpr z)) H locs ls hl hP hS)

theorem cmp_eq {x y : Int} (hx : inL x) (hy : inL y) : lg_cmp (iL x) (iL y) = 0 ↔ x = y := by
  unfold lg_cmp
  simp only [gt_iff_lt, iL_lt hy hx, iL_inj hx hy]
  repeat' split
  all_goals first | (simp; omega) | simp_all
theorem cmp_lt {x y : Int} (hx : inL x) (hy : inL y) : lg_cmp (iL x) (iL y) < 0 ↔ x < y := (lg_cmp_lt _ _).trans (iL_lt hx hy)
theorem cmp_gt {x y : Int} (hx : inL x) (hy : inL y) : 0 < lg_cmp (iL x) (iL y) ↔ y < x := (lg_cmp_gt _ _).trans (iL_lt hy hx)
theorem cmp_le {x y : Int} (hx : inL x) (hy : inL y) : lg_cmp (iL x) (iL y) ≤ 0 ↔ x ≤ y := (lg_cmp_le _ _).trans (iL_le hx hy)
theorem cmp_ge {x y : Int} (hx : inL x) (hy : inL y) : 0 ≤ lg_cmp (iL x) (iL y) ↔ y ≤ x := (lg_cmp_ge _ _).trans (iL_le hy hx)

theorem g_lcmp_eq {x y off : Int} {tgt : Nat} (C : Cx Y X cc nL own d) (hd : decode cc pc = .ok (.lcmp, 1)) (hd2 : decode cc (pc + 1) = .ok (.ifCond .eq off, 3)) (ht : ((pc + 1 : Nat) : Int) + off = (tgt : Int)) (hx : inL x) (hy : inL y) (kt : x = y → G Y X nL tgt lv st M) (kf : ¬ x = y → G Y X nL (pc + 4) lv st M) : G Y X nL pc lv (vL y :: vL x :: st) M := by
  obtain ⟨p, l, e, R, s, m, args, below, meth, c, Q, cl, sl⟩ := X
  intro H locs ls hl hP hS
  refine W.lcmp C.1 C.2.1 hd ?_
  exact lv_if_eq C.1 C.2.1 hd2 ht (fun q => kt ((cmp_eq hx hy).mp q) H locs ls hl hP hS) (fun q => kf (fun z => q ((cmp_eq hx hy).mpr z)) H locs ls hl hP hS)

theorem g_lcmp_ne {x y off : Int} {tgt : Nat} (C : Cx Y X cc nL own d) (hd : decode cc pc = .ok (.lcmp, 1)) (hd2 : decode cc (pc + 1) = .ok (.ifCond .ne off, 3)) (ht : ((pc + 1 : Nat) : Int) + off = (tgt : Int)) (hx : inL x) (hy : inL y) (kt : ¬ x = y → G Y X nL tgt lv st M) (kf : x = y → G Y X nL (pc + 4) lv st M) : G Y X nL pc lv (vL y :: vL x :: st) M := by
  obtain ⟨p, l, e, R, s, m, args, below, meth, c, Q, cl, sl⟩ := X
  intro H locs ls hl hP hS
  refine W.lcmp C.1 C.2.1 hd ?_
  exact lv_if_ne C.1 C.2.1 hd2 ht (fun q => kt (fun z => q ((cmp_eq hx hy).mpr z)) H locs ls hl hP hS) (fun q => kf ((cmp_eq hx hy).mp q) H locs ls hl hP hS)

theorem g_lcmp_lt {x y off : Int} {tgt : Nat} (C : Cx Y X cc nL own d) (hd : decode cc pc = .ok (.lcmp, 1)) (hd2 : decode cc (pc + 1) = .ok (.ifCond .lt off, 3)) (ht : ((pc + 1 : Nat) : Int) + off = (tgt : Int)) (hx : inL x) (hy : inL y) (kt : x < y → G Y X nL tgt lv st M) (kf : ¬ x < y → G Y X nL (pc + 4) lv st M) : G Y X nL pc lv (vL y :: vL x :: st) M := by
  obtain ⟨p, l, e, R, s, m, args, below, meth, c, Q, cl, sl⟩ := X
  intro H locs ls hl hP hS
  refine W.lcmp C.1 C.2.1 hd ?_
  exact lv_if_lt C.1 C.2.1 hd2 ht (fun q => kt ((cmp_lt hx hy).mp q) H locs ls hl hP hS) (fun q => kf (fun z => q ((cmp_lt hx hy).mpr z)) H locs ls hl hP hS)

theorem g_lcmp_ge {x y off : Int} {tgt : Nat} (C : Cx Y X cc nL own d) (hd : decode cc pc = .ok (.lcmp, 1)) (hd2 : decode cc (pc + 1) = .ok (.ifCond .ge off, 3)) (ht : ((pc + 1 : Nat) : Int) + off = (tgt : Int)) (hx : inL x) (hy : inL y) (kt : y ≤ x → G Y X nL tgt lv st M) (kf : ¬ y ≤ x → G Y X nL (pc + 4) lv st M) : G Y X nL pc lv (vL y :: vL x :: st) M := by
  obtain ⟨p, l, e, R, s, m, args, below, meth, c, Q, cl, sl⟩ := X
  intro H locs ls hl hP hS
  refine W.lcmp C.1 C.2.1 hd ?_
  exact lv_if_ge C.1 C.2.1 hd2 ht (fun q => kt ((cmp_ge hx hy).mp q) H locs ls hl hP hS) (fun q => kf (fun z => q ((cmp_ge hx hy).mpr z)) H locs ls hl hP hS)

theorem g_lcmp_gt {x y off : Int} {tgt : Nat} (C : Cx Y X cc nL own d) (hd : decode cc pc = .ok (.lcmp, 1)) (hd2 : decode cc (pc + 1) = .ok (.ifCond .gt off, 3)) (ht : ((pc + 1 : Nat) : Int) + off = (tgt : Int)) (hx : inL x) (hy : inL y) (kt : y < x → G Y X nL tgt lv st M) (kf : ¬ y < x → G Y X nL (pc + 4) lv st M) : G Y X nL pc lv (vL y :: vL x :: st) M := by
  obtain ⟨p, l, e, R, s, m, args, below, meth, c, Q, cl, sl⟩ := X
  intro H locs ls hl hP hS
  refine W.lcmp C.1 C.2.1 hd ?_
  exact lv_if_gt C.1 C.2.1 hd2 ht (fun q => kt ((cmp_gt hx hy).mp q) H locs ls hl hP hS) (fun q => kf (fun z => q ((cmp_gt hx hy).mpr z)) H locs ls hl hP hS)

theorem g_lcmp_le {x y off : Int} {tgt : Nat} (C : Cx Y X cc nL own d) (hd : decode cc pc = .ok (.lcmp, 1)) (hd2 : decode cc (pc + 1) = .ok (.ifCond .le off, 3)) (ht : ((pc + 1 : Nat) : Int) + off = (tgt : Int)) (hx : inL x) (hy : inL y) (kt : x ≤ y → G Y X nL tgt lv st M) (kf : ¬ x ≤ y → G Y X nL (pc + 4) lv st M) : G Y X nL pc lv (vL y :: vL x :: st) M := by
  obtain ⟨p, l, e, R, s, m, args, below, meth, c, Q, cl, sl⟩ := X
  intro H locs ls hl hP hS
  refine W.lcmp C.1 C.2.1 hd ?_
  exact lv_if_le C.1 C.2.1 hd2 ht (fun q => kt ((cmp_le hx hy).mp q) H locs ls hl hP hS) (fun q => kf (fun z => q ((cmp_le hx hy).mpr z)) H locs ls hl hP hS)


/-- a field of a class of the nest, by its link: class ci, place k, of sort q -/
def Fld (own : String) (i ci k : Nat) (q : Nat × Int) : Prop := ∃ (C : String) (T : u_T) (N : Nat) (ty0 : Nat → FieldType), classes[ci]? = some (C, T, N) ∧ (∀ w ∈ u_ws C T N, w ∈ GT) ∧ k < N ∧ Cond.fieldLink own i (T k).1 (T k).2.1 (T k).2.2.1 ∈ GT ∧ (ft ci)[k]? = some q ∧ N = (ft ci).length ∧ ci < 20 ∧
  (∀ k, k < N → parseFieldDescriptor (T k).2.2.1 = some (ty0 k)) ∧ (∀ a, a < N → ∀ b, b < N → a ≠ b → (T a).2.1 ≠ (T b).2.1)
theorem cel_obj {Y : YT} {a ci : Nat} {m : Int → Int} (h : kdN a = ci) (hc : ci < 20) : cel Y a m = .inr (ci, fv Y m a 0 (ft ci)) := by
  unfold cel
  rw [h, if_pos hc]
theorem toNat_i {r : Int} (h : 0 ≤ r) : ((r.toNat : Nat) : Int) = r := Int.toNat_of_nonneg h
theorem g_getv {i ci kf : Nat} {q : Nat × Int} {r : Int} (C : Cx Y X cc nL own d) (hF : Fld own i ci kf q) (hd : decode cc pc = .ok (.getfield i, 3)) (hr : kd r = ci) (k : G Y X nL (pc + 3) lv (vl Y (M r) r kf q :: st) M) : G Y X nL pc lv (vR Y r :: st) M := by
  obtain ⟨p, l, e, R, s, m, args, below, meth, c, Q, cl, sl⟩ := X
  intro H locs ls hl hP hS
  obtain ⟨Cn, T, N, ty0, h1, h2, h3, h4, h5, h6, h7, h8, h9⟩ := hF
  obtain ⟨r0, r1, r2⟩ := kd_in hr (by omega)
  have e1 := ws_get (Y := Y) (M := M) r1
  rw [cel_obj r2 h7, toNat_i r0] at e1
  have e2 := fv_get Y (M r) r (ft ci) 0 kf q h5
  rw [Int.zero_add] at e2
  exact va_get C.1 C.2.1 C.2.2.2.2.1 h2 C.2.2.2.1 C.2.2.2.2.2.1.1 hP r.toNat e1 h1 kf h3 (C.2.2.2.2.1 _ h4) (fun _ h => h) e2 hd (k H locs ls hl hP hS)
theorem g_getI {i ci kf : Nat} {t : Nat} {o r : Int} (C : Cx Y X cc nL own d) (hF : Fld own i ci kf (t, o)) (ht : t = 0 ∨ t = 2) (hd : decode cc pc = .ok (.getfield i, 3)) (hr : kd r = ci) (k : G Y X nL (pc + 3) lv (vI (M r kf) :: st) M) : G Y X nL pc lv (vR Y r :: st) M :=
  g_getv C hF hd hr (by rcases ht with rfl | rfl <;> exact k)
theorem g_getJ {i ci kf : Nat} {o r : Int} (C : Cx Y X cc nL own d) (hF : Fld own i ci kf (1, o)) (hd : decode cc pc = .ok (.getfield i, 3)) (hr : kd r = ci) (k : G Y X nL (pc + 3) lv (vL (M r kf) :: st) M) : G Y X nL pc lv (vR Y r :: st) M :=
  g_getv C hF hd hr k
theorem g_getM {i ci kf : Nat} {o r : Int} (C : Cx Y X cc nL own d) (hF : Fld own i ci kf (3, o)) (hd : decode cc pc = .ok (.getfield i, 3)) (hr : kd r = ci) (h0 : 0 ≤ M r kf) (k : G Y X nL (pc + 3) lv (vR Y (M r kf) :: st) M) : G Y X nL pc lv (vR Y r :: st) M :=
  g_getv C hF hd hr (by rw [show vl Y (M r) r kf (3, o) = rv Y (M r kf) from rfl, rv_pos h0]; exact k)
theorem g_getS {i ci kf : Nat} {o r v : Int} (C : Cx Y X cc nL own d) (hF : Fld own i ci kf (4, o)) (hd : decode cc pc = .ok (.getfield i, 3)) (hr : kd r = ci) (hv : r + o = v) (k : G Y X nL (pc + 3) lv (vR Y v :: st) M) : G Y X nL pc lv (vR Y r :: st) M := by
  subst hv
  exact g_getv C hF hd hr k
/-- a field that isn't final is written -/
def Fpt (own : String) (i ci k : Nat) (ty : FieldType) : Prop := ∃ (C : String) (T : u_T) (N : Nat), classes[ci]? = some (C, T, N) ∧ Cond.fieldLink own i (T k).1 (T k).2.1 (T k).2.2.1 ∈ GT ∧ (T k).2.2.2 = false ∧ parseFieldDescriptor (T k).2.2.1 = some ty
theorem g_putv {i ci kf : Nat} {q : Nat × Int} {ty : FieldType} {r v : Int} {w : Value} (C : Cx Y X cc nL own d) (hF : Fld own i ci kf q) (hp : Fpt own i ci kf ty) (hd : decode cc pc = .ok (.putfield i, 3)) (hr : kd r = ci) (hw : vl Y (upR (M r) kf v) r kf q = w) (hn : narrow ty w = w) (hfit : fits ty w = true) {M1 : Mem} (e1 : M1 = up M r kf v) (k : G Y X nL (pc + 3) lv st M1) : G Y X nL pc lv (w :: vR Y r :: st) M := by
  subst e1
  obtain ⟨p, l, e, R, s, m, args, below, meth, c, Q, cl, sl⟩ := X
  intro H locs ls hl hP hS
  obtain ⟨Cn, T, N, ty0, h1, h2, h3, h4, h5, h6, h7, h8, h9⟩ := hF
  obtain ⟨Cn', T', N', p1, p2, p3, p4⟩ := hp
  rw [h1] at p1
  cases p1
  obtain ⟨r0, r1, r2⟩ := kd_in hr (by omega)
  have e1 := ws_get (Y := Y) (M := M) r1
  rw [cel_obj r2 h7, toNat_i r0] at e1
  have e2 := fv_set Y (M r) r v (ft ci) 0 kf q h5
  rw [Int.zero_add, hw] at e2
  refine va_put C.1 C.2.1 C.2.2.2.2.1 h2 ty0 h8 h9 C.2.2.2.1 C.2.2.2.2.2.1.1 hP (ws_D C.2.2.2.2.2.2.1) hS r.toNat e1 h1 kf h3 (C.2.2.2.2.1 _ p2) (fun _ h => h) p3 p4 hn hfit (by rw [fv_len, ← h6]; exact h3) hd (fun H1 locs1 hP1 _ hS1 => ?_)
  refine k H1 locs1 ls hl ?_ hS1
  rw [e2, ws_set (M' := up M r kf v) r1 (by rw [cel_obj r2 h7, toNat_i r0, up_row]) (fun b hb => up_ne M (by omega))] at hP1
  exact hP1
theorem g_putI {i ci kf : Nat} {o r v : Int} (C : Cx Y X cc nL own d) (hF : Fld own i ci kf (0, o)) (hp : Fpt own i ci kf .int) (hd : decode cc pc = .ok (.putfield i, 3)) (hr : kd r = ci) {M1 : Mem} (e1 : M1 = up M r kf v) (k : G Y X nL (pc + 3) lv st M1) : G Y X nL pc lv (vI v :: vR Y r :: st) M :=
  g_putv (v := v) C hF hp hd hr (by simp [vl, upR]) rfl rfl e1 k
theorem nz {v : Int} (h : v = 0 ∨ v = 1) : narrow .boolean (vI v) = vI v ∧ fits .boolean (vI v) = true := by rcases h with rfl | rfl <;> decide +kernel
theorem g_putZ {i ci kf : Nat} {o r v : Int} (C : Cx Y X cc nL own d) (hF : Fld own i ci kf (2, o)) (hp : Fpt own i ci kf .boolean) (hd : decode cc pc = .ok (.putfield i, 3)) (hr : kd r = ci) (hv : v = 0 ∨ v = 1) {M1 : Mem} (e1 : M1 = up M r kf v) (k : G Y X nL (pc + 3) lv st M1) : G Y X nL pc lv (vI v :: vR Y r :: st) M :=
  g_putv (v := v) C hF hp hd hr (by simp [vl, upR]) (nz hv).1 (nz hv).2 e1 k
theorem g_putJ {i ci kf : Nat} {o r v : Int} (C : Cx Y X cc nL own d) (hF : Fld own i ci kf (1, o)) (hp : Fpt own i ci kf .long) (hd : decode cc pc = .ok (.putfield i, 3)) (hr : kd r = ci) {M1 : Mem} (e1 : M1 = up M r kf v) (k : G Y X nL (pc + 3) lv st M1) : G Y X nL pc lv (vL v :: vR Y r :: st) M :=
  g_putv (v := v) C hF hp hd hr (by simp [vl, upR]) rfl rfl e1 k
theorem g_putM {i ci kf : Nat} {o r v : Int} {n : String} (C : Cx Y X cc nL own d) (hF : Fld own i ci kf (3, o)) (hp : Fpt own i ci kf (.object n)) (hd : decode cc pc = .ok (.putfield i, 3)) (hr : kd r = ci) (hv : 0 ≤ v) {M1 : Mem} (e1 : M1 = up M r kf v) (k : G Y X nL (pc + 3) lv st M1) : G Y X nL pc lv (vR Y v :: vR Y r :: st) M :=
  g_putv (v := v) C hF hp hd hr (by simp [vl, upR, rv_pos hv]) rfl rfl e1 k
theorem cel_i {Y : YT} {a : Nat} {m : Int → Int} (h : kdN a = 20) : cel Y a m = .inl (Y.2.1 20, lnN a, .inl fun j => iI (m j)) := by
  unfold cel
  rw [h]
  rfl
theorem cel_z {Y : YT} {a : Nat} {m : Int → Int} (h : kdN a = 22) : cel Y a m = .inl (Y.2.1 22, lnN a, .inl fun j => iI (m j)) := by
  unfold cel
  rw [h]
  rfl
theorem cel_l {Y : YT} {a : Nat} {m : Int → Int} (h : kdN a = 21) : cel Y a m = .inl (Y.2.1 21, lnN a, .inr (.inl fun j => iL (m j))) := by
  unfold cel
  rw [h]
  rfl
theorem ln_in {r i : Int} (hi : 0 ≤ i ∧ i < ln r) : vp_in (iI i) (lnN r.toNat) ∧ (iI i).toNatClampNeg = i.toNat ∧ i < 2147483648 := by
  have h := lnN_lt r.toNat
  have h2 : i < (lnN r.toNat : Nat) := hi.2
  exact ⟨iI_in ⟨hi.1, h2⟩ h, iI_clamp hi.1 (by omega), by omega⟩
theorem upd_iI (m : Int → Int) {i : Int} (v : Int) (hi : 0 ≤ i) : upd (fun j : Nat => iI (m j)) i.toNat (iI v) = fun j : Nat => iI (upR m i v j) := by
  funext j
  unfold upd upR
  by_cases h : j = i.toNat
  · subst h
    simp [toNat_i hi]
  · rw [if_neg h, if_neg (by omega)]
theorem upd_iL (m : Int → Int) {i : Int} (v : Int) (hi : 0 ≤ i) : vp_updL (fun j : Nat => iL (m j)) i.toNat (iL v) = fun j : Nat => iL (upR m i v j) := by
  funext j
  unfold vp_updL upR
  by_cases h : j = i.toNat
  · subst h
    simp [toNat_i hi]
  · rw [if_neg h, if_neg (by omega)]

theorem g_iald {r i : Int} (C : Cx Y X cc nL own d) (hd : decode cc pc = .ok (.iaload, 1)) (hr : kd r = 20) {n : Int} (hn : ln r = n) (hi : 0 ≤ i ∧ i < n) (k : G Y X nL (pc + 1) lv (vI (M r i) :: st) M) : G Y X nL pc lv (vI i :: vR Y r :: st) M := by
  subst hn
  obtain ⟨p, l, e, R, s, m, args, below, meth, c, Q, cl, sl⟩ := X
  intro H locs ls hl hP hS
  obtain ⟨r0, r1, r2⟩ := kd_in hr (by omega)
  obtain ⟨i1, i2, i3⟩ := ln_in hi
  have e1 := ws_get (Y := Y) (M := M) r1
  rw [cel_i r2, toNat_i r0] at e1
  refine va_iald C.1 C.2.1 C.2.2.2.2.2.1.1 hP r.toNat 0 e1 rfl i1 hd ?_
  rw [i2, toNat_i hi.1]
  exact k H locs ls hl hP hS

theorem g_zald {r i : Int} (C : Cx Y X cc nL own d) (hd : decode cc pc = .ok (.baload, 1)) (hr : kd r = 22) {n : Int} (hn : ln r = n) (hi : 0 ≤ i ∧ i < n) (k : G Y X nL (pc + 1) lv (vI (M r i) :: st) M) : G Y X nL pc lv (vI i :: vR Y r :: st) M := by
  subst hn
  obtain ⟨p, l, e, R, s, m, args, below, meth, c, Q, cl, sl⟩ := X
  intro H locs ls hl hP hS
  obtain ⟨r0, r1, r2⟩ := kd_in hr (by omega)
  obtain ⟨i1, i2, i3⟩ := ln_in hi
  have e1 := ws_get (Y := Y) (M := M) r1
  rw [cel_z r2, toNat_i r0] at e1
  refine va_zald C.1 C.2.1 C.2.2.2.2.2.1.1 hP r.toNat 2 e1 rfl i1 hd ?_
  rw [i2, toNat_i hi.1]
  exact k H locs ls hl hP hS

theorem g_lald {r i : Int} (C : Cx Y X cc nL own d) (hd : decode cc pc = .ok (.laload, 1)) (hr : kd r = 21) {n : Int} (hn : ln r = n) (hi : 0 ≤ i ∧ i < n) (k : G Y X nL (pc + 1) lv (vL (M r i) :: st) M) : G Y X nL pc lv (vI i :: vR Y r :: st) M := by
  subst hn
  obtain ⟨p, l, e, R, s, m, args, below, meth, c, Q, cl, sl⟩ := X
  intro H locs ls hl hP hS
  obtain ⟨r0, r1, r2⟩ := kd_in hr (by omega)
  obtain ⟨i1, i2, i3⟩ := ln_in hi
  have e1 := ws_get (Y := Y) (M := M) r1
  rw [cel_l r2, toNat_i r0] at e1
  refine va_lald C.1 C.2.1 C.2.2.2.2.2.1.1 hP r.toNat 1 e1 rfl i1 hd ?_
  rw [i2, toNat_i hi.1]
  exact k H locs ls hl hP hS

theorem g_iast {r i v : Int} (C : Cx Y X cc nL own d) (hd : decode cc pc = .ok (.iastore, 1)) (hr : kd r = 20) {n : Int} (hn : ln r = n) (hi : 0 ≤ i ∧ i < n)  {M1 : Mem} (e1 : M1 = up M r i v) (k : G Y X nL (pc + 1) lv st M1) : G Y X nL pc lv (vI v :: vI i :: vR Y r :: st) M := by
  subst e1
  subst hn
  obtain ⟨p, l, e, R, s, m, args, below, meth, c, Q, cl, sl⟩ := X
  intro H locs ls hl hP hS
  obtain ⟨r0, r1, r2⟩ := kd_in hr (by omega)
  obtain ⟨i1, i2, i3⟩ := ln_in hi
  have e1 := ws_get (Y := Y) (M := M) r1
  rw [cel_i r2, toNat_i r0] at e1
  refine va_iast C.1 C.2.1 C.2.2.2.2.2.1.1 hP (ws_D C.2.2.2.2.2.2.1) hS r.toNat 0 e1 rfl i1 hd (fun H1 locs1 hP1 _ hS1 => ?_)
  refine k H1 locs1 ls hl ?_ hS1
  rw [i2, upd_iI (M r) v hi.1, ws_set (M' := up M r i v) r1 (by rw [cel_i r2, toNat_i r0, up_row]) (fun b hb => up_ne M (by omega))] at hP1
  exact hP1

theorem g_zast {r i v : Int} (C : Cx Y X cc nL own d) (hd : decode cc pc = .ok (.bastore, 1)) (hr : kd r = 22) {n : Int} (hn : ln r = n) (hi : 0 ≤ i ∧ i < n) (hv : v = 0 ∨ v = 1) {M1 : Mem} (e1 : M1 = up M r i v) (k : G Y X nL (pc + 1) lv st M1) : G Y X nL pc lv (vI v :: vI i :: vR Y r :: st) M := by
  subst e1
  subst hn
  obtain ⟨p, l, e, R, s, m, args, below, meth, c, Q, cl, sl⟩ := X
  intro H locs ls hl hP hS
  obtain ⟨r0, r1, r2⟩ := kd_in hr (by omega)
  obtain ⟨i1, i2, i3⟩ := ln_in hi
  have e1 := ws_get (Y := Y) (M := M) r1
  rw [cel_z r2, toNat_i r0] at e1
  refine va_zast C.1 C.2.1 C.2.2.2.2.2.1.1 hP (ws_D C.2.2.2.2.2.2.1) hS r.toNat 2 e1 rfl i1 hd (fun H1 locs1 hP1 _ hS1 => ?_)
  refine k H1 locs1 ls hl ?_ hS1
  rw [i2, show vp_nar .boolean (iI v) = iI v by rcases hv with rfl | rfl <;> decide +kernel, upd_iI (M r) v hi.1, ws_set (M' := up M r i v) r1 (by rw [cel_z r2, toNat_i r0, up_row]) (fun b hb => up_ne M (by omega))] at hP1
  exact hP1

theorem g_last {r i v : Int} (C : Cx Y X cc nL own d) (hd : decode cc pc = .ok (.lastore, 1)) (hr : kd r = 21) {n : Int} (hn : ln r = n) (hi : 0 ≤ i ∧ i < n)  {M1 : Mem} (e1 : M1 = up M r i v) (k : G Y X nL (pc + 1) lv st M1) : G Y X nL pc lv (vL v :: vI i :: vR Y r :: st) M := by
  subst e1
  subst hn
  obtain ⟨p, l, e, R, s, m, args, below, meth, c, Q, cl, sl⟩ := X
  intro H locs ls hl hP hS
  obtain ⟨r0, r1, r2⟩ := kd_in hr (by omega)
  obtain ⟨i1, i2, i3⟩ := ln_in hi
  have e1 := ws_get (Y := Y) (M := M) r1
  rw [cel_l r2, toNat_i r0] at e1
  refine va_last C.1 C.2.1 C.2.2.2.2.2.1.1 hP (ws_D C.2.2.2.2.2.2.1) hS r.toNat 1 e1 rfl i1 hd (fun H1 locs1 hP1 _ hS1 => ?_)
  refine k H1 locs1 ls hl ?_ hS1
  rw [i2, upd_iL (M r) v hi.1, ws_set (M' := up M r i v) r1 (by rw [cel_l r2, toNat_i r0, up_row]) (fun b hb => up_ne M (by omega))] at hP1
  exact hP1

theorem cel_s {Y : YT} {a : Nat} {m : Int → Int} (h : kdN a = 23) : cel Y a m = .inl (Y.2.1 23, lnN a, .inr (.inr (.inr (.inr fun j => some (Y.2.2.1 (a + 2 + 6 * j)))))) := by
  unfold cel
  rw [h]
  rfl
theorem g_sald {r i : Int} (C : Cx Y X cc nL own d) (hd : decode cc pc = .ok (.aaload, 1)) (hr : kd r = 23) {n : Int} (hn : ln r = n) (hi : 0 ≤ i ∧ i < n) (k : G Y X nL (pc + 1) lv (vR Y (r + 2 + 6 * i) :: st) M) : G Y X nL pc lv (vI i :: vR Y r :: st) M := by
  subst hn
  obtain ⟨p, l, e, R, s, m, args, below, meth, c, Q, cl, sl⟩ := X
  intro H locs ls hl hP hS
  obtain ⟨r0, r1, r2⟩ := kd_in hr (by omega)
  obtain ⟨i1, i2, i3⟩ := ln_in hi
  have e1 := ws_get (Y := Y) (M := M) r1
  rw [cel_s r2] at e1
  refine va_aldq C.1 C.2.1 C.2.2.2.2.2.1.1 hP r.toNat 3 e1 rfl i1 hd ?_
  rw [i2]
  have h := k H locs ls hl hP hS
  have e3 : vR Y (r + 2 + 6 * i) = .ref (Y.2.2.1 (r.toNat + 2 + 6 * i.toNat)) := by
    show Value.ref (Y.2.2.1 (r + 2 + 6 * i).toNat) = _
    rw [show (r + 2 + 6 * i).toNat = r.toNat + 2 + 6 * i.toNat by omega]
  rw [e3] at h
  exact h
theorem cel_g {Y : YT} {a : Nat} {m : Int → Int} (h : kdN a = 24) : cel Y a m = .inl (Y.2.1 24, lnN a, .inr (.inr (.inr (.inr fun j => some (Y.2.2.1 (a + 1 + j)))))) := by
  unfold cel
  rw [h]
  rfl
theorem g_gald {r i : Int} (C : Cx Y X cc nL own d) (hd : decode cc pc = .ok (.aaload, 1)) (hr : kd r = 24) {n : Int} (hn : ln r = n) (hi : 0 ≤ i ∧ i < n) (k : G Y X nL (pc + 1) lv (vR Y (r + 1 + i) :: st) M) : G Y X nL pc lv (vI i :: vR Y r :: st) M := by
  subst hn
  obtain ⟨p, l, e, R, s, m, args, below, meth, c, Q, cl, sl⟩ := X
  intro H locs ls hl hP hS
  obtain ⟨r0, r1, r2⟩ := kd_in hr (by omega)
  obtain ⟨i1, i2, i3⟩ := ln_in hi
  have e1 := ws_get (Y := Y) (M := M) r1
  rw [cel_g r2] at e1
  have h := k H locs ls hl hP hS
  have e3 : vR Y (r + 1 + i) = .ref (Y.2.2.1 (r.toNat + 1 + i.toNat)) := by
    show Value.ref (Y.2.2.1 (r + 1 + i).toNat) = _
    rw [show (r + 1 + i).toNat = r.toNat + 1 + i.toNat by omega]
  rw [e3, ← i2] at h
  have hlt : (iI i).toNatClampNeg < lnN r.toNat := Nat.not_le.mp fun q => i1 (Or.inr q)
  exact W.aald (v := va_rf (some (Y.2.2.1 (r.toNat + 1 + (iI i).toNatClampNeg)))) (ty := .array .int) C.1 C.2.1 (hP r.toNat _ e1) ((C.2.2.2.2.2.1.1.2 4 _ rfl).1 (lnN r.toNat) (fun j => va_rf (some (Y.2.2.1 (r.toNat + 1 + j))))) rfl (fun q => by cases q) (by show ¬ (iI i < 0 ∨ (arrV _ _ _).slots.size ≤ _); rw [arrV_size]; exact i1) (by show (arrV _ _ _).slots[_]? = _; rw [arrV_read _ _ hlt]) rfl rfl hd h
theorem g_len {r : Int} (C : Cx Y X cc nL own d) (hd : decode cc pc = .ok (.arraylength, 1)) (hr : kd r = 20) (k : G Y X nL (pc + 1) lv (vI (ln r) :: st) M) : G Y X nL pc lv (vR Y r :: st) M := by
  obtain ⟨p, l, e, R, s, m, args, below, meth, c, Q, cl, sl⟩ := X
  intro H locs ls hl hP hS
  obtain ⟨r0, r1, r2⟩ := kd_in hr (by omega)
  have e1 := ws_get (Y := Y) (M := M) r1
  rw [cel_i r2, toNat_i r0] at e1
  exact va_alen C.1 C.2.1 C.2.2.2.2.2.1.1 hP r.toNat 0 e1 rfl (v := iI (ln r)) (by unfold iI ln; exact (Int32.ofInt_eq_ofNat).symm) hd (k H locs ls hl hP hS)
end RW

