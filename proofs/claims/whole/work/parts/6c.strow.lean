/-! constructors: the text of the own names, read by the class's own code and the JDK's -/
def ownTx : String := "place road  to    personat    kind  watch frame stays goes  rain  step  day   here  shown there far   if    or    and   not   all   min   max   "
def ownB : List Int32 := [112, 108, 97, 99, 101, 32, 114, 111, 97, 100, 32, 32, 116, 111, 32, 32, 32, 32, 112, 101, 114, 115, 111, 110, 97, 116, 32, 32, 32, 32, 107, 105, 110, 100, 32, 32, 119, 97, 116, 99, 104, 32, 102, 114, 97, 109, 101, 32, 115, 116, 97, 121, 115, 32, 103, 111, 101, 115, 32, 32, 114, 97, 105, 110, 32, 32, 115, 116, 101, 112, 32, 32, 100, 97, 121, 32, 32, 32, 104, 101, 114, 101, 32, 32, 115, 104, 111, 119, 110, 32, 116, 104, 101, 114, 101, 32, 102, 97, 114, 32, 32, 32, 105, 102, 32, 32, 32, 32, 111, 114, 32, 32, 32, 32, 97, 110, 100, 32, 32, 32, 110, 111, 116, 32, 32, 32, 97, 108, 108, 32, 32, 32, 109, 105, 110, 32, 32, 32, 109, 97, 120, 32, 32, 32]
def oc (i : Nat) : Int := (ownB.getD i 0).toInt
/-- a reference or null, by a number -/
def fz : Nat → Value
  | 0 => .null
  | k + 1 => .ref k
/-- the text's cells, and two statics of the JDK: g = the String, its bytes, the formatter -/
def SP (g : Nat × Nat × Nat) (A : Nat → Prop) (U : State) (H : Heap) : Prop := vk_S 1 [144] [ownB] (fun _ => g.1) (fun _ => g.2.1) A U H ∧ va_Z "java/lang/String" "COMPACT_STRINGS" "Z" (.int 1) A U H ∧ va_Z "jdk/internal/util/Preconditions" "SIOOBE_FORMATTER" "Ljava/util/function/BiFunction;" (fz g.2.2) A U H ∧ vk_R RX7 26 ownTx g.1 U
theorem SP.same {g : Nat × Nat × Nat} {A : Nat → Prop} {u U : State} {H : Heap} (hv : U.vm = u.vm) (h : SP g A u H) : SP g A U H := ⟨vk_S.moved (by rw [hv]; exact Vm.Alike.refl _) h.1, va_Z.moved (by rw [hv]; exact Vm.Alike.refl _) h.2.1, va_Z.moved (by rw [hv]; exact Vm.Alike.refl _) h.2.2.1, vk_R.same hv h.2.2.2⟩
theorem SP.warm {g : Nat × Nat × Nat} {A : Nat → Prop} {s U : State} {H : Heap} (hW : s.WarmedH U.vm) (h : SP g A s H) : SP g A U H := ⟨vk_S.moved hW.alike h.1, va_Z.moved hW.alike h.2.1, va_Z.moved hW.alike h.2.2.1, vk_R.warm hW h.2.2.2⟩
theorem SP.kept {g : Nat × Nat × Nat} {A : Nat → Prop} {U : State} {H H1 : Heap} (h : SP g A U H) (hq : ∀ a : Nat, a < H.size → ¬ A a → H1[a]? = H[a]?) : SP g A U H1 := ⟨h.1.kept hq, h.2.1.kept hq, h.2.2.1.kept hq, h.2.2.2⟩
theorem SP.narrow {g : Nat × Nat × Nat} {A B : Nat → Prop} {U : State} {H : Heap} (h : SP g A U H) (hAB : ∀ q, B q → A q) : SP g B U H := ⟨h.1.narrow hAB, h.2.1.narrow hAB, h.2.2.1.narrow hAB, h.2.2.2⟩
def Sp (Y : YT) (X : CX) (g : Nat × Nat × Nat) : Prop := match X with
  | (_, _, _, _, s, _, _, _, _, _, _, _, _) => SP g Y.2.2.2 s s.heap
def PT0 (Y : YT) (vs : List Value) (g : Nat × Nat × Nat) (sz : Nat) : Array Value → State → Prop := va_Pc vs (fun U => U.heap.size = sz ∧ KC Y U ∧ SP g (va_A [] sz) U U.heap)
theorem blindT {Y : YT} {vs : List Value} {g : Nat × Nat × Nat} {sz : Nat} : FrameBlind (PT0 Y vs g sz) := fun a U f mk h => ⟨h.1, h.2.1, KC.same (u := U) (U := U.calling f mk a) rfl h.2.2.1, SP.same (u := U) (U := U.calling f mk a) rfl h.2.2.2⟩
def Qti (r : Int) (A : Nat → Prop) : Array Value → State → Outcome → State → Prop := va_Qi (S := Unit) (fun x _ => x = iI r) (fun _ _ => True) A
def Qtv (A : Nat → Prop) : Array Value → State → Outcome → State → Prop := va_Qv (S := Unit) (fun _ => True) (fun _ _ => True) A
/-- a contract of a method that reads the text and writes nothing -/
def CtrT (l : Launch) (Y : YT) (y : MethodName) (cc : ByteArray) (nL : Nat) (ret : Option FieldType) (d : Nat) (vs : List Value) (g : Nat × Nat × Nat) (Qc : (Nat → Prop) → Array Value → State → Outcome → State → Prop) : Prop := ∀ sz, Met l y (Cond.code y cc nL ret :: GT) (rk d 0 0) (PT0 Y vs g sz) (Qc (va_A [] sz)) 0 0 (va_A [] sz)
def RT (Y : YT) (X : CX) (ret : Option FieldType) (Qc : (Nat → Prop) → Array Value → State → Outcome → State → Prop) : Prop := match X with
  | (_, _, _, _, s, _, args, below, meth, _, Q, _, _) => meth.sig.returnType = ret ∧ Q = MQ below (Qc Y.2.2.2) args s 0 0 Y.2.2.2
theorem p_nil {D : va_G} {H : Heap} : va_P D classes [] H := fun k q h => by simp at h
theorem d_nil {A : Nat → Prop} : va_D A [] := ⟨fun i j p q h => by simp at h, fun k q h => by simp at h⟩
theorem va_nil {sz q : Nat} (h : va_A [] sz q) : sz ≤ q := by
  rcases h with ⟨k, e, h⟩ | h
  · simp at h
  · exact h
theorem ctrt_of {l : Launch} {Y : YT} {y : MethodName} {cc : ByteArray} {nL d : Nat} {ret : Option FieldType} {vs : List Value} {g : Nat × Nat × Nat} {Qc : (Nat → Prop) → Array Value → State → Outcome → State → Prop} (hy : plainName y.cls = true) (hn : (lg_sl vs).length ≤ nL) (lv : List (Nat × Value)) (hlv : lv_args 0 vs = lv)
    (body : ∀ (A : Nat → Prop) (X : CX), X.2.1 = l → Cn (Y.1, Y.2.1, Y.2.2.1, A) X cc nL y.cls d 0 0 → Sp (Y.1, Y.2.1, Y.2.2.1, A) X g → RT (Y.1, Y.2.1, Y.2.2.1, A) X ret Qc → KG (Y.1, Y.2.1, Y.2.2.1, A) X nL 0 lv [] [] 0 0) : CtrT l Y y cc nL ret d vs g Qc := by
  intro sz
  refine Met.ofW (cc := cc) (maxL := nL) (ret := ret) hy rfl ?_
  intro p e s m args below meth c s₁ B0 hml hv
  obtain ⟨rfl, rfl, hK, hSP⟩ := hv
  have hts := atoms_spec (ws := Cond.code y cc nL ret :: GT) B0.pre
  have hl := lv_entry vs (n := nL) hn
  rw [hlv] at hl
  rw [lg_entry_eq]
  exact body (va_A [] s.heap.size) (p, l, e, rk d 0 0, s, m, vs.toArray, below, meth, c, MQ below (Qc (va_A [] s.heap.size)) vs.toArray s 0 0 (va_A [] s.heap.size), 0, 0) rfl ⟨B0.exec, B0.bytes, hml, findClass_of_methodNamed B0.named, fun w h => hts w (List.mem_cons_of_mem _ h), hK, fun q h => Or.inr h, Nat.le_refl _, Nat.le_refl _, Nat.le_refl _, Nat.le_refl _, B0.notSynchronized⟩ hSP ⟨B0.returns, rfl⟩ s.heap [] _ hl p_nil d_nil va_S.rf
section RK
variable {Y : YT} {X : CX} {cc : ByteArray} {nL pc d mc ms k n : Nat} {own : String} {lv lv' : List (Nat × Value)} {st st0 : List Value} {ws ws' rest : va_W} {g : Nat × Nat × Nat}
theorem k_sub (ks : List Nat) (h : lv_pick lv ks = lv') (kk : KG Y X nL pc lv' st ws k n) : KG Y X nL pc lv st ws k n := by
  obtain ⟨p, l, e, R, s, m, args, below, meth, c, Q, cl, sl⟩ := X
  intro H locs ls hl hP hD hS
  exact kk H locs ls (lv_sub hl ks h) hP hD hS
theorem k_iadd {x y z : Int} (C : Cn Y X cc nL own d mc ms) (hd : decode cc pc = .ok (.iadd, 1)) (hz : x + y = z) (kk : KG Y X nL (pc + 1) lv (vI z :: st) ws k n) : KG Y X nL pc lv (vI y :: vI x :: st) ws k n := by
  obtain ⟨p, l, e, R, s, m, args, below, meth, c, Q, cl, sl⟩ := X
  intro H locs ls hl hP hD hS
  subst hz
  refine lv_iadd C.1 C.2.1 hd ?_
  rw [iI_add]
  exact kk H locs ls hl hP hD hS
theorem k_isub {x y z : Int} (C : Cn Y X cc nL own d mc ms) (hd : decode cc pc = .ok (.isub, 1)) (hz : x - y = z) (kk : KG Y X nL (pc + 1) lv (vI z :: st) ws k n) : KG Y X nL pc lv (vI y :: vI x :: st) ws k n := by
  obtain ⟨p, l, e, R, s, m, args, below, meth, c, Q, cl, sl⟩ := X
  intro H locs ls hl hP hD hS
  subst hz
  refine lv_isub C.1 C.2.1 hd ?_
  rw [iI_sub]
  exact kk H locs ls hl hP hD hS
theorem k_imul {x y z : Int} (C : Cn Y X cc nL own d mc ms) (hd : decode cc pc = .ok (.imul, 1)) (hz : x * y = z) (kk : KG Y X nL (pc + 1) lv (vI z :: st) ws k n) : KG Y X nL pc lv (vI y :: vI x :: st) ws k n := by
  obtain ⟨p, l, e, R, s, m, args, below, meth, c, Q, cl, sl⟩ := X
  intro H locs ls hl hP hD hS
  subst hz
  refine lv_imul C.1 C.2.1 hd ?_
  rw [iI_mul]
  exact kk H locs ls hl hP hD hS
theorem k_iand {x y z : Int} (C : Cn Y X cc nL own d mc ms) (hd : decode cc pc = .ok (.iand, 1)) (hz : zand x y = z) (kk : KG Y X nL (pc + 1) lv (vI z :: st) ws k n) : KG Y X nL pc lv (vI y :: vI x :: st) ws k n := by
  obtain ⟨p, l, e, R, s, m, args, below, meth, c, Q, cl, sl⟩ := X
  intro H locs ls hl hP hD hS
  subst hz
  refine lv_iand C.1 C.2.1 hd ?_
  rw [iI_and]
  exact kk H locs ls hl hP hD hS
theorem k_ior {x y z : Int} (C : Cn Y X cc nL own d mc ms) (hd : decode cc pc = .ok (.ior, 1)) (hz : zor x y = z) (kk : KG Y X nL (pc + 1) lv (vI z :: st) ws k n) : KG Y X nL pc lv (vI y :: vI x :: st) ws k n := by
  obtain ⟨p, l, e, R, s, m, args, below, meth, c, Q, cl, sl⟩ := X
  intro H locs ls hl hP hD hS
  subst hz
  refine lv_ior C.1 C.2.1 hd ?_
  rw [iI_or]
  exact kk H locs ls hl hP hD hS
theorem k_ishl {x y z : Int} (C : Cn Y X cc nL own d mc ms) (hd : decode cc pc = .ok (.ishl, 1)) (hz : zshl x y = z) (kk : KG Y X nL (pc + 1) lv (vI z :: st) ws k n) : KG Y X nL pc lv (vI y :: vI x :: st) ws k n := by
  obtain ⟨p, l, e, R, s, m, args, below, meth, c, Q, cl, sl⟩ := X
  intro H locs ls hl hP hD hS
  subst hz
  refine lv_ishl C.1 C.2.1 hd ?_
  rw [iI_shl]
  exact kk H locs ls hl hP hD hS
theorem k_if_eq {x off : Int} {tgt : Nat} (C : Cn Y X cc nL own d mc ms) (hd : decode cc pc = .ok (.ifCond .eq off, 3)) (ht : (pc : Int) + off = (tgt : Int)) (hx : inI x) (kt : x = 0 → KG Y X nL tgt lv st ws k n) (kf : ¬ x = 0 → KG Y X nL (pc + 3) lv st ws k n) : KG Y X nL pc lv (vI x :: st) ws k n := by
  obtain ⟨p, l, e, R, s, m, args, below, meth, c, Q, cl, sl⟩ := X
  intro H locs ls hl hP hD hS
  exact lv_if_eq C.1 C.2.1 hd ht (fun q => kt ((iI_inj hx inI_0).mp q) H locs ls hl hP hD hS) (fun q => kf (fun z => q ((iI_inj hx inI_0).mpr z)) H locs ls hl hP hD hS)
theorem k_if_ne {x off : Int} {tgt : Nat} (C : Cn Y X cc nL own d mc ms) (hd : decode cc pc = .ok (.ifCond .ne off, 3)) (ht : (pc : Int) + off = (tgt : Int)) (hx : inI x) (kt : ¬ x = 0 → KG Y X nL tgt lv st ws k n) (kf : x = 0 → KG Y X nL (pc + 3) lv st ws k n) : KG Y X nL pc lv (vI x :: st) ws k n := by
  obtain ⟨p, l, e, R, s, m, args, below, meth, c, Q, cl, sl⟩ := X
  intro H locs ls hl hP hD hS
  exact lv_if_ne C.1 C.2.1 hd ht (fun q => kt (fun z => q ((iI_inj hx inI_0).mpr z)) H locs ls hl hP hD hS) (fun q => kf ((iI_inj hx inI_0).mp q) H locs ls hl hP hD hS)
theorem k_if_lt {x off : Int} {tgt : Nat} (C : Cn Y X cc nL own d mc ms) (hd : decode cc pc = .ok (.ifCond .lt off, 3)) (ht : (pc : Int) + off = (tgt : Int)) (hx : inI x) (kt : x < 0 → KG Y X nL tgt lv st ws k n) (kf : ¬ x < 0 → KG Y X nL (pc + 3) lv st ws k n) : KG Y X nL pc lv (vI x :: st) ws k n := by
  obtain ⟨p, l, e, R, s, m, args, below, meth, c, Q, cl, sl⟩ := X
  intro H locs ls hl hP hD hS
  exact lv_if_lt C.1 C.2.1 hd ht (fun q => kt ((iI_lt hx inI_0).mp q) H locs ls hl hP hD hS) (fun q => kf (fun z => q ((iI_lt hx inI_0).mpr z)) H locs ls hl hP hD hS)
theorem k_ne {x y off : Int} {tgt : Nat} (C : Cn Y X cc nL own d mc ms) (hd : decode cc pc = .ok (.if_icmp .ne off, 3)) (ht : (pc : Int) + off = (tgt : Int)) (hx : inI x) (hy : inI y) (kt : ¬ x = y → KG Y X nL tgt lv st ws k n) (kf : x = y → KG Y X nL (pc + 3) lv st ws k n) : KG Y X nL pc lv (vI y :: vI x :: st) ws k n := by
  obtain ⟨p, l, e, R, s, m, args, below, meth, c, Q, cl, sl⟩ := X
  intro H locs ls hl hP hD hS
  exact lv_icmp_ne C.1 C.2.1 hd ht (fun q => kt (fun z => q ((iI_inj hx hy).mpr z)) H locs ls hl hP hD hS) (fun q => kf ((iI_inj hx hy).mp q) H locs ls hl hP hD hS)
theorem k_lt {x y off : Int} {tgt : Nat} (C : Cn Y X cc nL own d mc ms) (hd : decode cc pc = .ok (.if_icmp .lt off, 3)) (ht : (pc : Int) + off = (tgt : Int)) (hx : inI x) (hy : inI y) (kt : x < y → KG Y X nL tgt lv st ws k n) (kf : ¬ x < y → KG Y X nL (pc + 3) lv st ws k n) : KG Y X nL pc lv (vI y :: vI x :: st) ws k n := by
  obtain ⟨p, l, e, R, s, m, args, below, meth, c, Q, cl, sl⟩ := X
  intro H locs ls hl hP hD hS
  exact lv_icmp_lt C.1 C.2.1 hd ht (fun q => kt ((iI_lt hx hy).mp q) H locs ls hl hP hD hS) (fun q => kf (fun z => q ((iI_lt hx hy).mpr z)) H locs ls hl hP hD hS)
theorem k_pop {v : Value} (C : Cn Y X cc nL own d mc ms) (hd : decode cc pc = .ok (.pop, 1)) (hv : v.category = 1) (kk : KG Y X nL (pc + 1) lv st ws k n) : KG Y X nL pc lv (v :: st) ws k n := by
  obtain ⟨p, l, e, R, s, m, args, below, meth, c, Q, cl, sl⟩ := X
  intro H locs ls hl hP hD hS
  exact lv_pop C.1 C.2.1 hd hv (kk H locs ls hl hP hD hS)
theorem k_i2c {x v : Int} (C : Cn Y X cc nL own d mc ms) (hd : decode cc pc = .ok (.i2c, 1)) (hv : ((iI x).toUInt32 % 65536).toInt32 = iI v) (kk : KG Y X nL (pc + 1) lv (vI v :: st) ws k n) : KG Y X nL pc lv (vI x :: st) ws k n := by
  obtain ⟨p, l, e, R, s, m, args, below, meth, c, Q, cl, sl⟩ := X
  intro H locs ls hl hP hD hS
  exact lv_i2c C.1 C.2.1 hd hv (kk H locs ls hl hP hD hS)
theorem k_reti {v : Int} (C : Cn Y X cc nL own d mc ms) (hR : RT Y X (some .int) (Qti v)) (hd : decode cc pc = .ok (.ireturn, 1)) : KG Y X nL pc lv [vI v] ws 0 0 := by
  obtain ⟨p, l, e, R, s, m, args, below, meth, c, Q, cl, sl⟩ := X
  intro H locs ls hl hP hD hS
  obtain ⟨r1, rfl⟩ := hR
  exact W.iret C.1 C.2.1 r1 (fun t ht hW => ⟨⟨iI v, (), rfl, rfl, trivial⟩, hS.F ht⟩) hS.2.2 hd C.2.2.2.2.2.2.2.2.2.2.2
theorem k_retn {v : Int} {ty : FieldType} (C : Cn Y X cc nL own d mc ms) (hR : RT Y X (some ty) (Qti v)) (hd : decode cc pc = .ok (.ireturn, 1)) (hn : narrow ty (.int (iI v)) = .int (iI v)) : KG Y X nL pc lv [vI v] ws 0 0 := by
  obtain ⟨p, l, e, R, s, m, args, below, meth, c, Q, cl, sl⟩ := X
  intro H locs ls hl hP hD hS
  obtain ⟨r1, rfl⟩ := hR
  exact W.zret C.1 C.2.1 r1 hn (fun t ht hW => ⟨⟨iI v, (), rfl, rfl, trivial⟩, hS.F ht⟩) hS.2.2 hd C.2.2.2.2.2.2.2.2.2.2.2
theorem k_rett (C : Cn Y X cc nL own d mc ms) (hR : RT Y X none Qtv) (hd : decode cc pc = .ok (.return_, 1)) : KG Y X nL pc lv [] ws 0 0 := by
  obtain ⟨p, l, e, R, s, m, args, below, meth, c, Q, cl, sl⟩ := X
  intro H locs ls hl hP hD hS
  obtain ⟨r1, rfl⟩ := hR
  exact W.vret C.1 C.2.1 r1 (fun t ht hW => ⟨⟨(), rfl, trivial, trivial⟩, hS.F ht⟩) hS.2.2 hd C.2.2.2.2.2.2.2.2.2.2.2
theorem k_cst {i : Nat} (C : Cn Y X cc nL own d mc ms) (hs : Sp Y X g) (hw : Cond.fieldLink own i "java/lang/String" "COMPACT_STRINGS" "Z" ∈ GT) (hd : decode cc pc = .ok (.getstatic i, 3)) (kk : KG Y X nL (pc + 3) lv (vI 1 :: st) ws k n) : KG Y X nL pc lv st ws k n := by
  obtain ⟨p, l, e, R, s, m, args, below, meth, c, Q, cl, sl⟩ := X
  intro H locs ls hl hP hD hS
  exact va_gets C.1 C.2.1 hs.2.1 hS C.2.2.2.1 (C.2.2.2.2.1 _ hw) (fun _ h => h) hd (kk H locs ls hl hP hD hS)
theorem k_frm {i : Nat} (C : Cn Y X cc nL own d mc ms) (hs : Sp Y X g) (hw : Cond.fieldLink own i "jdk/internal/util/Preconditions" "SIOOBE_FORMATTER" "Ljava/util/function/BiFunction;" ∈ GT) (hd : decode cc pc = .ok (.getstatic i, 3)) (kk : KG Y X nL (pc + 3) lv (fz g.2.2 :: st) ws k n) : KG Y X nL pc lv st ws k n := by
  obtain ⟨p, l, e, R, s, m, args, below, meth, c, Q, cl, sl⟩ := X
  intro H locs ls hl hP hD hS
  exact va_gets C.1 C.2.1 hs.2.2.1 hS C.2.2.2.1 (C.2.2.2.2.1 _ hw) (fun _ h => h) hd (kk H locs ls hl hP hD hS)
theorem k_cod {i : Nat} (C : Cn Y X cc nL own d mc ms) (hs : Sp Y X g) (hw : Cond.fieldLink own i "java/lang/String" "coder" "B" ∈ GT) (hd : decode cc pc = .ok (.getfield i, 3)) (kk : KG Y X nL (pc + 3) lv (vI 0 :: st) ws k n) : KG Y X nL pc lv (.ref g.1 :: st) ws k n := by
  obtain ⟨p, l, e, R, s, m, args, below, meth, c, Q, cl, sl⟩ := X
  intro H locs ls hl hP hD hS
  exact vk_getf C.1 C.2.1 (hs.1.1 0 (by decide)).2.1 hS C.2.2.2.1 (C.2.2.2.2.1 _ hw) (fun _ h => h) hd (kk H locs ls hl hP hD hS)
theorem k_val {i : Nat} (C : Cn Y X cc nL own d mc ms) (hs : Sp Y X g) (hw : Cond.fieldLink own i "java/lang/String" "value" "[B" ∈ GT) (hd : decode cc pc = .ok (.getfield i, 3)) (kk : KG Y X nL (pc + 3) lv (.ref g.2.1 :: st) ws k n) : KG Y X nL pc lv (.ref g.1 :: st) ws k n := by
  obtain ⟨p, l, e, R, s, m, args, below, meth, c, Q, cl, sl⟩ := X
  intro H locs ls hl hP hD hS
  exact vk_getf C.1 C.2.1 (hs.1.1 0 (by decide)).2.2.1 hS C.2.2.2.1 (C.2.2.2.2.1 _ hw) (fun _ h => h) hd (kk H locs ls hl hP hD hS)
theorem k_len (C : Cn Y X cc nL own d mc ms) (hs : Sp Y X g) (hd : decode cc pc = .ok (.arraylength, 1)) (kk : KG Y X nL (pc + 1) lv (vI 144 :: st) ws k n) : KG Y X nL pc lv (.ref g.2.1 :: st) ws k n := by
  obtain ⟨p, l, e, R, s, m, args, below, meth, c, Q, cl, sl⟩ := X
  intro H locs ls hl hP hD hS
  exact va_tlen C.1 C.2.1 (hs.1.1 0 (by decide)).2.2.2 hS (v := iI 144) (by decide +kernel) hd (kk H locs ls hl hP hD hS)
theorem k_tb {i : Nat} (C : Cn Y X cc nL own d mc ms) (hs : Sp Y X g) (hi : i < 144) (hd : decode cc pc = .ok (.baload, 1)) (kk : KG Y X nL (pc + 1) lv (vI (oc i) :: st) ws k n) : KG Y X nL pc lv (vI i :: .ref g.2.1 :: st) ws k n := by
  obtain ⟨p, l, e, R, s, m, args, below, meth, c, Q, cl, sl⟩ := X
  intro H locs ls hl hP hD hS
  refine va_tb C.1 C.2.1 (hs.1.1 0 (by decide)).2.2.2 hS (v := vI (oc i)) (iI_in (n := [144].getD 0 0) (by simp; omega) (by decide)) ?_ hd (kk H locs ls hl hP hD hS)
  rw [iI_clamp (by omega) (by omega), Int.toNat_natCast]
  show Value.int (ownB.getD i 0) = .int (iI (oc i))
  rw [oc, iI_of]
theorem k_lds (C : Cn Y X cc nL RX7 d mc ms) (hs : Sp Y X g) (hd : decode cc pc = .ok (.ldc 26, 2)) (kk : KG Y X nL (pc + 2) lv (.ref g.1 :: st) ws k n) : KG Y X nL pc lv st ws k n := by
  obtain ⟨p, l, e, R, s, m, args, below, meth, c, Q, cl, sl⟩ := X
  intro H locs ls hl hP hD hS
  exact va_ldcS C.1 C.2.1 C.2.2.2.1 hs.2.2.2 hd (kk H locs ls hl hP hD hS)
/-- the text is there for a callee that writes nothing -/
theorem sp_at {p : Program} {l : Launch} {e : Env} {R : Room} {s : State} {m : MethodId} {args : Array Value} {below : List Frame} {meth : Method} {c : Code} {Q : State → Prop} {cl sl : Nat} {H : Heap} {locs : List Loc} {U : State} (hs : Sp Y (p, l, e, R, s, m, args, below, meth, c, Q, cl, sl) g) (hY : ∀ q, s.heap.size ≤ q → Y.2.2.2 q) (hS : va_S Y.2.2.2 s.heap H locs) (hU : U.heap = H) (hW : s.WarmedH U.vm) : SP g (va_A [] H.size) U U.heap := by
  rw [hU]
  exact ((SP.kept hs hS.2.1).warm hW).narrow (fun q h => hY q (Nat.le_trans hS.1 (va_nil h)))
theorem p_same {H H1 : Heap} (hP : va_P Y.1 classes ws H) (hkk : ∀ q : Nat, q < H.size → ¬ va_A [] H.size q → H1[q]? = H[q]?) : va_P Y.1 classes ws H1 := hP.kept (fun k q hk => hkk q.1 (hP k q hk).lt (fun z => absurd (va_nil z) (Nat.not_le.mpr (hP k q hk).lt)))
theorem k_cS {i nC dC nA : Nat} {y : MethodName} {cC : ByteArray} {ret : Option FieldType} {As : List Value} {r : Int} (C : Cn Y X cc nL own d mc ms) (hs : Sp Y X g) (hV : Cl own i y cC nC ret nA) (hW : Cond.static y ∈ GT) (hd : decode cc pc = .ok (.invokestatic i, 3)) (hst : As.reverse ++ st = st0) (hcat : (st.map fun v => v.category).sum ≤ 8) (hlen : As.length = nA) (hdep : dC + 1 ≤ d) (hk : k ≤ mc) (hn : n ≤ ms) (hM : CtrT X.2.1 Y y cC nC ret dC As g (Qti r)) (kk : KG Y X nL (pc + 3) lv (vI r :: st) ws k n) : KG Y X nL pc lv st0 ws k n := by
  obtain ⟨p, l, e, R, s, m, args, below, meth, c, Q, cl, sl⟩ := X
  intro H locs ls hl hP hD hS
  obtain ⟨hx, hb, hml, hown, hts, hK, hY, hf, hlo, hc1, hs1, hlk⟩ := C
  obtain ⟨h1, h2, h3, h4, h5⟩ := hV
  have hB : CallB R s args own i y cC nC ret (Cond.code y cC nC ret :: GT) (rk dC 0 0) 0 0 nA := callB_of nA hts (gt_in3 h3) rfl rfl rfl (hts _ h2) (hts _ h1) h5 ⟨by show dC + 1 ≤ _; omega, by show 8 + (nC + 11) + 64 * dC ≤ _; omega⟩
  have hrun := va_runS (p := p) (e := e) (below := below) (meth := meth) (locs := locs) (cells := k) (slots := n) (g := F0 m pc ls st0) (As := As) (rest := st) ⟨hx, hb, hml, hown, hts⟩ (hM H.size) ⟨hB, hts _ hW⟩ ⟨blindT, fun U hU hWm => ⟨rfl, by rw [hU], KC.warm hWm hK, sp_at hs hY hS hU hWm⟩⟩ rfl hlen hl.1 hst.symm (lv_room hcat) hd ⟨Nat.le_trans hk hc1, Nat.le_trans hn hs1⟩
  refine va_calli hrun hS (fun q _ h => hY q (Nat.le_trans hS.1 (va_nil h))) (fun q h => hY q (Nat.le_trans hS.1 (va_nil h))) (fun r9 u t H1 locs1 ht hvm hw hBt hz hkk hS1 => ?_)
  subst hw
  exact kk H1 locs1 ls hl (p_same hP hkk) hD hS1
theorem k_cSv {i nC dC nA : Nat} {y : MethodName} {cC : ByteArray} {As : List Value} (C : Cn Y X cc nL own d mc ms) (hs : Sp Y X g) (hV : Cl own i y cC nC none nA) (hW : Cond.static y ∈ GT) (hd : decode cc pc = .ok (.invokestatic i, 3)) (hst : As.reverse ++ st = st0) (hcat : (st.map fun v => v.category).sum ≤ 8) (hlen : As.length = nA) (hdep : dC + 1 ≤ d) (hk : k ≤ mc) (hn : n ≤ ms) (hM : CtrT X.2.1 Y y cC nC none dC As g Qtv) (kk : KG Y X nL (pc + 3) lv st ws k n) : KG Y X nL pc lv st0 ws k n := by
  obtain ⟨p, l, e, R, s, m, args, below, meth, c, Q, cl, sl⟩ := X
  intro H locs ls hl hP hD hS
  obtain ⟨hx, hb, hml, hown, hts, hK, hY, hf, hlo, hc1, hs1, hlk⟩ := C
  obtain ⟨h1, h2, h3, h4, h5⟩ := hV
  have hB : CallB R s args own i y cC nC none (Cond.code y cC nC none :: GT) (rk dC 0 0) 0 0 nA := callB_of nA hts (gt_in3 h3) rfl rfl rfl (hts _ h2) (hts _ h1) h5 ⟨by show dC + 1 ≤ _; omega, by show 8 + (nC + 11) + 64 * dC ≤ _; omega⟩
  have hrun := va_runS (p := p) (e := e) (below := below) (meth := meth) (locs := locs) (cells := k) (slots := n) (g := F0 m pc ls st0) (As := As) (rest := st) ⟨hx, hb, hml, hown, hts⟩ (hM H.size) ⟨hB, hts _ hW⟩ ⟨blindT, fun U hU hWm => ⟨rfl, by rw [hU], KC.warm hWm hK, sp_at hs hY hS hU hWm⟩⟩ rfl hlen hl.1 hst.symm (lv_room hcat) hd ⟨Nat.le_trans hk hc1, Nat.le_trans hn hs1⟩
  refine va_callv hrun hS (fun q _ h => hY q (Nat.le_trans hS.1 (va_nil h))) (fun q h => hY q (Nat.le_trans hS.1 (va_nil h))) (fun u t H1 locs1 ht hvm hw hBt hz hkk hS1 => ?_)
  exact kk H1 locs1 ls hl (p_same hP hkk) hD hS1
theorem k_cV {i nC dC nA : Nat} {y : MethodName} {cC : ByteArray} {ret : Option FieldType} {As : List Value} {r : Int} (C : Cn Y X cc nL own d mc ms) (hs : Sp Y X g) (hV : Cl own i y cC nC ret nA) (hW1 : Cond.instanceMethod y ∈ GT) (hW2 : Cond.selects "java/lang/String" y y ∈ GT) (hd : decode cc pc = .ok (.invokevirtual i, 3)) (hst : As.reverse ++ .ref g.1 :: st = st0) (hcat : (st.map fun v => v.category).sum ≤ 8) (hlen : As.length = nA) (hdep : dC + 1 ≤ d) (hk : k ≤ mc) (hn : n ≤ ms) (hM : CtrT X.2.1 Y y cC nC ret dC (.ref g.1 :: As) g (Qti r)) (kk : KG Y X nL (pc + 3) lv (vI r :: st) ws k n) : KG Y X nL pc lv st0 ws k n := by
  obtain ⟨p, l, e, R, s, m, args, below, meth, c, Q, cl, sl⟩ := X
  intro H locs ls hl hP hD hS
  obtain ⟨hx, hb, hml, hown, hts, hK, hY, hf, hlo, hc1, hs1, hlk⟩ := C
  obtain ⟨h1, h2, h3, h4, h5⟩ := hV
  have hB : CallB R s args own i y cC nC ret (Cond.code y cC nC ret :: GT) (rk dC 0 0) 0 0 nA := callB_of nA hts (gt_in3 h3) rfl rfl rfl (hts _ h2) (hts _ h1) h5 ⟨by show dC + 1 ≤ _; omega, by show 8 + (nC + 11) + 64 * dC ≤ _; omega⟩
  have hrun := va_runV (p := p) (e := e) (below := below) (meth := meth) (locs := locs) (cells := k) (slots := n) (g := F0 m pc ls st0) (C := "java/lang/String") (b := g.1) (As := As) (rest := st) ⟨hx, hb, hml, hown, hts⟩ (hM H.size) ⟨hB, hts _ hW1, hts _ hW2⟩ ⟨blindT, vk_recv hs.1 (i := 0) (by decide) hS, fun U hU hWm => ⟨rfl, by rw [hU], KC.warm hWm hK, sp_at hs hY hS hU hWm⟩⟩ rfl hlen hl.1 hst.symm (lv_room hcat) hd ⟨Nat.le_trans hk hc1, Nat.le_trans hn hs1⟩
  refine va_calli hrun hS (fun q _ h => hY q (Nat.le_trans hS.1 (va_nil h))) (fun q h => hY q (Nat.le_trans hS.1 (va_nil h))) (fun r9 u t H1 locs1 ht hvm hw hBt hz hkk hS1 => ?_)
  subst hw
  exact kk H1 locs1 ls hl (p_same hP hkk) hD hS1
end RK
