/-! constructors: the judgement over a world that grows -/
def rk (d mc ms : Nat) : Room := { frames := d, cells := mc, slots := ms, locals := 64 * d }
/-- the constructors that are called as private ones of a nest mate -/
def nsW : List (String × Nat × MethodName) := [(RX11, 27, yX8_init), (RX8, 32, yX5_init), (RX8, 39, yX1_init), (RX11, 37, yX6_init), (RX6, 17, yX5_init), (RX11, 47, yX10_init), (RX3, 21, yX6_init), (RX11, 64, yX4_init), (RX11, 71, yX0_init)]
/-- the class of int[][] is over that of int[] -/
def AO2 (Y : YT) (U : State) : Prop := ∃ kA : Class, U.vm.classes[Y.2.1 24]? = some kA ∧ kA.kind = .array (Y.2.1 20) (.array .int)
theorem AO2.moved {Y : YT} {u U : State} (hvm : u.vm.Alike U.vm) (h : AO2 Y u) : AO2 Y U := by
  obtain ⟨kA, h1, h2⟩ := h
  obtain ⟨k', hk', he⟩ := hvm.2.2 _ _ h1
  exact ⟨k', hk', by rw [he]; exact h2⟩
def KN (Y : YT) (U : State) : Prop := (∀ q ∈ nsW, va_Nw (.methodLinkNest q.1 q.2.1 q.2.2 RX11) U) ∧ va_AO RX6 U ∧ AO2 Y U
def KC (Y : YT) (U : State) : Prop := KX Y U ∧ KN Y U
theorem KC.same {Y : YT} {u U : State} (h : u.vm = U.vm) (k : KC Y u) : KC Y U := ⟨k.1.same h, fun q hq => (k.2.1 q hq).same rfl h, k.2.2.1.moved (by rw [h]; exact Vm.Alike.refl _), k.2.2.2.moved (by rw [h]; exact Vm.Alike.refl _)⟩
theorem KC.warm {Y : YT} {s U : State} (h : s.WarmedH U.vm) (k : KC Y s) : KC Y U := ⟨k.1.warm h, fun q hq => va_Nw.warmM h (k.2.1 q hq), k.2.2.1.moved h.alike, k.2.2.2.moved h.alike⟩
def Cn (Y : YT) (X : CX) (cc : ByteArray) (nL : Nat) (own : String) (d mc ms : Nat) : Prop := match X with
  | (p, _, _, R, s, m, args, _, meth, c, _, _, _) => p.tables.exec = Jvm.exec ∧ c.code = cc ∧ c.maxLocals = nL ∧ s.vm.findClass own = some m.cls ∧ (∀ w ∈ GT, w.before args s = true) ∧ KC Y s ∧ (∀ q, s.heap.size ≤ q → Y.2.2.2 q) ∧ d ≤ R.frames ∧ 64 * d ≤ R.locals ∧ mc ≤ R.cells ∧ ms ≤ R.slots ∧ meth.locks = false
def Cm (X : CX) : Prop := match X with
  | (_, _, _, _, _, _, _, _, meth, _, _, _, _) => meth.name = "<init>"
/-- the machine goes on well from pc; the cells are ws, k cells and n slots were made -/
def KG (Y : YT) (X : CX) (nL pc : Nat) (lv : List (Nat × Value)) (st : List Value) (ws : va_W) (k n : Nat) : Prop := match X with
  | (p, l, e, R, s, m, args, below, meth, c, Q, _, _) => ∀ (H : Heap) (locs : List Loc) (ls : Array Slot), lv_has ls nL lv → va_P Y.1 classes ws H → va_D Y.2.2.2 ws → va_S Y.2.2.2 s.heap H locs → W p l e R s m args below meth c H locs k n Q (F0 m pc ls st)
def wC (h0 ci : Nat) (fs : List Value) : va_W := [(h0, .inr (ci, fs))]
def QN {S : Type} (Y : YT) (B : S → va_W) (A : Nat → Prop) : Array Value → State → Outcome → State → Prop := va_Qv (S := S) (fun _ => True) (fun u t => va_P Y.1 classes (B u) t.heap ∧ va_D A (B u)) A
def PN (Y : YT) (vs : List Value) (h0 ci : Nat) (fs : List Value) (sz : Nat) : Array Value → State → Prop := va_Pc vs (fun U => U.heap.size = sz ∧ va_P Y.1 classes (wC h0 ci fs) U.heap ∧ KC Y U ∧ va_D (fun _ => True) (wC h0 ci fs))
theorem blindN {Y : YT} {vs : List Value} {h0 ci sz : Nat} {fs : List Value} : FrameBlind (PN Y vs h0 ci fs sz) := fun a U g mk h => ⟨h.1, h.2.1, h.2.2.1, KC.same (u := U) (U := U.calling g mk a) rfl h.2.2.2.1, h.2.2.2.2⟩
/-- a constructor's contract: from the new cell to the cells B -/
def CtrN {S : Type} (l : Launch) (Y : YT) (y : MethodName) (cc : ByteArray) (nL d mc ms : Nat) (vs : List Value) (h0 ci : Nat) (fs : List Value) (B : S → va_W) : Prop := ∀ sz, Met l y (Cond.code y cc nL none :: GT) (rk d mc ms) (PN Y vs h0 ci fs sz) (QN Y B (va_A (wC h0 ci fs) sz)) mc ms (va_A (wC h0 ci fs) sz)
def Rn {S : Type} (Y : YT) (X : CX) (B : S → va_W) (mc ms : Nat) : Prop := match X with
  | (_, _, _, R, s, _, args, below, meth, _, Q, _, _) => meth.sig.returnType = none ∧ Q = MQ below (QN Y B Y.2.2.2) args s mc ms Y.2.2.2 ∧ R.cells = mc ∧ R.slots = ms
theorem ctrn_of {l : Launch} {Y : YT} {y : MethodName} {cc : ByteArray} {nL d mc ms : Nat} {vs : List Value} {h0 ci : Nat} {fs : List Value} {S : Type} {B : S → va_W} (hy : plainName y.cls = true) (hi : y.name = "<init>") (hn : (lg_sl vs).length ≤ nL) (lv : List (Nat × Value)) (hlv : lv_args 0 vs = lv)
    (body : ∀ (A : Nat → Prop) (X : CX), X.2.1 = l → Cn (Y.1, Y.2.1, Y.2.2.1, A) X cc nL y.cls d mc ms → Cm X → Rn (Y.1, Y.2.1, Y.2.2.1, A) X B mc ms → KG (Y.1, Y.2.1, Y.2.2.1, A) X nL 0 lv [] (wC h0 ci fs) 0 0) : CtrN l Y y cc nL d mc ms vs h0 ci fs B := by
  intro sz
  refine Met.ofW (cc := cc) (maxL := nL) (ret := none) hy rfl ?_
  intro p e s m args below meth c s₁ B0 hml hv
  obtain ⟨rfl, rfl, hP, hK, hD⟩ := hv
  have hts := atoms_spec (ws := Cond.code y cc nL none :: GT) B0.pre
  have hl := lv_entry vs (n := nL) hn
  rw [hlv] at hl
  rw [lg_entry_eq]
  have hnm : meth.name = "<init>" := (name_of_methodNamed B0.named B0.method).1.trans hi
  exact body (va_A (wC h0 ci fs) s.heap.size) (p, l, e, rk d mc ms, s, m, vs.toArray, below, meth, c, MQ below (QN Y B (va_A (wC h0 ci fs) s.heap.size)) vs.toArray s mc ms (va_A (wC h0 ci fs) s.heap.size), 0, 0) rfl ⟨B0.exec, B0.bytes, hml, findClass_of_methodNamed B0.named, fun w h => hts w (List.mem_cons_of_mem _ h), hK, fun q h => Or.inr h, Nat.le_refl _, Nat.le_refl _, Nat.le_refl _, Nat.le_refl _, B0.notSynchronized⟩ hnm ⟨B0.returns, rfl, rfl, rfl⟩ s.heap [] _ hl hP hD.self va_S.rf
section RK
variable {Y : YT} {X : CX} {cc : ByteArray} {nL pc d mc ms k n : Nat} {own : String} {lv lv' : List (Nat × Value)} {st st0 : List Value} {ws rest : va_W}
theorem KG.to {ws2 : va_W} {k2 n2 : Nat} (h : KG Y X nL pc lv st ws k n) (e1 : ws = ws2) (e2 : k = k2) (e3 : n = n2) : KG Y X nL pc lv st ws2 k2 n2 := by
  subst e1; subst e2; subst e3; exact h
theorem k_iconst {v : Int} (C : Cn Y X cc nL own d mc ms) (hd : decode cc pc = .ok (.iconst v, 1)) (kk : KG Y X nL (pc + 1) lv (vI v :: st) ws k n) : KG Y X nL pc lv st ws k n := by
  obtain ⟨p, l, e, R, s, m, args, below, meth, c, Q, cl, sl⟩ := X
  intro H locs ls hl hP hD hS
  exact lv_iconst C.1 C.2.1 hd rfl (kk H locs ls hl hP hD hS)
theorem k_bipush {v w : Int} (C : Cn Y X cc nL own d mc ms) (hd : decode cc pc = .ok (.bipush w, 2)) (hv : (Int8.ofInt w).toInt32 = iI v) (kk : KG Y X nL (pc + 2) lv (vI v :: st) ws k n) : KG Y X nL pc lv st ws k n := by
  obtain ⟨p, l, e, R, s, m, args, below, meth, c, Q, cl, sl⟩ := X
  intro H locs ls hl hP hD hS
  exact lv_bipush C.1 C.2.1 hd hv (kk H locs ls hl hP hD hS)
theorem k_sipush {v w : Int} (C : Cn Y X cc nL own d mc ms) (hd : decode cc pc = .ok (.sipush w, 3)) (hv : (Int16.ofInt w).toInt32 = iI v) (kk : KG Y X nL (pc + 3) lv (vI v :: st) ws k n) : KG Y X nL pc lv st ws k n := by
  obtain ⟨p, l, e, R, s, m, args, below, meth, c, Q, cl, sl⟩ := X
  intro H locs ls hl hP hD hS
  exact lv_sipush C.1 C.2.1 hd hv (kk H locs ls hl hP hD hS)
theorem k_lconst {w : Fin 2} {v : Int} (C : Cn Y X cc nL own d mc ms) (hd : decode cc pc = .ok (.lconst w, 1)) (hv : Int64.ofNat (w : Nat) = iL v) (kk : KG Y X nL (pc + 1) lv (vL v :: st) ws k n) : KG Y X nL pc lv st ws k n := by
  obtain ⟨p, l, e, R, s, m, args, below, meth, c, Q, cl, sl⟩ := X
  intro H locs ls hl hP hD hS
  exact lv_lconst C.1 C.2.1 hd hv (kk H locs ls hl hP hD hS)
theorem k_aload {j : Fin 4} {i q a : Nat} (C : Cn Y X cc nL own d mc ms) (hd : decode cc pc = .ok (.aload_n j, 1)) (hi : (j : Nat) = i) (hq : lv[q]? = some (i, .ref a)) (kk : KG Y X nL (pc + 1) lv (.ref a :: st) ws k n) : KG Y X nL pc lv st ws k n := by
  obtain ⟨p, l, e, R, s, m, args, below, meth, c, Q, cl, sl⟩ := X
  intro H locs ls hl hP hD hS
  exact lv_aload_n C.1 C.2.1 hd hi (lv_at hl q hq) (kk H locs ls hl hP hD hS)
theorem k_dup {a : Nat} (C : Cn Y X cc nL own d mc ms) (hd : decode cc pc = .ok (.dup, 1)) (kk : KG Y X nL (pc + 1) lv (.ref a :: .ref a :: st) ws k n) : KG Y X nL pc lv (.ref a :: st) ws k n := by
  obtain ⟨p, l, e, R, s, m, args, below, meth, c, Q, cl, sl⟩ := X
  intro H locs ls hl hP hD hS
  exact lv_dup C.1 C.2.1 hd rfl (kk H locs ls hl hP hD hS)
theorem k_ret {S : Type} {B : S → va_W} (u : S) (C : Cn Y X cc nL own d mc ms) (hR : Rn Y X B mc ms) (hd : decode cc pc = .ok (.return_, 1)) (hB : B u = ws) (hk : k ≤ mc) (hn : n ≤ ms) : KG Y X nL pc lv [] ws k n := by
  obtain ⟨p, l, e, R, s, m, args, below, meth, c, Q, cl, sl⟩ := X
  intro H locs ls hl hP hD hS
  obtain ⟨r1, rfl, r3, r4⟩ := hR
  subst hB
  refine W.widen (k := mc) (n := ms) hk hn ?_
  exact W.vret C.1 C.2.1 r1 (fun t ht hW => ⟨⟨u, rfl, trivial, by rw [ht]; exact hP, hD⟩, hS.F ht⟩) hS.2.2 hd C.2.2.2.2.2.2.2.2.2.2.2
theorem k_obj {i a : Nat} (C : Cn Y X cc nL own d mc ms) (h1 : Cond.methodLink own i objectInit ∈ GT) (h2 : Cond.instanceMethod objectInit ∈ GT) (h3 : Cond.code objectInit ⟨#[0xb1]⟩ 1 none ∈ GT) (h4 : 1 ≤ d) (hd : decode cc pc = .ok (.invokespecial i, 3)) (kk : KG Y X nL (pc + 3) lv st ws k n) (hst : st = []) : KG Y X nL pc lv (.ref a :: st) ws k n := by
  obtain ⟨p, l, e, R, s, m, args, below, meth, c, Q, cl, sl⟩ := X
  intro H locs ls hl hP hD hS
  obtain ⟨hx, hb, hml, hown, hts, hK, hY, hf, hlo, hc1, hs1, hlk⟩ := C
  subst hst
  exact W.objInit hx hb hown (hts _ h1) (hts _ h2) (hts _ h3) rfl (by rw [hml]; exact hl.1) rfl hd (by omega) (Nat.le_trans (m := 64) (Nat.le_of_ble_eq_true rfl) (by omega)) (kk H locs ls hl hP hD hS)
end RK
