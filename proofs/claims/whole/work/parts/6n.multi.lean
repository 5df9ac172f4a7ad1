/-! an array of rows of ints, made at once -/
/-- the outer array when i of its rows stand -/
def mO (cA : ClassId) (N h i : Nat) : Cell := arrV cA N (fun j => if j < i then .ref (h + 1 + j) else .null)
def mI (cI : ClassId) (K : Nat) : Cell := arrV cI K (fun _ => .int 0)
theorem mO_next (cA : ClassId) (N h i : Nat) : (mO cA N h i).setSlot i (.ref (h + 1 + i)) = mO cA N h (i + 1) := by
  unfold mO
  rw [arrV_store]
  congr 1
  funext j
  show (if j = i then _ else _) = _
  by_cases e : j = i
  · subst e
    rw [if_pos rfl, if_pos (by omega)]
  · rw [if_neg e]
    show (if j < i then _ else _) = _
    by_cases z : j < i
    · rw [if_pos z, if_pos (by omega)]
    · rw [if_neg z, if_neg (by omega)]
/-- the heap with i rows: what was there, the outer array, the rows -/
def mH (H : Heap) (cA cI : ClassId) (N K i : Nat) : Heap := H.push (mO cA N H.size i) ++ Array.replicate i (mI cI K)
theorem mH_size (H : Heap) (cA cI : ClassId) (N K i : Nat) : (mH H cA cI N K i).size = H.size + 1 + i := by
  unfold mH
  rw [Array.size_append, Array.size_push, Array.size_replicate]
theorem mH_at (H : Heap) (cA cI : ClassId) (N K i q : Nat) : (mH H cA cI N K i)[q]? = if q < H.size then H[q]? else if q = H.size then some (mO cA N H.size i) else if q < H.size + 1 + i then some (mI cI K) else none := by
  unfold mH
  rw [Array.getElem?_append, Array.size_push, Array.getElem?_push, Array.getElem?_replicate]
  by_cases h1 : q < H.size
  · rw [if_pos (by omega), if_neg (by omega), if_pos h1]
  · by_cases h2 : q = H.size
    · rw [if_pos (by omega), if_pos h2, if_neg h1, if_pos h2]
    · rw [if_neg (by omega), if_neg h1, if_neg h2]
      by_cases h3 : q < H.size + 1 + i
      · rw [if_pos (by omega), if_pos h3]
      · rw [if_neg (by omega), if_neg h3]
theorem mH_next (H : Heap) (cA cI : ClassId) (N K i : Nat) : ((mH H cA cI N K i).push (mI cI K)).setIfInBounds H.size (mO cA N H.size (i + 1)) = mH H cA cI N K (i + 1) := by
  apply Array.ext_getElem?
  intro q
  rw [Array.getElem?_setIfInBounds, Array.size_push, Array.getElem?_push, mH_size, mH_at, mH_at]
  by_cases h1 : q < H.size
  · rw [if_neg (by omega), if_neg (by omega), if_pos h1, if_pos h1]
  · by_cases h2 : q = H.size
    · subst h2
      rw [if_pos rfl, if_pos (by omega), if_neg h1, if_pos rfl]
    · rw [if_neg (fun z => h2 z.symm), if_neg h1, if_neg h2, if_neg h1, if_neg h2]
      by_cases h3 : q = H.size + 1 + i
      · rw [if_pos h3, if_pos (by omega)]
      · rw [if_neg h3]
        by_cases h4 : q < H.size + 1 + i
        · rw [if_pos h4, if_pos (by omega)]
        · rw [if_neg h4, if_neg (by omega)]
/-- the machine with i rows made -/
def mT (T : State) (cA cI : ClassId) (N K i : Nat) : State := { T with heap := mH T.heap cA cI N K i, slotsUsed := T.slotsUsed + N + i * K }
theorem mT_first (T : State) (cA cI : ClassId) (N K : Nat) : T.pushCell (mO cA N T.heap.size 0) = mT T cA cI N K 0 := by
  have e1 : T.heap.push (mO cA N T.heap.size 0) = mH T.heap cA cI N K 0 := by
    unfold mH
    simp
  have e2 : T.slotsUsed + (mO cA N T.heap.size 0).slots.size = T.slotsUsed + N + 0 * K := by
    unfold mO
    rw [arrV_size, Nat.zero_mul]
    rfl
  show ({ T with heap := T.heap.push (mO cA N T.heap.size 0), slotsUsed := T.slotsUsed + (mO cA N T.heap.size 0).slots.size } : State) = _
  rw [e1, e2]
  rfl
theorem mT_next (T : State) (cA cI : ClassId) (N K i : Nat) : ((mT T cA cI N K i).pushCell (mI cI K)).setCell T.heap.size (mO cA N T.heap.size (i + 1)) = mT T cA cI N K (i + 1) := by
  have e2 : T.slotsUsed + N + i * K + (mI cI K).slots.size = T.slotsUsed + N + (i + 1) * K := by
    unfold mI
    rw [arrV_size, Nat.succ_mul]
    omega
  show ({ T with heap := ((mH T.heap cA cI N K i).push (mI cI K)).setIfInBounds T.heap.size (mO cA N T.heap.size (i + 1)), slotsUsed := T.slotsUsed + N + i * K + (mI cI K).slots.size } : State) = _
  rw [mH_next, e2]
  rfl
theorem mT_out (T : State) (cA cI : ClassId) (N K i : Nat) : (mT T cA cI N K i).heap[T.heap.size]? = some (mO cA N T.heap.size i) := by
  show (mH T.heap cA cI N K i)[T.heap.size]? = _
  rw [mH_at, if_neg (Nat.lt_irrefl _), if_pos rfl]
theorem mT_push (T : State) (cA cI : ClassId) (N K i : Nat) : ((mT T cA cI N K i).pushCell (mI cI K)).heap[T.heap.size]? = some (mO cA N T.heap.size i) := by
  show ((mH T.heap cA cI N K i).push (mI cI K))[T.heap.size]? = _
  rw [Array.getElem?_push, mH_size, if_neg (by omega)]
  exact mT_out T cA cI N K i
theorem mT_stand {p : Program} {l : Launch} {e : Env} {R : Room} {s : State} {m : MethodId} {args : Array Value} {below : List Frame} {meth : Method} {c : Code} {T : State} {locs : List Loc} {cells slots : Nat} (X : Stand p l e R s m args below meth c T locs cells slots) (cA cI : ClassId) (N K i : Nat) : Stand p l e R s m args below meth c (mT T cA cI N K i) locs (cells + 1 + i) (slots + N + i * K) := by
  induction i with
  | zero =>
    have h := X.pushed (mO cA N T.heap.size 0)
    have e : (mO cA N T.heap.size 0).slots.size = N := arrV_size ..
    rw [mT_first (cI := cI) (K := K), e] at h
    rw [Nat.zero_mul]
    exact h
  | succ i ih =>
    have h := (ih.pushed (mI cI K)).stored (mT_push T cA cI N K i) i (.ref (T.heap.size + 1 + i))
    rw [mO_next, mT_next] at h
    have e : (mI cI K).slots.size = K := arrV_size ..
    have e3 : slots + N + (i + 1) * K = slots + N + i * K + (mI cI K).slots.size := by
      rw [Nat.succ_mul, e]
      omega
    rw [e3]
    exact h.dropFresh (fun x hx => by rw [List.mem_singleton.mp hx]; exact X.heapGrown)
section MK
variable {E : CtlPost} {e : Env} {d : Bool} {acts : List Action} {s : State}
/-- a loop over numbers in a row, whose states are told ahead -/
theorem m_rows {f : Nat → PUnit → Sem (ForInStep PUnit)} {P : Nat → State} {n0 : Nat} (hf : ∀ (i : Nat) (d : Bool) (acts : List Action) (Q : ForInStep PUnit → Pre), i < n0 → (∀ d1 acts1, Q (.yield PUnit.unit) d1 acts1 (P (i + 1))) → wp (f i PUnit.unit) Q E e d acts (P i)) : ∀ (n i : Nat) (d : Bool) (acts : List Action) (Q : PUnit → Pre), i + n = n0 → (∀ d1 acts1, Q PUnit.unit d1 acts1 (P n0)) → wp (forIn (List.range' i n 1) PUnit.unit f) Q E e d acts (P i)
  | 0, i, d, acts, Q, hi, hq => by
    have e : i = n0 := by omega
    subst e
    simp only [List.range'_zero, List.forIn_nil, wp_pure']
    exact hq d acts
  | n + 1, i, d, acts, Q, hi, hq => by
    rw [List.range'_succ]
    simp only [List.forIn_cons, wp_bind']
    exact hf i d acts _ (by omega) (fun d1 acts1 => m_rows hf n (i + 1) d1 acts1 Q (by omega) hq)
theorem m_row {cI cc : ClassId} {kI : Class} {v : Int32} {K : Nat} (hk : s.vm.classes[cI]? = some kI) (hkind : kI.kind = .array cc .int) (hv : ¬ v < 0) (hK : v.toNatClampNeg = K) (hl : ¬ K > e.platform.arrayLengthLimit) (hh : ¬ K * componentBytes .int > e.platform.maxHeapBytes) (h1 : s.heap.size < e.platform.maxCells) (h2 : s.slotsUsed + K ≤ e.platform.maxSlots) {Q : Addr → Pre} (hq : ∀ acts', Q s.heap.size d acts' (s.pushCell (mI cI K))) : wp (multianewarray.make cI [v]) Q E e d acts s := by
  subst hK
  rw [multianewarray.make]
  simp only [wp_bind', W.ite, hv, if_false, wp_pure', W.theClass, hk, hkind, Option.some.injEq, exists_eq_left']
  refine W.newArray_of hk hkind hl hh h1 h2 rfl (fun acts' => ?_)
  have e1 := hq acts'
  unfold mI at e1
  rw [← arrV_new] at e1
  exact e1
theorem m_make {cA cI cc : ClassId} {kA kI : Class} {u v : Int32} {N K : Nat} (hkA : s.vm.classes[cA]? = some kA) (hkindA : kA.kind = .array cI (.array .int)) (hk : s.vm.classes[cI]? = some kI) (hkind : kI.kind = .array cc .int) (hu : ¬ u < 0) (hN : u.toNatClampNeg = N) (hv : ¬ v < 0) (hK : v.toNatClampNeg = K) (hl1 : ¬ N > e.platform.arrayLengthLimit) (hh1 : ¬ N * componentBytes (.array .int) > e.platform.maxHeapBytes) (hl : ¬ K > e.platform.arrayLengthLimit) (hh : ¬ K * componentBytes .int > e.platform.maxHeapBytes) (h1 : s.heap.size + 1 + N ≤ e.platform.maxCells) (h2 : s.slotsUsed + N + N * K ≤ e.platform.maxSlots) {Q : Addr → Pre} (hq : ∀ d' acts', Q s.heap.size d' acts' (mT s cA cI N K N)) : wp (multianewarray.make cA [u, v]) Q E e d acts s := by
  have hnone : ([v].find? (· < 0)) = none := by simp [hv]
  subst hN
  rw [multianewarray.make]
  simp only [wp_bind', W.ite, hu, if_false, wp_pure', W.theClass, hkA, hkindA, Option.some.injEq, exists_eq_left']
  refine W.newArray_of hkA hkindA hl1 hh1 (by omega) (Nat.le_trans (Nat.le_add_right _ _) h2) rfl (fun acts' => ?_)
  have e0 : s.pushCell { cls := cA, slots := Array.replicate u.toNatClampNeg .null } = mT s cA cI u.toNatClampNeg K 0 := by
    rw [← mT_first]
    unfold mO
    rw [arrV_new]
    exact congrArg (fun f => s.pushCell (arrV cA u.toNatClampNeg f)) (funext fun j => (if_neg (Nat.not_lt_zero j)).symm)
  rw [e0]
  simp only [hnone]
  rw [ite_self, wp_bind', Std.Legacy.Range.forIn_eq_forIn_range']
  refine m_rows (P := mT s cA cI u.toNatClampNeg K) (n0 := u.toNatClampNeg) (fun i d1 acts1 Q1 hi hnext => ?_) _ _ _ _ _ (by simp [Std.Legacy.Range.size]) (fun d1 acts1 => ?_)
  · have hz : (mT s cA cI u.toNatClampNeg K i).heap.size = s.heap.size + 1 + i := mH_size ..
    have hs : (mT s cA cI u.toNatClampNeg K i).slotsUsed = s.slotsUsed + u.toNatClampNeg + i * K := rfl
    have hm := Nat.mul_le_mul_right K (show i + 1 ≤ u.toNatClampNeg from hi)
    rw [Nat.succ_mul] at hm
    simp only [wp_bind']
    refine m_row (s := mT s cA cI u.toNatClampNeg K i) hk hkind hv hK hl hh (by omega) (by omega) (fun acts2 => ?_)
    simp only [wp_bind', W.writeLoc, wp_pure']
    refine ⟨_, mT_push s cA cI u.toNatClampNeg K i, by unfold mO arrV; simp, by unfold mO; rw [arrV_size]; exact hi, ?_, ?_⟩
    · show State.fitsSlot _ cA .none i _ = true
      have hvm : (mT s cA cI u.toNatClampNeg K i).vm = s.vm := rfl
      simp [State.fitsSlot, State.slotType?, hvm, hkA, hkindA, fits]
    · rw [hz, mO_next, mT_next]
      exact hnext _ _
  · simp only [wp_pure']
    exact hq _ _
/-- the instruction as a whole: the class is looked up, two counts are popped, the rows are made, the address is pushed -/
theorem m_sem {f : JFrame} {index : Nat} {vm1 : Vm} {cA cI cc : ClassId} {kA kI : Class} {u v : Int32} {N K : Nat} {rest : List Value} (hs : s.topJava?.isSome) (hg : (Jvm.resolveClass f.method.cls index).Gives e.toSetting s.vm (.ok cA) vm1) (hsz : vm1.classes.size ≤ s.vm.classes.size) (hst : f.stack = .int v :: .int u :: rest) (hkA : vm1.classes[cA]? = some kA) (hkindA : kA.kind = .array cI (.array .int)) (hk : vm1.classes[cI]? = some kI) (hkind : kI.kind = .array cc .int) (hu : ¬ u < 0) (hN : u.toNatClampNeg = N) (hv : ¬ v < 0) (hK : v.toNatClampNeg = K) (hl1 : ¬ N > e.platform.arrayLengthLimit) (hh1 : ¬ N * componentBytes (.array .int) > e.platform.maxHeapBytes) (hl : ¬ K > e.platform.arrayLengthLimit) (hh : ¬ K * componentBytes .int > e.platform.maxHeapBytes) (h1 : s.heap.size + 1 + N ≤ e.platform.maxCells) (h2 : s.slotsUsed + N + N * K ≤ e.platform.maxSlots) {Q : Unit → Pre} (hq : ∀ acts1, Q () true acts1 ((mT (s.setVm vm1) cA cI N K N).setTop { f with stack := .ref s.heap.size :: rest })) : wp (multianewarray.sem index 2) Q E e d acts (s.setTop f) := by
  have hpop : ∀ {Q1 : List Value → Pre}, Q1 [.int u, .int v] true acts ((s.setVm vm1).setTop { f with stack := rest }) → wp (Jvm.popN 2) Q1 E e d acts ((s.setVm vm1).setTop f) := fun z =>
    (popN_top (s := s.setVm vm1) (f := f) (args := [.int u, .int v]) (rest := rest) hs hst).mpr z
  unfold multianewarray.sem
  rw [wp_bind']
  refine (W.resolveClassAt_links (t := s.setTop f) (State.method?_setTop f hs) hg hsz).mpr ?_
  rw [wp_bind']
  refine hpop ?_
  simp only [List.mapM_cons, List.mapM_nil, wp_bind', wp_pure']
  refine m_make (s := (s.setVm vm1).setTop { f with stack := rest }) hkA hkindA hk hkind hu hN hv hK hl1 hh1 hl hh h1 h2 (fun d1 acts1 => ?_)
  rw [wp_bind', W.mark, W.pushRef]
  have hout : mT ((s.setVm vm1).setTop { f with stack := rest }) cA cI N K N = (mT (s.setVm vm1) cA cI N K N).setTop { f with stack := rest } := rfl
  refine ⟨{ f with stack := rest }, State.topJava?_setTop' (s := s.setVm vm1) _ hs, ?_⟩
  rw [hout, State.setTop_setTop]
  exact hq acts1
end MK
section MW
variable {p : Program} {l : Launch} {e : Env} {R : Room} {s : State} {m : MethodId} {args : Array Value} {below : List Frame} {meth : Method} {c : Code} {H : Heap} {locs : List Loc} {cells slots : Nat} {Q : State → Prop}
theorem w_multiG {cc : ByteArray} (hexec : p.tables.exec = Jvm.exec) (hb : c.code = cc) {own nm : String} {index : Nat} {cA cI cJ : ClassId} {kA kI : Class} (hown : s.vm.findClass own = some m.cls) (hclink : (Cond.classLink own index nm).before args s = true) (hnm : s.vm.findClass nm = some cA) (hkA : s.vm.classes[cA]? = some kA) (hkindA : kA.kind = .array cI (.array .int)) (hkI : s.vm.classes[cI]? = some kI) (hkindI : kI.kind = .array cJ .int)
    {g : JFrame} (hg : g.method = m) {N K : Nat} {u v : Int32} {rest : List Value} (hdg : decode cc g.pc = .ok (.multianewarray index 2, 4)) (hstack : g.stack = .int v :: .int u :: rest) (hu : ¬ u < 0) (hN : u.toNatClampNeg = N) (hv : ¬ v < 0) (hK : v.toNatClampNeg = K) (hN1 : N < 100000) (hK1 : K < 100000) (hcells : cells + (1 + N) ≤ R.cells) (hslots : slots + (N + N * K) ≤ R.slots)
    (kk : ∀ H1 : Heap, H1.size = H.size + 1 + N → (∀ q, q < H.size → H1[q]? = H[q]?) → H1[H.size]? = some (mO cA N H.size N) → (∀ j, j < N → H1[H.size + 1 + j]? = some (mI cI K)) → W p l e R s m args below meth c H1 locs (cells + 1 + N) (slots + N + N * K) Q { g with pc := g.pc + 4, stack := .ref H.size :: rest }) : W p l e R s m args below meth c H locs cells slots Q g := by
  intro T hT X
  subst hT hb hg
  obtain ⟨cF, hcF, hcl⟩ := Cond.classLink_spec hown hclink e.platform (by rw [X.admits.platform])
  cases hnm.symm.trans hcF
  obtain ⟨hgive, hwarm, -⟩ := State.classEntry (e := e) X.warmed hcl
  obtain ⟨k1, hk1, q1⟩ := hwarm.alike.2.2 _ _ hkA
  obtain ⟨k2, hk2, q2⟩ := hwarm.alike.2.2 _ _ hkI
  have hroom := X.roomAbove hcells hslots
  have lim : ∀ n, n < 100000 → ¬ n > e.platform.arrayLengthLimit := fun n hn => by
    rw [Launch.admits_arrayLengthLimit X.admits]; omega
  have byt : ∀ n, n < 100000 → ¬ n * 4 > e.platform.maxHeapBytes := fun n hn => by
    rw [Launch.admits_maxHeapBytes X.admits]; omega
  obtain ⟨t, ht, hQ⟩ := kk (mH T.heap cA cI N K N) (mH_size ..) (fun q hq => by rw [mH_at, if_pos hq]) (by rw [mH_at, if_neg (Nat.lt_irrefl _), if_pos rfl]) (fun j hj => by rw [mH_at, if_neg (by omega), if_neg (by omega), if_pos (by omega)]) (mT (T.setVm (T.vm.noted g.method.cls index (.cls cA))) cA cI N K N) rfl (mT_stand (X.noted hwarm) cA cI N K N)
  refine ⟨t, Steps.instr (c := c) X.here ?_, hQ⟩
  rw [hdg, hexec]
  refine m_sem (s := T) (f := g) X.here.top hgive (by no_record) hstack hk1 (by rw [q1]; exact hkindA) hk2 (by rw [q2]; exact hkindI) hu hN hv hK (lim N hN1) (byt N hN1) (lim K hK1) (byt K hK1) (by omega) (by omega) (fun acts1 acts2 => ?_)
  rw [afterInstr_ok]
  exact ht
theorem w_multi {cc : ByteArray} (hexec : p.tables.exec = Jvm.exec) (hb : c.code = cc) {own nm : String} {index : Nat} {cA cI cJ : ClassId} {kA kI : Class} (hown : s.vm.findClass own = some m.cls) (hclink : (Cond.classLink own index nm).before args s = true) (hnm : s.vm.findClass nm = some cA) (hkA : s.vm.classes[cA]? = some kA) (hkindA : kA.kind = .array cI (.array .int)) (hkI : s.vm.classes[cI]? = some kI) (hkindI : kI.kind = .array cJ .int)
    {pc N K : Nat} {ls : Array Slot} {u v : Int32} {rest : List Value} (hdg : decode cc pc = .ok (.multianewarray index 2, 4)) (hu : ¬ u < 0) (hN : u.toNatClampNeg = N) (hv : ¬ v < 0) (hK : v.toNatClampNeg = K) (hN1 : N < 100000) (hK1 : K < 100000) (hcells : cells + (1 + N) ≤ R.cells) (hslots : slots + (N + N * K) ≤ R.slots)
    (kk : ∀ H1 : Heap, H1.size = H.size + 1 + N → (∀ q, q < H.size → H1[q]? = H[q]?) → H1[H.size]? = some (mO cA N H.size N) → (∀ j, j < N → H1[H.size + 1 + j]? = some (mI cI K)) → W p l e R s m args below meth c H1 locs (cells + 1 + N) (slots + N + N * K) Q (F0 m (pc + 4) ls (.ref H.size :: rest))) : W p l e R s m args below meth c H locs cells slots Q (F0 m pc ls (.int v :: .int u :: rest)) :=
  w_multiG (g := F0 m pc ls (.int v :: .int u :: rest)) hexec hb hown hclink hnm hkA hkindA hkI hkindI rfl hdg rfl hu hN hv hK hN1 hK1 hcells hslots kk
end MW
