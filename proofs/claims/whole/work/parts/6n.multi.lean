/-! an array of rows of ints, made at once -/
/-- the outer array when i of its rows stand -/
def mO (cA : ClassId) (N h i : Nat) : Cell := arrV cA N (fun j => if j < i then .ref (h + 1 + j) else .null)
def mI (cI : ClassId) (K : Nat) : Cell := arrV cI K (fun _ => .int 0)
def mT (T : State) (cA cI : ClassId) (N K : Nat) : Nat → State
  | 0 => T.pushCell (mO cA N T.heap.size 0)
  | i + 1 => ((mT T cA cI N K i).pushCell (mI cI K)).setCell T.heap.size (mO cA N T.heap.size (i + 1))
theorem mO_next (cA : ClassId) (N h i : Nat) : (mO cA N h i).setSlot i (.ref (h + 1 + i)) = mO cA N h (i + 1) := by
  unfold mO
  rw [arrV_store]
  congr 1
  funext j
  show (if j = i then _ else _) = _
  by_cases e : j = i
  · subst e
    rw [if_pos rfl, if_pos (by omega)]
  · rw [if_neg e]
    show (if j < i then _ else _) = _
    by_cases z : j < i
    · rw [if_pos z, if_pos (by omega)]
    · rw [if_neg z, if_neg (by omega)]
theorem mT_f (T : State) (cA cI : ClassId) (N K : Nat) : ∀ i, (mT T cA cI N K i).heap.size = T.heap.size + 1 + i ∧ (mT T cA cI N K i).slotsUsed = T.slotsUsed + N + i * K ∧ (mT T cA cI N K i).vm = T.vm ∧ (mT T cA cI N K i).heap[T.heap.size]? = some (mO cA N T.heap.size i)
  | 0 => by
    refine ⟨?_, ?_, rfl, State.heap_pushCell_size ..⟩
    · show (T.heap.push _).size = _
      rw [Array.size_push]
    · show T.slotsUsed + (mO cA N T.heap.size 0).slots.size = _
      unfold mO
      rw [arrV_size]
      omega
  | i + 1 => by
    obtain ⟨h1, h2, h3, h4⟩ := mT_f T cA cI N K i
    have hlt : T.heap.size < (mT T cA cI N K i).heap.size := by omega
    have h5 : ((mT T cA cI N K i).pushCell (mI cI K)).heap[T.heap.size]? = some (mO cA N T.heap.size i) := by
      rw [State.heap_pushCell_of_lt (h := hlt)]
      exact h4
    refine ⟨?_, ?_, h3, State.heap_setCell_self h5⟩
    · show (((mT T cA cI N K i).heap.push _).setIfInBounds _ _).size = _
      rw [Array.size_setIfInBounds, Array.size_push, h1]
      omega
    · show (mT T cA cI N K i).slotsUsed + (mI cI K).slots.size = _
      unfold mI
      rw [arrV_size, h2, Nat.succ_mul]
      omega
theorem mT_old (T : State) (cA cI : ClassId) (N K : Nat) {q : Nat} (hq : q < T.heap.size) : ∀ i, (mT T cA cI N K i).heap[q]? = T.heap[q]?
  | 0 => State.heap_pushCell_of_lt (h := hq) ..
  | i + 1 => by
    have h1 := (mT_f T cA cI N K i).1
    have hlt : q < (mT T cA cI N K i).heap.size := by omega
    show (((mT T cA cI N K i).pushCell (mI cI K)).setCell T.heap.size _).heap[q]? = _
    rw [State.heap_setCell_other (Nat.ne_of_gt hq), State.heap_pushCell_of_lt (h := hlt)]
    exact mT_old T cA cI N K hq i
theorem mT_row (T : State) (cA cI : ClassId) (N K : Nat) : ∀ i j, j < i → (mT T cA cI N K i).heap[T.heap.size + 1 + j]? = some (mI cI K)
  | 0, j, h => absurd h (Nat.not_lt_zero j)
  | i + 1, j, h => by
    have h1 := (mT_f T cA cI N K i).1
    show (((mT T cA cI N K i).pushCell (mI cI K)).setCell T.heap.size _).heap[T.heap.size + 1 + j]? = _
    have hne : T.heap.size ≠ T.heap.size + 1 + j := by omega
    rw [State.heap_setCell_other hne]
    by_cases e : j = i
    · subst e
      rw [← h1]
      exact State.heap_pushCell_size ..
    · have hlt : T.heap.size + 1 + j < (mT T cA cI N K i).heap.size := by omega
      rw [State.heap_pushCell_of_lt (h := hlt)]
      exact mT_row T cA cI N K i j (by omega)
theorem mT_top (T : State) (f : JFrame) (cA cI : ClassId) (N K : Nat) : ∀ i, mT (T.setTop f) cA cI N K i = (mT T cA cI N K i).setTop f
  | 0 => rfl
  | i + 1 => by
    show ((mT (T.setTop f) cA cI N K i).pushCell _).setCell _ _ = _
    rw [mT_top T f cA cI N K i]
    rfl
theorem mT_stand {p : Program} {l : Launch} {e : Env} {R : Room} {s : State} {m : MethodId} {args : Array Value} {below : List Frame} {meth : Method} {c : Code} {T : State} {locs : List Loc} {cells slots : Nat} (X : Stand p l e R s m args below meth c T locs cells slots) (cA cI : ClassId) (N K : Nat) : ∀ i, Stand p l e R s m args below meth c (mT T cA cI N K i) locs (cells + 1 + i) (slots + N + i * K)
  | 0 => by
    have h := X.pushed (mO cA N T.heap.size 0)
    have e : (mO cA N T.heap.size 0).slots.size = N := arrV_size ..
    rw [e] at h
    rw [Nat.zero_mul]
    exact h
  | i + 1 => by
    have h := (mT_stand X cA cI N K i).pushed (mI cI K)
    have e : (mI cI K).slots.size = K := arrV_size ..
    rw [e] at h
    obtain ⟨h1, h2, h3, h4⟩ := mT_f T cA cI N K i
    have hlt : T.heap.size < (mT T cA cI N K i).heap.size := by omega
    have h5 : ((mT T cA cI N K i).pushCell (mI cI K)).heap[T.heap.size]? = some (mO cA N T.heap.size i) := by
      rw [State.heap_pushCell_of_lt (h := hlt)]
      exact h4
    have h6 := (h.stored h5 i (.ref (T.heap.size + 1 + i))).dropFresh (fun x hx => by rw [List.mem_singleton] at hx; subst hx; exact X.heapGrown)
    rw [mO_next] at h6
    have e3 : slots + N + (i + 1) * K = slots + N + i * K + K := by
      rw [Nat.succ_mul]
      omega
    rw [e3]
    exact h6
section MK
variable {E : CtlPost} {e : Env} {d : Bool} {acts : List Action} {s : State}
theorem m_row {cI cc : ClassId} {kI : Class} {v : Int32} {K : Nat} (hk : s.vm.classes[cI]? = some kI) (hkind : kI.kind = .array cc .int) (hv : ¬ v < 0) (hK : v.toNatClampNeg = K) (hl : ¬ K > e.platform.arrayLengthLimit) (hh : ¬ K * componentBytes .int > e.platform.maxHeapBytes) (h1 : s.heap.size < e.platform.maxCells) (h2 : s.slotsUsed + K ≤ e.platform.maxSlots) {Q : Addr → Pre} (hq : ∀ acts', Q s.heap.size d acts' (s.pushCell (mI cI K))) : wp (multianewarray.make cI [v]) Q E e d acts s := by
  subst hK
  rw [multianewarray.make]
  simp only [wp_bind', W.ite, hv, if_false, wp_pure', W.theClass, hk, hkind, Option.some.injEq, exists_eq_left']
  refine W.newArray_of hk hkind hl hh h1 h2 rfl (fun acts' => ?_)
  have e1 := hq acts'
  unfold mI at e1
  rw [← arrV_new] at e1
  exact e1
theorem m_make {cA cI cc : ClassId} {kA kI : Class} {u v : Int32} {N K : Nat} (hkA : s.vm.classes[cA]? = some kA) (hkindA : kA.kind = .array cI (.array .int)) (hk : s.vm.classes[cI]? = some kI) (hkind : kI.kind = .array cc .int) (hu : ¬ u < 0) (hN : u.toNatClampNeg = N) (hv : ¬ v < 0) (hK : v.toNatClampNeg = K) (hl1 : ¬ N > e.platform.arrayLengthLimit) (hh1 : ¬ N * componentBytes (.array .int) > e.platform.maxHeapBytes) (hl : ¬ K > e.platform.arrayLengthLimit) (hh : ¬ K * componentBytes .int > e.platform.maxHeapBytes) (h1 : s.heap.size + 1 + N ≤ e.platform.maxCells) (h2 : s.slotsUsed + N + N * K ≤ e.platform.maxSlots) {Q : Addr → Pre} (hq : ∀ d' acts', Q s.heap.size d' acts' (mT s cA cI N K N)) : wp (multianewarray.make cA [u, v]) Q E e d acts s := by
  have hfind : ([v].find? (· < 0)) = none := by simp [hv]
  subst hN
  rw [multianewarray.make]
  simp only [wp_bind', W.ite, hu, if_false, wp_pure', W.theClass, hkA, hkindA, Option.some.injEq, exists_eq_left']
  refine W.newArray_of hkA hkindA hl1 hh1 (by omega) (Nat.le_trans (Nat.le_add_right _ _) h2) rfl (fun acts' => ?_)
  simp only [hfind]
  rw [ite_self, wp_bind', Std.Legacy.Range.forIn_eq_forIn_range']
  have hsz : ([:u.toNatClampNeg] : Std.Legacy.Range).size = u.toNatClampNeg := by simp [Std.Legacy.Range.size]
  rw [hsz]
  show wp (forIn (List.range' 0 u.toNatClampNeg 1) PUnit.unit _) _ E e d acts' _
  refine wp_forIn_inv (fun rest t => ∃ i, i + rest.length = u.toNatClampNeg ∧ rest = List.range' i rest.length ∧ t = mT s cA cI u.toNatClampNeg K i) _ _ ⟨0, by simp, by simp, ?_⟩ ?_ ?_
  · show s.pushCell _ = s.pushCell (mO cA u.toNatClampNeg s.heap.size 0)
    unfold mO
    rw [arrV_new]
    exact congrArg (fun f => s.pushCell (arrV cA u.toNatClampNeg f)) (funext fun j => (if_neg (Nat.not_lt_zero j)).symm)
  · rintro x rest t d1 acts1 Q1 ⟨i, hi, hr, rfl⟩ hnext
    rw [List.length_cons] at hi
    rw [List.length_cons, List.range'_succ] at hr
    obtain ⟨rfl, hr2⟩ := List.cons.inj hr
    obtain ⟨f1, f2, f3, f4⟩ := mT_f s cA cI u.toNatClampNeg K x
    have hmul : x * K + K ≤ u.toNatClampNeg * K := by
      have := Nat.mul_le_mul_right K (show x + 1 ≤ u.toNatClampNeg by omega)
      rw [Nat.succ_mul] at this
      exact this
    have hlt : s.heap.size < (mT s cA cI u.toNatClampNeg K x).heap.size := by omega
    simp only [wp_bind']
    refine m_row (by rw [f3]; exact hk) hkind hv hK hl hh (by rw [f1]; omega) (by rw [f2]; omega) (fun acts2 => ?_)
    simp only [wp_bind', W.writeLoc, wp_pure']
    refine ⟨mO cA u.toNatClampNeg s.heap.size x, by rw [State.heap_pushCell_of_lt (h := hlt)]; exact f4, by unfold mO arrV; simp, by unfold mO; rw [arrV_size]; omega, ?_, hnext _ _ _ ⟨x + 1, by omega, hr2, ?_⟩⟩
    · show State.fitsSlot _ cA .none x _ = true
      simp [State.fitsSlot, State.slotType?, f3, hkA, hkindA, fits]
    · rw [f1, mO_next]
      rfl
  · rintro t d1 acts1 ⟨i, hi, hr, rfl⟩
    have e1 : i = u.toNatClampNeg := by simpa using hi
    subst e1
    simp only [wp_pure']
    exact hq _ _
end MK
section MW
variable {p : Program} {l : Launch} {e : Env} {R : Room} {s : State} {m : MethodId} {args : Array Value} {below : List Frame} {meth : Method} {c : Code} {H : Heap} {locs : List Loc} {cells slots : Nat} {Q : State → Prop}
theorem w_multiG {cc : ByteArray} (hexec : p.tables.exec = Jvm.exec) (hb : c.code = cc) {own nm : String} {index : Nat} {cA cI cJ : ClassId} {kA kI : Class} (hown : s.vm.findClass own = some m.cls) (hclink : (Cond.classLink own index nm).before args s = true) (hnm : s.vm.findClass nm = some cA) (hkA : s.vm.classes[cA]? = some kA) (hkindA : kA.kind = .array cI (.array .int)) (hkI : s.vm.classes[cI]? = some kI) (hkindI : kI.kind = .array cJ .int)
    {g : JFrame} (hg : g.method = m) {N K : Nat} {u v : Int32} {rest : List Value} (hdg : decode cc g.pc = .ok (.multianewarray index 2, 4)) (hstack : g.stack = .int v :: .int u :: rest) (hu : ¬ u < 0) (hN : u.toNatClampNeg = N) (hv : ¬ v < 0) (hK : v.toNatClampNeg = K) (hN1 : N < 100000) (hK1 : K < 100000) (hcells : cells + (1 + N) ≤ R.cells) (hslots : slots + (N + N * K) ≤ R.slots)
    (kk : ∀ H1 : Heap, H1.size = H.size + 1 + N → (∀ q, q < H.size → H1[q]? = H[q]?) → H1[H.size]? = some (mO cA N H.size N) → (∀ j, j < N → H1[H.size + 1 + j]? = some (mI cI K)) → W p l e R s m args below meth c H1 locs (cells + 1 + N) (slots + N + N * K) Q { g with pc := g.pc + 4, stack := .ref H.size :: rest }) : W p l e R s m args below meth c H locs cells slots Q g := by
  intro T hT X
  subst hT
  subst hb
  subst hg
  have hpl : e.platform.magicAccessors = ({} : Platform).magicAccessors := by rw [X.admits.platform]
  obtain ⟨c0, hfc0, hcl⟩ := Cond.classLink_spec hown hclink e.platform hpl
  cases hnm.symm.trans hfc0
  obtain ⟨hg1, hwarm1, hready1⟩ := State.classEntry (e := e) X.warmed hcl
  generalize T.vm.noted g.method.cls index (.cls cA) = vm1 at hg1 hwarm1 hready1
  have hal : s.vm.Alike vm1 := hwarm1.alike
  obtain ⟨kA1, hkA1, heA⟩ := hal.2.2 _ _ hkA
  obtain ⟨kI1, hkI1, heI⟩ := hal.2.2 _ _ hkI
  have hkindA1 : kA1.kind = .array cI (.array .int) := by rw [heA]; exact hkindA
  have hkindI1 : kI1.kind = .array cJ .int := by rw [heI]; exact hkindI
  have X1 := X.noted hwarm1
  obtain ⟨hr1, hr2⟩ := X.roomAbove hcells hslots
  have X2 := mT_stand X1 cA cI N K N
  have hheap : (T.setVm vm1).heap = T.heap := rfl
  obtain ⟨f1, f2, f3, f4⟩ := mT_f (T.setVm vm1) cA cI N K N
  rw [hheap] at f1 f4
  obtain ⟨t, a1, b1⟩ := kk (mT (T.setVm vm1) cA cI N K N).heap f1 (fun q hq => mT_old (T.setVm vm1) cA cI N K hq N) f4 (fun j hj => mT_row (T.setVm vm1) cA cI N K N j hj) _ rfl X2
  refine ⟨t, ?_, b1⟩
  have hl1 : ¬ N > e.platform.arrayLengthLimit := by rw [Launch.admits_arrayLengthLimit X.admits]; omega
  have hh1 : ¬ N * componentBytes (.array .int) > e.platform.maxHeapBytes := by
    rw [Launch.admits_maxHeapBytes X.admits]
    show ¬ N * 4 > 536870912
    omega
  have hl2 : ¬ K > e.platform.arrayLengthLimit := by rw [Launch.admits_arrayLengthLimit X.admits]; omega
  have hh2 : ¬ K * componentBytes .int > e.platform.maxHeapBytes := by
    rw [Launch.admits_maxHeapBytes X.admits]
    show ¬ K * 4 > 536870912
    omega
  jvm_step X.here [hexec, hdg]
  simp only [multianewarray.sem, wp_bind', W.resolveClassAt_links (State.method?_setTop g X.here.top) hg1]
  rw [W.popN, if_neg (by decide)]
  refine ⟨g, State.topJava?_setTop' (s := T.setVm vm1) g X.here.top, [.int u, .int v], rest, rfl, hstack, ?_⟩
  simp only [List.mapM_cons, List.mapM_nil, wp_bind', wp_pure']
  refine m_make (kA := kA1) (kI := kI1) hkA1 hkindA1 hkI1 hkindI1 hu hN hv hK hl1 hh1 hl2 hh2 (by show T.heap.size + 1 + _ ≤ _; omega) (by show T.slotsUsed + _ + _ ≤ _; omega) (fun d1 acts1 => ?_)
  have eS : ((T.setTop g).setVm vm1).setTop { g with stack := rest } = (T.setVm vm1).setTop { g with stack := rest } := by
    show ((T.setVm vm1).setTop g).setTop _ = _
    rw [State.setTop_setTop]
  rw [eS, mT_top]
  simp only [wp_bind', W.mark, W.pushRef, State.topJava?_setTop' _ X2.here.top, Option.some.injEq, exists_eq_left', State.setTop_setTop, State.heap_setTop]
  intro acts2
  simp [jvm, X2.here.top]
  exact a1
theorem w_multi {cc : ByteArray} (hexec : p.tables.exec = Jvm.exec) (hb : c.code = cc) {own nm : String} {index : Nat} {cA cI cJ : ClassId} {kA kI : Class} (hown : s.vm.findClass own = some m.cls) (hclink : (Cond.classLink own index nm).before args s = true) (hnm : s.vm.findClass nm = some cA) (hkA : s.vm.classes[cA]? = some kA) (hkindA : kA.kind = .array cI (.array .int)) (hkI : s.vm.classes[cI]? = some kI) (hkindI : kI.kind = .array cJ .int)
    {pc N K : Nat} {ls : Array Slot} {u v : Int32} {rest : List Value} (hdg : decode cc pc = .ok (.multianewarray index 2, 4)) (hu : ¬ u < 0) (hN : u.toNatClampNeg = N) (hv : ¬ v < 0) (hK : v.toNatClampNeg = K) (hN1 : N < 100000) (hK1 : K < 100000) (hcells : cells + (1 + N) ≤ R.cells) (hslots : slots + (N + N * K) ≤ R.slots)
    (kk : ∀ H1 : Heap, H1.size = H.size + 1 + N → (∀ q, q < H.size → H1[q]? = H[q]?) → H1[H.size]? = some (mO cA N H.size N) → (∀ j, j < N → H1[H.size + 1 + j]? = some (mI cI K)) → W p l e R s m args below meth c H1 locs (cells + 1 + N) (slots + N + N * K) Q (F0 m (pc + 4) ls (.ref H.size :: rest))) : W p l e R s m args below meth c H locs cells slots Q (F0 m pc ls (.int v :: .int u :: rest)) :=
  w_multiG (g := F0 m pc ls (.int v :: .int u :: rest)) hexec hb hown hclink hnm hkA hkindA hkI hkindI rfl hdg rfl hu hN hv hK hN1 hK1 hcells hslots kk
end MW
