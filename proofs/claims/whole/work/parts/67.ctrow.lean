/-! constructors: arrays, new objects, calls, fields -/
theorem ra_same {U : State} {a b : ClassId} {ty : FieldType} (h : va_RA U a ty) (h2 : va_RA U b ty) : a = b := by
  cases ty with
  | object C =>
    obtain ⟨_, _, _, _, _, e1⟩ := h
    obtain ⟨_, _, _, _, _, e2⟩ := h2
    exact Option.some.inj (e1.symm.trans e2)
  | _ => exact Option.some.inj (Eq.trans (Eq.symm h) h2)
theorem nd_app : ∀ (l : List Nat) (a : Nat), va_nd l = true → a ∉ l → va_nd (l ++ [a]) = true
  | [], a, _, _ => by simp [va_nd]
  | b :: l, a, h, ha => by
    simp only [va_nd, Bool.and_eq_true, decide_eq_true_eq] at h
    simp only [List.mem_cons, not_or] at ha
    simp only [List.cons_append, va_nd, Bool.and_eq_true, decide_eq_true_eq]
    refine ⟨fun z => ?_, nd_app l a h.2 ha.2⟩
    rcases List.mem_append.mp z with z | z
    · exact h.1 z
    · exact ha.1 (List.mem_singleton.mp z).symm
theorem nd_range : ∀ n, va_nd (List.range n) = true
  | 0 => rfl
  | n + 1 => by
    rw [List.range_succ]
    exact nd_app _ _ (nd_range n) (by simp)
theorem rng_map (ws : va_W) (x : Nat × va_E) : (List.range ws.length).map (fun i => (ws ++ [x])[i]?) = ws.map some := by
  apply List.ext_getElem?
  intro i
  rw [List.getElem?_map, List.getElem?_map]
  by_cases h : i < ws.length
  · rw [List.getElem?_range h, Option.map_some, List.getElem?_append_left h, List.getElem?_eq_getElem h, Option.map_some]
  · rw [List.getElem?_eq_none (by simpa using h), List.getElem?_eq_none (by simpa using h)]
    rfl
/-- a final field, put in its own class's constructor -/
def Fpf (own : String) (ci k : Nat) (ty : FieldType) : Prop := ∃ (C : String) (T : u_T) (N : Nat), classes[ci]? = some (C, T, N) ∧ (T k).2.2.2 = true ∧ (T k).1 = own ∧ parseFieldDescriptor (T k).2.2.1 = some ty
/-- a class that can be made -/
def Knw (own : String) (i ci N : Nat) (fs : List Value) : Prop := ∃ (C : String) (T : u_T) (ty : Nat → FieldType), classes[ci]? = some (C, T, N) ∧ (∀ w ∈ u_ws C T N, w ∈ GT) ∧ (∀ k, k < N → parseFieldDescriptor (T k).2.2.1 = some (ty k)) ∧ Cond.classLink own i C ∈ GT ∧ Cond.instantiable C N ∈ GT ∧ Cond.initialized C ∈ GT ∧ ∀ j, j < N → defaultValue (ty j) = vp_V fs j
/-- a constructor's words -/
def Kcl (y : MethodName) (cC : ByteArray) (nC nA : Nat) : Prop := Cond.initialized y.cls ∈ GT ∧ Cond.code y cC nC none ∈ GT ∧ nC ≤ 45 ∧ (y.cls ≠ "java/lang/invoke/MethodHandle" ∧ y.cls ≠ "java/lang/invoke/VarHandle" ∧ (parseMethodDescriptor y.desc).map (fun d => d.parameters.length) = some nA) ∧ Cond.instanceMethod y ∈ GT ∧ y.name = "<init>"
section RK
variable {Y : YT} {X : CX} {cc : ByteArray} {nL pc d mc ms k n : Nat} {own : String} {lv lv' : List (Nat × Value)} {st st0 : List Value} {ws rest : va_W}
theorem k_newa {atype : ArrayType} {ty : FieldType} {v : Int} {cA : ClassId} {a0 : vp_A} (N t0 : Nat) (C : Cn Y X cc nL own d mc ms) (hw : Cond.arrayClass ty ∈ GT) (hty : newarray.typeOf atype = ty) (ht : (tyL Y)[t0]? = some (cA, ty)) (ha : ∀ c : ClassId, vp_cell c a0 = arrV c N (fun _ => defaultValue ty)) (hv : v = (N : Nat)) (hN : N < 100000) (hby : N * componentBytes ty ≤ 536870912) (hd : decode cc pc = .ok (.newarray atype, 2)) (hk : k + 1 ≤ mc) (hn : n + N ≤ ms) (kk : ∀ q, KG Y X nL (pc + 2) lv (.ref q :: st) (ws ++ [(q, .inl (cA, a0))]) (k + 1) (n + N)) : KG Y X nL pc lv (vI v :: st) ws k n := by
  obtain ⟨p, l, e, R, s, m, args, below, meth, c, Q, cl, sl⟩ := X
  intro H locs ls hl hP hD hS
  obtain ⟨hx, hb, hml, hown, hts, hK, hY, hf, hlo, hc1, hs1, hlk⟩ := C
  subst hv
  refine va_newa hx hb (by rw [hty]; exact hts _ hw) hty hK.1.1 hP hD hS hY ha (fun z => ?_) (by rw [iI_clamp (by omega) (by omega)]; simp) hby (Nat.le_trans hk hc1) (Nat.le_trans hn hs1) hd (fun q cB H1 hK1 hP1 hD1 hS1 => ?_)
  · have := (iI_lt (a := (N : Nat)) (b := 0) (by omega) inI_0).mp z
    omega
  · have e : cB = cA := ra_same (hK1.2 (tyL Y).length (cB, ty) (by rw [List.getElem?_append_right (Nat.le_refl _)]; simp)).2 (hK.1.1.2 t0 _ ht).2
    subst e
    exact kk q H1 locs ls hl hP1 hD1 hS1
theorem k_new {i ci N : Nat} {fs : List Value} (C : Cn Y X cc nL own d mc ms) (hw : Knw own i ci N fs) (hd : decode cc pc = .ok (.new i, 3)) (hk : k + 1 ≤ mc) (hn : n + N ≤ ms) (kk : ∀ q, KG Y X nL (pc + 3) lv (.ref q :: st) (ws ++ [(q, .inr (ci, fs))]) (k + 1) (n + N)) : KG Y X nL pc lv st ws k n := by
  obtain ⟨p, l, e, R, s, m, args, below, meth, c, Q, cl, sl⟩ := X
  intro H locs ls hl hP hD hS
  obtain ⟨hx, hb, hml, hown, hts, hK, hY, hf, hlo, hc1, hs1, hlk⟩ := C
  obtain ⟨Cc, T, ty, w1, w2, w3, w4, w5, w6, w7⟩ := hw
  exact va_new hx hb hts w2 ty w3 hown (hts _ w4) (hts _ w5) (hts _ w6) hK.1.1 hP hD hS hY w1 w7 (Nat.le_trans hk hc1) (Nat.le_trans hn hs1) hd (fun q H1 hP1 hD1 hS1 => kk q H1 locs ls hl hP1 hD1 hS1)
theorem k_putF {i ci kf a : Nat} {qq : Nat × Int} {ty : FieldType} {v : Value} {fs fs' : List Value} (C : Cn Y X cc nL own d mc ms) (hm : Cm X) (hF : Fld own i ci kf qq) (hp : Fpf own ci kf ty) (hd : decode cc pc = .ok (.putfield i, 3)) (hv : narrow ty v = v) (hfit : fits ty v = true) (hl0 : kf < fs.length) (he : fs.set kf v = fs') (kk : KG Y X nL (pc + 3) lv st ((a, .inr (ci, fs')) :: rest) k n) : KG Y X nL pc lv (v :: .ref a :: st) ((a, .inr (ci, fs)) :: rest) k n := by
  obtain ⟨p, l, e, R, s, m, args, below, meth, c, Q, cl, sl⟩ := X
  intro H locs ls hl hP hD hS
  obtain ⟨hx, hb, hml, hown, hts, hK, hY, hf, hlo, hc1, hs1, hlk⟩ := C
  obtain ⟨Cc, T, N, ty0, w1, w2, w3, w4, w5, w6, w7, w8, w9⟩ := hF
  obtain ⟨Cc2, T2, N2, v1, v2, v3, v4⟩ := hp
  rw [w1] at v1
  cases v1
  subst he
  exact va_putF hx hb hts w2 ty0 w8 w9 hown hK.1.1 hP hD hS 0 rfl w1 kf w3 (hts _ w4) (fun _ h => h) v2 hm v3 v4 hv hfit hl0 hd (fun H1 locs1 hP1 hD1 hS1 => kk H1 locs1 ls hl hP1 hD1 hS1)
theorem k_putN {i ci kf a : Nat} {qq : Nat × Int} {ty : FieldType} {v : Value} {fs fs' : List Value} (C : Cn Y X cc nL own d mc ms) (hF : Fld own i ci kf qq) (hp : Fpt own i ci kf ty) (hd : decode cc pc = .ok (.putfield i, 3)) (hv : narrow ty v = v) (hfit : fits ty v = true) (hl0 : kf < fs.length) (he : fs.set kf v = fs') (kk : KG Y X nL (pc + 3) lv st ((a, .inr (ci, fs')) :: rest) k n) : KG Y X nL pc lv (v :: .ref a :: st) ((a, .inr (ci, fs)) :: rest) k n := by
  obtain ⟨p, l, e, R, s, m, args, below, meth, c, Q, cl, sl⟩ := X
  intro H locs ls hl hP hD hS
  obtain ⟨hx, hb, hml, hown, hts, hK, hY, hf, hlo, hc1, hs1, hlk⟩ := C
  obtain ⟨Cc, T, N, ty0, w1, w2, w3, w4, w5, w6, w7, w8, w9⟩ := hF
  obtain ⟨Cc2, T2, N2, v1, v2, v3, v4⟩ := hp
  rw [w1] at v1
  cases v1
  subst he
  exact va_put hx hb hts w2 ty0 w8 w9 hown hK.1.1 hP hD hS 0 rfl w1 kf w3 (hts _ w4) (fun _ h => h) v3 v4 hv hfit hl0 hd (fun H1 locs1 hP1 hD1 hS1 => kk H1 locs1 ls hl hP1 hD1 hS1)
theorem k_get {i ci kf a : Nat} {qq : Nat × Int} {v : Value} {fs : List Value} (C : Cn Y X cc nL own d mc ms) (hF : Fld own i ci kf qq) (hd : decode cc pc = .ok (.getfield i, 3)) (hv : fs[kf]? = some v) (kk : KG Y X nL (pc + 3) lv (v :: st) ((a, .inr (ci, fs)) :: rest) k n) : KG Y X nL pc lv (.ref a :: st) ((a, .inr (ci, fs)) :: rest) k n := by
  obtain ⟨p, l, e, R, s, m, args, below, meth, c, Q, cl, sl⟩ := X
  intro H locs ls hl hP hD hS
  obtain ⟨hx, hb, hml, hown, hts, hK, hY, hf, hlo, hc1, hs1, hlk⟩ := C
  obtain ⟨Cc, T, N, ty0, w1, w2, w3, w4, w5, w6, w7, w8, w9⟩ := hF
  exact va_get hx hb hts w2 hown hK.1.1 hP 0 rfl w1 kf w3 (hts _ w4) (fun _ h => h) hv hd (kk H locs ls hl hP hD hS)
theorem k_back {p : Program} {l : Launch} {e : Env} {R : Room} {s : State} {m : MethodId} {args : Array Value} {below : List Frame} {meth : Method} {c : Code} {Q : State → Prop} {cl sl : Nat} {H : Heap} {locs : List Loc} {ls : Array Slot} {q ci mC sC : Nat} {fs : List Value} {S : Type} {B : S → va_W} {aa : Array Value}
    (hA : ∀ q, s.heap.size ≤ q → Y.2.2.2 q) (hl : lv_has ls nL lv) (hP : va_P Y.1 classes (ws ++ [(q, .inr (ci, fs))]) H) (hD : va_D Y.2.2.2 (ws ++ [(q, .inr (ci, fs))])) (hS : va_S Y.2.2.2 s.heap H locs)
    (hrun : va_Run p l e R s m args below meth c H locs k n mC sC (F0 m pc ls st0) st (QN Y B (va_A (wC q ci fs) H.size) aa) (va_A (wC q ci fs) H.size))
    (kk : ∀ u, KG Y (p, l, e, R, s, m, args, below, meth, c, Q, cl, sl) nL (pc + 3) lv st (ws ++ B u) (k + mC) (n + sC)) : W p l e R s m args below meth c H locs k n Q (F0 m pc ls st0) := by
  have hC : [ws.length].map (fun i => (ws ++ [(q, .inr (ci, fs))])[i]?) = (wC q ci fs).map some := by simp [wC]
  have hFc := va_free (wc := wC q ci fs) hD hS hA [ws.length] hC
  refine va_callv hrun hS (fun q _ h => hFc q h) hFc (fun u t H1 locs1 ht hvm hw hBt hz hkk hS1 => ?_)
  obtain ⟨hP1, hD1⟩ := hBt
  rw [ht] at hP1
  obtain ⟨hP2, hD2⟩ := va_join (wr := ws) (w1 := B u) hP hD [ws.length] (List.range ws.length) hC (rng_map ws _) (nd_range _) (fun i h1 h2 => by rw [List.mem_singleton] at h2; rw [List.mem_range] at h1; omega) hkk hFc hP1 hD1
  exact kk u H1 locs1 ls hl hP2 hD2 hS1
theorem k_call {i q ci nC dC mC sC nA : Nat} {y : MethodName} {cC : ByteArray} {As fs : List Value} {S : Type} {B : S → va_W} (C : Cn Y X cc nL own d mc ms) (h1 : Cond.methodLink own i y ∈ GT) (hc : Kcl y cC nC nA) (hd : decode cc pc = .ok (.invokespecial i, 3)) (hst : As.reverse ++ .ref q :: st = st0) (hcat : (st.map fun v => v.category).sum ≤ 8) (hlen : As.length = nA) (hdep : dC + 1 ≤ d) (hk : k + mC ≤ mc) (hn : n + sC ≤ ms) (hM : CtrN X.2.1 Y y cC nC dC mC sC (.ref q :: As) q ci fs B) (kk : ∀ u, KG Y X nL (pc + 3) lv st (ws ++ B u) (k + mC) (n + sC)) : KG Y X nL pc lv st0 (ws ++ [(q, .inr (ci, fs))]) k n := by
  obtain ⟨p, l, e, R, s, m, args, below, meth, c, Q, cl, sl⟩ := X
  intro H locs ls hl hP hD hS
  obtain ⟨hx, hb, hml, hown, hts, hK, hY, hf, hlo, hc1, hs1, hlk⟩ := C
  obtain ⟨w1, w2, w3, w4, w5, w6⟩ := hc
  have hC : [ws.length].map (fun i => (ws ++ [(q, .inr (ci, fs))])[i]?) = (wC q ci fs).map some := by simp [wC]
  have hPc := hP.sub (ws' := wC q ci fs) [ws.length] (by simp [wC])
  have hDc := hD.sub (ws' := wC q ci fs) [ws.length] rfl hC
  have hB : CallB R s args own i y cC nC none (Cond.code y cC nC none :: GT) (rk dC mC sC) mC sC nA := callB_of nA hts (gt_in3 w2) rfl rfl rfl (hts _ w1) (hts _ h1) w4 ⟨by show dC + 1 ≤ _; omega, by show 8 + (nC + 11) + 64 * dC ≤ _; omega⟩
  have hrun := va_runI (p := p) (e := e) (below := below) (meth := meth) (locs := locs) (cells := k) (slots := n) (g := F0 m pc ls st0) (As := As) (rest := st) ⟨hx, hb, hml, hown, hts⟩ (hM H.size) ⟨hB, w6, hts _ w5⟩ ⟨blindN, fun U hU hWm => ⟨rfl, by rw [hU], by rw [hU]; exact hPc, KC.warm hWm hK, hDc.weaken (fun _ _ _ _ => trivial)⟩⟩ rfl hlen hl.1 hst.symm (lv_room hcat) hd ⟨Nat.le_trans hk hc1, Nat.le_trans hn hs1⟩
  exact k_back (cl := cl) (sl := sl) hY hl hP hD hS hrun kk
theorem k_callN {i q ci nC dC mC sC nA : Nat} {y : MethodName} {cC : ByteArray} {As fs : List Value} {S : Type} {B : S → va_W} (C : Cn Y X cc nL own d mc ms) (h1 : (own, i, y) ∈ nsW) (hc : Kcl y cC nC nA) (hd : decode cc pc = .ok (.invokespecial i, 3)) (hst : As.reverse ++ .ref q :: st = st0) (hcat : (st.map fun v => v.category).sum ≤ 8) (hlen : As.length = nA) (hdep : dC + 1 ≤ d) (hk : k + mC ≤ mc) (hn : n + sC ≤ ms) (hM : CtrN X.2.1 Y y cC nC dC mC sC (.ref q :: As) q ci fs B) (kk : ∀ u, KG Y X nL (pc + 3) lv st (ws ++ B u) (k + mC) (n + sC)) : KG Y X nL pc lv st0 (ws ++ [(q, .inr (ci, fs))]) k n := by
  obtain ⟨p, l, e, R, s, m, args, below, meth, c, Q, cl, sl⟩ := X
  intro H locs ls hl hP hD hS
  obtain ⟨hx, hb, hml, hown, hts, hK, hY, hf, hlo, hc1, hs1, hlk⟩ := C
  obtain ⟨w1, w2, w3, w4, w5, w6⟩ := hc
  have hC : [ws.length].map (fun i => (ws ++ [(q, .inr (ci, fs))])[i]?) = (wC q ci fs).map some := by simp [wC]
  have hPc := hP.sub (ws' := wC q ci fs) [ws.length] (by simp [wC])
  have hDc := hD.sub (ws' := wC q ci fs) [ws.length] rfl hC
  have hB : va_CN R s args own i y RX11 cC nC none (Cond.code y cC nC none :: GT) (rk dC mC sC) mC sC nA := va_cnB nA hts (gt_in3 w2) rfl rfl rfl (hK.2.1 _ h1) (hts _ w1) w4 ⟨by show dC + 1 ≤ _; omega, by show 8 + (nC + 11) + 64 * dC ≤ _; omega⟩
  have hrun := va_runIN (p := p) (e := e) (below := below) (meth := meth) (locs := locs) (cells := k) (slots := n) (g := F0 m pc ls st0) (As := As) (rest := st) ⟨hx, hb, hml, hown, hts⟩ (hM H.size) ⟨hB, w6, hts _ w5⟩ ⟨blindN, fun U hU hWm => ⟨rfl, by rw [hU], by rw [hU]; exact hPc, KC.warm hWm hK, hDc.weaken (fun _ _ _ _ => trivial)⟩⟩ rfl hlen hl.1 hst.symm (lv_room hcat) hd ⟨Nat.le_trans hk hc1, Nat.le_trans hn hs1⟩
  exact k_back (cl := cl) (sl := sl) hY hl hP hD hS hrun kk
end RK
