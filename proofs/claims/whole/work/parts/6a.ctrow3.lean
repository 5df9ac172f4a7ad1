/-! constructors: a field of any cell, rows of references, an array into a field -/
section RK
variable {Y : YT} {X : CX} {cc : ByteArray} {nL pc d mc ms k n : Nat} {own : String} {lv lv' : List (Nat × Value)} {st st0 : List Value} {ws ws' rest : va_W}
theorem k_getQ {i ci kf a : Nat} {qq : Nat × Int} {v : Value} {fs : List Value} (q0 : Nat) (C : Cn Y X cc nL own d mc ms) (hF : Fld own i ci kf qq) (hw : ws[q0]? = some (a, .inr (ci, fs))) (hd : decode cc pc = .ok (.getfield i, 3)) (hv : fs[kf]? = some v) (kk : KG Y X nL (pc + 3) lv (v :: st) ws k n) : KG Y X nL pc lv (.ref a :: st) ws k n := by
  obtain ⟨p, l, e, R, s, m, args, below, meth, c, Q, cl, sl⟩ := X
  intro H locs ls hl hP hD hS
  obtain ⟨hx, hb, hml, hown, hts, hK, hY, hf, hlo, hc1, hs1, hlk⟩ := C
  obtain ⟨Cc, T, N, ty0, w1, w2, w3, w4, w5, w6, w7, w8, w9⟩ := hF
  exact va_get hx hb hts w2 hown hK.1.1 hP q0 hw w1 kf w3 (hts _ w4) (fun _ h => h) hv hd (kk H locs ls hl hP hD hS)
theorem k_anew {i : Nat} {v : Int} (N : Nat) (C : Cn Y X cc nL own d mc ms) (hw : Cond.classLink own i RX6 ∈ GT) (hv : v = (N : Nat)) (hN : N < 100000) (hd : decode cc pc = .ok (.anewarray i, 3)) (hk : k + 1 ≤ mc) (hn : n + N ≤ ms) (kk : ∀ q, KG Y X nL (pc + 3) lv (.ref q :: st) (ws ++ [(q, .inl (Y.2.1 23, N, .inr (.inr (.inr (.inr fun _ => none)))))]) (k + 1) (n + N)) : KG Y X nL pc lv (vI v :: st) ws k n := by
  obtain ⟨p, l, e, R, s, m, args, below, meth, c, Q, cl, sl⟩ := X
  intro H locs ls hl hP hD hS
  obtain ⟨hx, hb, hml, hown, hts, hK, hY, hf, hlo, hc1, hs1, hlk⟩ := C
  subst hv
  refine va_newq hx hb hown (hts _ hw) hK.2.2.1 hK.1.1 hP hD hS hY (N' := N) (fun z => ?_) (by rw [iI_clamp (by omega) (by omega)]; simp) (by omega) (Nat.le_trans hk hc1) (Nat.le_trans hn hs1) hd (fun q cB H1 hK1 hP1 hD1 hS1 => ?_)
  · have := (iI_lt (a := (N : Nat)) (b := 0) (by omega) inI_0).mp z
    omega
  · have e : cB = Y.2.1 23 := ra_same (hK1.2 (tyL Y).length (cB, .object RX6) (by rw [List.getElem?_append_right (Nat.le_refl _)]; simp)).2 (hK.1.1.2 3 (Y.2.1 23, .object RX6) rfl).2
    subst e
    exact kk q H1 locs ls hl hP1 hD1 hS1
theorem k_aast {i : Int} {a v N : Nat} {vs : List Value} {f : Nat → Option Nat} (q0 qk : Nat) (C : Cn Y X cc nL own d mc ms) (ha : ws[q0]? = some (a, .inl (Y.2.1 23, N, .inr (.inr (.inr (.inr f)))))) (hv : ws[qk]? = some (v, .inr (6, vs))) (hi : 0 ≤ i ∧ i < (N : Nat)) (hN : N < 100000) (hd : decode cc pc = .ok (.aastore, 1)) (hw : ws.set q0 (a, .inl (Y.2.1 23, N, .inr (.inr (.inr (.inr (va_up f i.toNat (some v))))))) = ws') (kk : KG Y X nL (pc + 1) lv st ws' k n) : KG Y X nL pc lv (.ref v :: vI i :: .ref a :: st) ws k n := by
  obtain ⟨p, l, e, R, s, m, args, below, meth, c, Q, cl, sl⟩ := X
  intro H locs ls hl hP hD hS
  obtain ⟨hx, hb, hml, hown, hts, hK, hY, hf, hlo, hc1, hs1, hlk⟩ := C
  subst hw
  refine va_astq hx hb hK.1.1 hP hD hS q0 3 qk 6 (r := (RX6, TX6, 5)) ha rfl hv rfl (iI_in hi (by omega)) hd (fun H1 locs1 hP1 hD1 hS1 => ?_)
  rw [iI_clamp hi.1 (by omega)] at hP1 hD1
  exact kk H1 locs1 ls hl hP1 hD1 hS1
theorem k_arrput {i ci kf a N t0 L k' n' : Nat} {qq : Nat × Int} {atype : ArrayType} {ty tyf : FieldType} {v : Int} {cA : ClassId} {a0 : vp_A} {fs : List Value} (C : Cn Y X cc nL own d mc ms) (hm : Cm X) (hw : Cond.arrayClass ty ∈ GT) (hty : newarray.typeOf atype = ty) (ht : (tyL Y)[t0]? = some (cA, ty)) (ha : ∀ c : ClassId, vp_cell c a0 = arrV c N (fun _ => defaultValue ty)) (hv : v = (N : Nat)) (hN : N < 100000) (hby : N * componentBytes ty ≤ 536870912) (hd : decode cc pc = .ok (.newarray atype, 2)) (hF : Fld own i ci kf qq) (hp : Fpf own ci kf tyf) (hd2 : decode cc (pc + 2) = .ok (.putfield i, 3)) (hna : ∀ q : Nat, narrow tyf (.ref q) = .ref q) (hfit : ∀ q : Nat, fits tyf (.ref q) = true) (hL : fs.length = L) (hkf : kf < L) (hk : k + 1 = k') (hn : n + N = n') (hk2 : k' ≤ mc) (hn2 : n' ≤ ms) (kk : ∀ (q : Nat) (fs' : List Value) (rest' : va_W), fs'.length = L → fs' = fs.set kf (.ref q) → rest' = rest ++ [(q, .inl (cA, a0))] → KG Y X nL (pc + 5) lv [] ((a, .inr (ci, fs')) :: rest') k' n') : KG Y X nL pc lv (vI v :: .ref a :: []) ((a, .inr (ci, fs)) :: rest) k n := by
  subst hk hn
  refine k_newa N t0 C hw hty ht ha hv hN hby hd hk2 hn2 (fun q => ?_)
  exact k_putF (pc := pc + 2) C hm hF hp hd2 (hna q) (hfit q) (by rw [hL]; exact hkf) rfl (kk q _ _ (by rw [List.length_set]; exact hL) rfl rfl)
theorem k_intput {i ci kf a L : Nat} {qq : Nat × Int} {ty : FieldType} {v : Value} {fs : List Value} (C : Cn Y X cc nL own d mc ms) (hF : Fld own i ci kf qq) (hp : Fpt own i ci kf ty) (hd : decode cc pc = .ok (.putfield i, 3)) (hv : narrow ty v = v) (hfit : fits ty v = true) (hL : fs.length = L) (hkf : kf < L) (kk : ∀ fs' : List Value, fs'.length = L → fs' = fs.set kf v → KG Y X nL (pc + 3) lv st ((a, .inr (ci, fs')) :: rest) k n) : KG Y X nL pc lv (v :: .ref a :: st) ((a, .inr (ci, fs)) :: rest) k n :=
  k_putN C hF hp hd hv hfit (by rw [hL]; exact hkf) rfl (kk _ (by rw [List.length_set]; exact hL) rfl)
end RK
