/-! constructors: loops -/
section RK
variable {Y : YT} {X : CX} {cc : ByteArray} {nL pc d mc ms k n : Nat} {own : String} {lv lv' : List (Nat × Value)} {st st0 : List Value} {ws ws' rest : va_W}
theorem k_istore {j : Fin 4} {i : Nat} {x : Int} (C : Cn Y X cc nL own d mc ms) (hd : decode cc pc = .ok (.istore_n j, 1)) (hi : (j : Nat) = i) (hn : i < nL) (hv : (i, vI x) :: lv.filter (fun q => !(q.1 == i) && !(q.1 + 1 == i && q.2.category == 2)) = lv') (kk : KG Y X nL (pc + 1) lv' st ws k n) : KG Y X nL pc lv (vI x :: st) ws k n := by
  obtain ⟨p, l, e, R, s, m, args, below, meth, c, Q, cl, sl⟩ := X
  intro H locs ls hl hP hD hS
  exact lv_istore_n C.1 C.2.1 hd hi hl hn hv (fun ls hl => kk H locs ls hl hP hD hS)
theorem k_iload {j : Fin 4} {i q : Nat} {x : Int} (C : Cn Y X cc nL own d mc ms) (hd : decode cc pc = .ok (.iload_n j, 1)) (hi : (j : Nat) = i) (hq : lv[q]? = some (i, vI x)) (kk : KG Y X nL (pc + 1) lv (vI x :: st) ws k n) : KG Y X nL pc lv st ws k n := by
  obtain ⟨p, l, e, R, s, m, args, below, meth, c, Q, cl, sl⟩ := X
  intro H locs ls hl hP hD hS
  exact lv_iload_n C.1 C.2.1 hd hi (lv_at hl q hq) (kk H locs ls hl hP hD hS)
theorem k_iinc {i q : Nat} {w x v : Int} (C : Cn Y X cc nL own d mc ms) (hd : decode cc pc = .ok (.iinc i w, 3)) (hq : lv[q]? = some (i, vI x)) (hx : x + w = v) (hn : i < nL) (hv : (i, vI v) :: lv.filter (fun q => !(q.1 == i) && !(q.1 + 1 == i && q.2.category == 2)) = lv') (kk : KG Y X nL (pc + 3) lv' st ws k n) : KG Y X nL pc lv st ws k n := by
  obtain ⟨p, l, e, R, s, m, args, below, meth, c, Q, cl, sl⟩ := X
  intro H locs ls hl hP hD hS
  subst hx
  exact lv_iinc C.1 C.2.1 hd hl hq (iI_add x w) hn hv (fun ls hl => kk H locs ls hl hP hD hS)
theorem k_goto {off : Int} {tgt : Nat} (C : Cn Y X cc nL own d mc ms) (hd : decode cc pc = .ok (.goto off, 3)) (ht : (pc : Int) + off = (tgt : Int)) (kk : KG Y X nL tgt lv st ws k n) : KG Y X nL pc lv st ws k n := by
  obtain ⟨p, l, e, R, s, m, args, below, meth, c, Q, cl, sl⟩ := X
  intro H locs ls hl hP hD hS
  exact lv_goto C.1 C.2.1 hd ht (kk H locs ls hl hP hD hS)
theorem k_ge {x y off : Int} {tgt : Nat} (C : Cn Y X cc nL own d mc ms) (hd : decode cc pc = .ok (.if_icmp .ge off, 3)) (ht : (pc : Int) + off = (tgt : Int)) (hx : inI x) (hy : inI y) (kt : y ≤ x → KG Y X nL tgt lv st ws k n) (kf : ¬ y ≤ x → KG Y X nL (pc + 3) lv st ws k n) : KG Y X nL pc lv (vI y :: vI x :: st) ws k n := by
  obtain ⟨p, l, e, R, s, m, args, below, meth, c, Q, cl, sl⟩ := X
  intro H locs ls hl hP hD hS
  exact lv_icmp_ge C.1 C.2.1 hd ht (fun q => kt ((iI_le hy hx).mp q) H locs ls hl hP hD hS) (fun q => kf (fun z => q ((iI_le hy hx).mpr z)) H locs ls hl hP hD hS)
theorem k_iast {i x : Int} {a N : Nat} {f : Nat → Int32} (q0 : Nat) (C : Cn Y X cc nL own d mc ms) (ha : ws[q0]? = some (a, .inl (Y.2.1 20, N, .inl f))) (hi : 0 ≤ i ∧ i < (N : Nat)) (hN : N < 100000) (hd : decode cc pc = .ok (.iastore, 1)) (hw : ws.set q0 (a, .inl (Y.2.1 20, N, .inl (upd f i.toNat (iI x)))) = ws') (kk : KG Y X nL (pc + 1) lv st ws' k n) : KG Y X nL pc lv (vI x :: vI i :: .ref a :: st) ws k n := by
  obtain ⟨p, l, e, R, s, m, args, below, meth, c, Q, cl, sl⟩ := X
  intro H locs ls hl hP hD hS
  obtain ⟨hx, hb, hml, hown, hts, hK, hY, hf, hlo, hc1, hs1, hlk⟩ := C
  subst hw
  refine va_iast hx hb hK.1.1 hP hD hS q0 0 ha rfl (iI_in hi (by omega)) hd (fun H1 locs1 hP1 hD1 hS1 => ?_)
  rw [iI_clamp hi.1 (by omega)] at hP1 hD1
  exact kk H1 locs1 ls hl hP1 hD1 hS1
end RK
