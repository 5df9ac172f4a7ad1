/-! cell by cell -/
section ST
variable {D : va_G} {Y : YT} {y : Nat → Nat} {H : Heap} {qx qm : Nat} {u : SX11_} {v : Nat → Nat}
theorem ces_ (Y : YT) {a n : Nat} {m : Int → Int} (h : kdN a = 23) (hl : lnN a = n) : cel Y a m = .inl (Y.2.1 23, n, .inr (.inr (.inr (.inr fun j => some (Y.2.2.1 (a + 2 + 6 * j)))))) := by
  subst hl
  unfold cel
  rw [h, if_neg (by decide), if_neg (by decide), if_pos rfl]
theorem ceg_ (Y : YT) {a n : Nat} {m : Int → Int} (h : kdN a = 24) (hl : lnN a = n) : cel Y a m = .inl (Y.2.1 24, n, .inr (.inr (.inr (.inr fun j => some (Y.2.2.1 (a + 1 + j)))))) := by
  subst hl
  unfold cel
  rw [h, if_neg (by decide), if_neg (by decide), if_neg (by decide), if_pos rfl]
theorem at_same {D : va_G} {H : Heap} {q N : Nat} {c : ClassId} {e1 e2 : vp_A} (f g : Nat → Value) (h1 : vp_cell c e1 = arrV c N f) (h2 : vp_cell c e2 = arrV c N g) (hfg : ∀ j, j < N → f j = g j) (h : va_at D classes (q, .inl (c, e1)) H) : va_at D classes (q, .inl (c, e2)) H := by
  have h3 : H[q]? = some (vp_cell c e1) := h
  show H[q]? = some (vp_cell c e2)
  rw [h3, h1, h2, arrV_ext hfg]
theorem pk_own : ∀ j, j < 24 → pkv j 6 = ownL.getD j 0 := by decide +kernel
theorem st_0 (hP : va_P D classes (wA Y qx u qm v) H) (hy : ∀ k x, (wA Y qx u qm v)[k]? = some x → y k = x.1) : va_at D classes (y 0, cel (Y.1, Y.2.1, y, Y.2.2.2) 0 (M0 ((0 : Nat) : Int))) H := by
  rw [cX_0]
  show va_at D classes (y 0, .inr (11, [.ref (y 1), .ref (y 4), .ref (y 6), .ref (y 23), .ref (y 40), .ref (y 46), .ref (y 52), .ref (y 57), .int 0, .ref (y 62), .ref (y 185), .ref (y 187), .ref (y 198), vI (1)])) H
  rw [hy 0 _ (wa_0 Y qx u qm v)]
  rw [hy 1 _ (wa_1 Y qx u qm v)]
  rw [hy 4 _ (wa_4 Y qx u qm v)]
  rw [hy 6 _ (wa_6 Y qx u qm v)]
  rw [hy 23 _ (wa_23 Y qx u qm v)]
  rw [hy 40 _ (wa_40 Y qx u qm v)]
  rw [hy 46 _ (wa_46 Y qx u qm v)]
  rw [hy 52 _ (wa_52 Y qx u qm v)]
  rw [hy 57 _ (wa_57 Y qx u qm v)]
  rw [hy 62 _ (wa_62 Y qx u qm v)]
  rw [hy 185 _ (wa_185 Y qx u qm v)]
  rw [hy 187 _ (wa_187 Y qx u qm v)]
  rw [hy 198 _ (wa_198 Y qx u qm v)]
  exact hP 0 _ (wa_0 Y qx u qm v)
theorem st_1 (hP : va_P D classes (wA Y qx u qm v) H) (hy : ∀ k x, (wA Y qx u qm v)[k]? = some x → y k = x.1) : va_at D classes (y 1, cel (Y.1, Y.2.1, y, Y.2.2.2) 1 (M0 ((1 : Nat) : Int))) H := by
  rw [cX_1]
  show va_at D classes (y 1, .inr (7, [.ref (y 2), .int 0, .int 0, .int 0, .int 0, .int 0, .int 0, vI (-1), .ref (y 3), .int 0, .int 0])) H
  rw [hy 1 _ (wa_1 Y qx u qm v)]
  rw [hy 2 _ (wa_2 Y qx u qm v)]
  rw [hy 3 _ (wa_3 Y qx u qm v)]
  exact hP 1 _ (wa_1 Y qx u qm v)
theorem st_2 (hP : va_P D classes (wA Y qx u qm v) H) (hy : ∀ k x, (wA Y qx u qm v)[k]? = some x → y k = x.1) : va_at D classes (y 2, cel (Y.1, Y.2.1, y, Y.2.2.2) 2 (M0 ((2 : Nat) : Int))) H := by
  rw [cX_2]
  show va_at D classes (y 2, .inl (Y.2.1 20, 1600, .inl fun _ => 0)) H
  rw [hy 2 _ (wa_2 Y qx u qm v)]
  exact hP 2 _ (wa_2 Y qx u qm v)
theorem st_3 (hP : va_P D classes (wA Y qx u qm v) H) (hy : ∀ k x, (wA Y qx u qm v)[k]? = some x → y k = x.1) : va_at D classes (y 3, cel (Y.1, Y.2.1, y, Y.2.2.2) 3 (M0 ((3 : Nat) : Int))) H := by
  have h := hP 3 _ (wa_3 Y qx u qm v)
  rw [cei_ _ (M0 ((3 : Nat) : Int)) (c := 20) (n := 24) (by decide +kernel) (by decide +kernel) (by decide), hy 3 _ (wa_3 Y qx u qm v)]
  refine at_same (fun j => .int (if j < 24 then iI (pkv j 6) else 0)) (fun j => .int (iI (M0 ((3 : Nat) : Int) j))) rfl rfl (fun j hj => ?_) h
  have e : M0 ((3 : Nat) : Int) (j : Int) = pkv j 6 := by rw [pk_own j hj]; rfl
  rw [if_pos hj, e]
theorem st_4 (hP : va_P D classes (wA Y qx u qm v) H) (hy : ∀ k x, (wA Y qx u qm v)[k]? = some x → y k = x.1) : va_at D classes (y 4, cel (Y.1, Y.2.1, y, Y.2.2.2) 4 (M0 ((4 : Nat) : Int))) H := by
  rw [cX_4]
  show va_at D classes (y 4, .inr (9, [.ref (y 1), .ref (y 5), .null, .int 0])) H
  rw [hy 1 _ (wa_1 Y qx u qm v)]
  rw [hy 4 _ (wa_4 Y qx u qm v)]
  rw [hy 5 _ (wa_5 Y qx u qm v)]
  exact hP 4 _ (wa_4 Y qx u qm v)
theorem st_5 (hP : va_P D classes (wA Y qx u qm v) H) (hy : ∀ k x, (wA Y qx u qm v)[k]? = some x → y k = x.1) : va_at D classes (y 5, cel (Y.1, Y.2.1, y, Y.2.2.2) 5 (M0 ((5 : Nat) : Int))) H := by
  rw [cX_5]
  show va_at D classes (y 5, .inr (2, [.ref (y 1), .null, .int 0])) H
  rw [hy 1 _ (wa_1 Y qx u qm v)]
  rw [hy 5 _ (wa_5 Y qx u qm v)]
  exact hP 5 _ (wa_5 Y qx u qm v)
theorem st_6 (hP : va_P D classes (wA Y qx u qm v) H) (hy : ∀ k x, (wA Y qx u qm v)[k]? = some x → y k = x.1) : va_at D classes (y 6, cel (Y.1, Y.2.1, y, Y.2.2.2) 6 (M0 ((6 : Nat) : Int))) H := by
  rw [cX_6]
  show va_at D classes (y 6, .inr (8, [.int 0, .ref (y 7), .int 0, .ref (y 8), .ref (y 9), .int 0, .ref (y 10), .ref (y 11), .ref (y 12), .int 0, .ref (y 13), .int 0, .ref (y 17), .ref (y 20)])) H
  rw [hy 6 _ (wa_6 Y qx u qm v)]
  rw [hy 7 _ (wa_7 Y qx u qm v)]
  rw [hy 8 _ (wa_8 Y qx u qm v)]
  rw [hy 9 _ (wa_9 Y qx u qm v)]
  rw [hy 10 _ (wa_10 Y qx u qm v)]
  rw [hy 11 _ (wa_11 Y qx u qm v)]
  rw [hy 12 _ (wa_12 Y qx u qm v)]
  rw [hy 13 _ (wa_13 Y qx u qm v)]
  rw [hy 17 _ (wa_17 Y qx u qm v)]
  rw [hy 20 _ (wa_20 Y qx u qm v)]
  exact hP 6 _ (wa_6 Y qx u qm v)
theorem st_7 (hP : va_P D classes (wA Y qx u qm v) H) (hy : ∀ k x, (wA Y qx u qm v)[k]? = some x → y k = x.1) : va_at D classes (y 7, cel (Y.1, Y.2.1, y, Y.2.2.2) 7 (M0 ((7 : Nat) : Int))) H := by
  rw [cX_7]
  show va_at D classes (y 7, .inl (Y.2.1 20, 7, .inl fun _ => 0)) H
  rw [hy 7 _ (wa_7 Y qx u qm v)]
  exact hP 7 _ (wa_7 Y qx u qm v)
theorem st_8 (hP : va_P D classes (wA Y qx u qm v) H) (hy : ∀ k x, (wA Y qx u qm v)[k]? = some x → y k = x.1) : va_at D classes (y 8, cel (Y.1, Y.2.1, y, Y.2.2.2) 8 (M0 ((8 : Nat) : Int))) H := by
  rw [cX_8]
  show va_at D classes (y 8, .inl (Y.2.1 20, 7, .inl fun _ => 0)) H
  rw [hy 8 _ (wa_8 Y qx u qm v)]
  exact hP 8 _ (wa_8 Y qx u qm v)
theorem st_9 (hP : va_P D classes (wA Y qx u qm v) H) (hy : ∀ k x, (wA Y qx u qm v)[k]? = some x → y k = x.1) : va_at D classes (y 9, cel (Y.1, Y.2.1, y, Y.2.2.2) 9 (M0 ((9 : Nat) : Int))) H := by
  rw [cX_9]
  show va_at D classes (y 9, .inl (Y.2.1 20, 49, .inl fun _ => 0)) H
  rw [hy 9 _ (wa_9 Y qx u qm v)]
  exact hP 9 _ (wa_9 Y qx u qm v)
theorem st_10 (hP : va_P D classes (wA Y qx u qm v) H) (hy : ∀ k x, (wA Y qx u qm v)[k]? = some x → y k = x.1) : va_at D classes (y 10, cel (Y.1, Y.2.1, y, Y.2.2.2) 10 (M0 ((10 : Nat) : Int))) H := by
  rw [cX_10]
  show va_at D classes (y 10, .inl (Y.2.1 20, 6, .inl fun _ => 0)) H
  rw [hy 10 _ (wa_10 Y qx u qm v)]
  exact hP 10 _ (wa_10 Y qx u qm v)
theorem st_11 (hP : va_P D classes (wA Y qx u qm v) H) (hy : ∀ k x, (wA Y qx u qm v)[k]? = some x → y k = x.1) : va_at D classes (y 11, cel (Y.1, Y.2.1, y, Y.2.2.2) 11 (M0 ((11 : Nat) : Int))) H := by
  rw [cX_11]
  show va_at D classes (y 11, .inl (Y.2.1 20, 6, .inl fun _ => 0)) H
  rw [hy 11 _ (wa_11 Y qx u qm v)]
  exact hP 11 _ (wa_11 Y qx u qm v)
theorem st_12 (hP : va_P D classes (wA Y qx u qm v) H) (hy : ∀ k x, (wA Y qx u qm v)[k]? = some x → y k = x.1) : va_at D classes (y 12, cel (Y.1, Y.2.1, y, Y.2.2.2) 12 (M0 ((12 : Nat) : Int))) H := by
  rw [cX_12]
  show va_at D classes (y 12, .inl (Y.2.1 20, 6, .inl fun _ => 0)) H
  rw [hy 12 _ (wa_12 Y qx u qm v)]
  exact hP 12 _ (wa_12 Y qx u qm v)
theorem st_13 (hP : va_P D classes (wA Y qx u qm v) H) (hy : ∀ k x, (wA Y qx u qm v)[k]? = some x → y k = x.1) : va_at D classes (y 13, cel (Y.1, Y.2.1, y, Y.2.2.2) 13 (M0 ((13 : Nat) : Int))) H := by
  rw [cX_13]
  show va_at D classes (y 13, .inr (5, [.int 0, .ref (y 14), .ref (y 15), .ref (y 16)])) H
  rw [hy 13 _ (wa_13 Y qx u qm v)]
  rw [hy 14 _ (wa_14 Y qx u qm v)]
  rw [hy 15 _ (wa_15 Y qx u qm v)]
  rw [hy 16 _ (wa_16 Y qx u qm v)]
  exact hP 13 _ (wa_13 Y qx u qm v)
theorem st_14 (hP : va_P D classes (wA Y qx u qm v) H) (hy : ∀ k x, (wA Y qx u qm v)[k]? = some x → y k = x.1) : va_at D classes (y 14, cel (Y.1, Y.2.1, y, Y.2.2.2) 14 (M0 ((14 : Nat) : Int))) H := by
  rw [cX_14]
  show va_at D classes (y 14, .inl (Y.2.1 20, 9, .inl fun _ => 0)) H
  rw [hy 14 _ (wa_14 Y qx u qm v)]
  exact hP 14 _ (wa_14 Y qx u qm v)
theorem st_15 (hP : va_P D classes (wA Y qx u qm v) H) (hy : ∀ k x, (wA Y qx u qm v)[k]? = some x → y k = x.1) : va_at D classes (y 15, cel (Y.1, Y.2.1, y, Y.2.2.2) 15 (M0 ((15 : Nat) : Int))) H := by
  rw [cX_15]
  show va_at D classes (y 15, .inl (Y.2.1 20, 9, .inl fun _ => 0)) H
  rw [hy 15 _ (wa_15 Y qx u qm v)]
  exact hP 15 _ (wa_15 Y qx u qm v)
theorem st_16 (hP : va_P D classes (wA Y qx u qm v) H) (hy : ∀ k x, (wA Y qx u qm v)[k]? = some x → y k = x.1) : va_at D classes (y 16, cel (Y.1, Y.2.1, y, Y.2.2.2) 16 (M0 ((16 : Nat) : Int))) H := by
  rw [cX_16]
  show va_at D classes (y 16, .inl (Y.2.1 20, 9, .inl fun _ => 0)) H
  rw [hy 16 _ (wa_16 Y qx u qm v)]
  exact hP 16 _ (wa_16 Y qx u qm v)
theorem st_17 (hP : va_P D classes (wA Y qx u qm v) H) (hy : ∀ k x, (wA Y qx u qm v)[k]? = some x → y k = x.1) : va_at D classes (y 17, cel (Y.1, Y.2.1, y, Y.2.2.2) 17 (M0 ((17 : Nat) : Int))) H := by
  rw [cX_17]
  show va_at D classes (y 17, .inr (1, [.ref (y 18), .ref (y 19), .int 0])) H
  rw [hy 17 _ (wa_17 Y qx u qm v)]
  rw [hy 18 _ (wa_18 Y qx u qm v)]
  rw [hy 19 _ (wa_19 Y qx u qm v)]
  exact hP 17 _ (wa_17 Y qx u qm v)
theorem st_18 (hP : va_P D classes (wA Y qx u qm v) H) (hy : ∀ k x, (wA Y qx u qm v)[k]? = some x → y k = x.1) : va_at D classes (y 18, cel (Y.1, Y.2.1, y, Y.2.2.2) 18 (M0 ((18 : Nat) : Int))) H := by
  rw [cX_18]
  show va_at D classes (y 18, .inl (Y.2.1 20, 1600, .inl fun _ => 0)) H
  rw [hy 18 _ (wa_18 Y qx u qm v)]
  exact hP 18 _ (wa_18 Y qx u qm v)
theorem st_19 (hP : va_P D classes (wA Y qx u qm v) H) (hy : ∀ k x, (wA Y qx u qm v)[k]? = some x → y k = x.1) : va_at D classes (y 19, cel (Y.1, Y.2.1, y, Y.2.2.2) 19 (M0 ((19 : Nat) : Int))) H := by
  rw [cX_19]
  show va_at D classes (y 19, .inl (Y.2.1 20, 64, .inl fun _ => 0)) H
  rw [hy 19 _ (wa_19 Y qx u qm v)]
  exact hP 19 _ (wa_19 Y qx u qm v)
theorem st_20 (hP : va_P D classes (wA Y qx u qm v) H) (hy : ∀ k x, (wA Y qx u qm v)[k]? = some x → y k = x.1) : va_at D classes (y 20, cel (Y.1, Y.2.1, y, Y.2.2.2) 20 (M0 ((20 : Nat) : Int))) H := by
  rw [cX_20]
  show va_at D classes (y 20, .inr (1, [.ref (y 21), .ref (y 22), .int 0])) H
  rw [hy 20 _ (wa_20 Y qx u qm v)]
  rw [hy 21 _ (wa_21 Y qx u qm v)]
  rw [hy 22 _ (wa_22 Y qx u qm v)]
  exact hP 20 _ (wa_20 Y qx u qm v)
theorem st_21 (hP : va_P D classes (wA Y qx u qm v) H) (hy : ∀ k x, (wA Y qx u qm v)[k]? = some x → y k = x.1) : va_at D classes (y 21, cel (Y.1, Y.2.1, y, Y.2.2.2) 21 (M0 ((21 : Nat) : Int))) H := by
  rw [cX_21]
  show va_at D classes (y 21, .inl (Y.2.1 20, 1600, .inl fun _ => 0)) H
  rw [hy 21 _ (wa_21 Y qx u qm v)]
  exact hP 21 _ (wa_21 Y qx u qm v)
theorem st_22 (hP : va_P D classes (wA Y qx u qm v) H) (hy : ∀ k x, (wA Y qx u qm v)[k]? = some x → y k = x.1) : va_at D classes (y 22, cel (Y.1, Y.2.1, y, Y.2.2.2) 22 (M0 ((22 : Nat) : Int))) H := by
  rw [cX_22]
  show va_at D classes (y 22, .inl (Y.2.1 20, 64, .inl fun _ => 0)) H
  rw [hy 22 _ (wa_22 Y qx u qm v)]
  exact hP 22 _ (wa_22 Y qx u qm v)
theorem st_23 (hP : va_P D classes (wA Y qx u qm v) H) (hy : ∀ k x, (wA Y qx u qm v)[k]? = some x → y k = x.1) : va_at D classes (y 23, cel (Y.1, Y.2.1, y, Y.2.2.2) 23 (M0 ((23 : Nat) : Int))) H := by
  rw [cX_23]
  show va_at D classes (y 23, .inr (8, [.int 0, .ref (y 24), .int 0, .ref (y 25), .ref (y 26), .int 0, .ref (y 27), .ref (y 28), .ref (y 29), .int 0, .ref (y 30), .int 0, .ref (y 34), .ref (y 37)])) H
  rw [hy 23 _ (wa_23 Y qx u qm v)]
  rw [hy 24 _ (wa_24 Y qx u qm v)]
  rw [hy 25 _ (wa_25 Y qx u qm v)]
  rw [hy 26 _ (wa_26 Y qx u qm v)]
  rw [hy 27 _ (wa_27 Y qx u qm v)]
  rw [hy 28 _ (wa_28 Y qx u qm v)]
  rw [hy 29 _ (wa_29 Y qx u qm v)]
  rw [hy 30 _ (wa_30 Y qx u qm v)]
  rw [hy 34 _ (wa_34 Y qx u qm v)]
  rw [hy 37 _ (wa_37 Y qx u qm v)]
  exact hP 23 _ (wa_23 Y qx u qm v)
theorem st_24 (hP : va_P D classes (wA Y qx u qm v) H) (hy : ∀ k x, (wA Y qx u qm v)[k]? = some x → y k = x.1) : va_at D classes (y 24, cel (Y.1, Y.2.1, y, Y.2.2.2) 24 (M0 ((24 : Nat) : Int))) H := by
  rw [cX_24]
  show va_at D classes (y 24, .inl (Y.2.1 20, 7, .inl fun _ => 0)) H
  rw [hy 24 _ (wa_24 Y qx u qm v)]
  exact hP 24 _ (wa_24 Y qx u qm v)
theorem st_25 (hP : va_P D classes (wA Y qx u qm v) H) (hy : ∀ k x, (wA Y qx u qm v)[k]? = some x → y k = x.1) : va_at D classes (y 25, cel (Y.1, Y.2.1, y, Y.2.2.2) 25 (M0 ((25 : Nat) : Int))) H := by
  rw [cX_25]
  show va_at D classes (y 25, .inl (Y.2.1 20, 7, .inl fun _ => 0)) H
  rw [hy 25 _ (wa_25 Y qx u qm v)]
  exact hP 25 _ (wa_25 Y qx u qm v)
theorem st_26 (hP : va_P D classes (wA Y qx u qm v) H) (hy : ∀ k x, (wA Y qx u qm v)[k]? = some x → y k = x.1) : va_at D classes (y 26, cel (Y.1, Y.2.1, y, Y.2.2.2) 26 (M0 ((26 : Nat) : Int))) H := by
  rw [cX_26]
  show va_at D classes (y 26, .inl (Y.2.1 20, 49, .inl fun _ => 0)) H
  rw [hy 26 _ (wa_26 Y qx u qm v)]
  exact hP 26 _ (wa_26 Y qx u qm v)
theorem st_27 (hP : va_P D classes (wA Y qx u qm v) H) (hy : ∀ k x, (wA Y qx u qm v)[k]? = some x → y k = x.1) : va_at D classes (y 27, cel (Y.1, Y.2.1, y, Y.2.2.2) 27 (M0 ((27 : Nat) : Int))) H := by
  rw [cX_27]
  show va_at D classes (y 27, .inl (Y.2.1 20, 6, .inl fun _ => 0)) H
  rw [hy 27 _ (wa_27 Y qx u qm v)]
  exact hP 27 _ (wa_27 Y qx u qm v)
theorem st_28 (hP : va_P D classes (wA Y qx u qm v) H) (hy : ∀ k x, (wA Y qx u qm v)[k]? = some x → y k = x.1) : va_at D classes (y 28, cel (Y.1, Y.2.1, y, Y.2.2.2) 28 (M0 ((28 : Nat) : Int))) H := by
  rw [cX_28]
  show va_at D classes (y 28, .inl (Y.2.1 20, 6, .inl fun _ => 0)) H
  rw [hy 28 _ (wa_28 Y qx u qm v)]
  exact hP 28 _ (wa_28 Y qx u qm v)
theorem st_29 (hP : va_P D classes (wA Y qx u qm v) H) (hy : ∀ k x, (wA Y qx u qm v)[k]? = some x → y k = x.1) : va_at D classes (y 29, cel (Y.1, Y.2.1, y, Y.2.2.2) 29 (M0 ((29 : Nat) : Int))) H := by
  rw [cX_29]
  show va_at D classes (y 29, .inl (Y.2.1 20, 6, .inl fun _ => 0)) H
  rw [hy 29 _ (wa_29 Y qx u qm v)]
  exact hP 29 _ (wa_29 Y qx u qm v)
theorem st_30 (hP : va_P D classes (wA Y qx u qm v) H) (hy : ∀ k x, (wA Y qx u qm v)[k]? = some x → y k = x.1) : va_at D classes (y 30, cel (Y.1, Y.2.1, y, Y.2.2.2) 30 (M0 ((30 : Nat) : Int))) H := by
  rw [cX_30]
  show va_at D classes (y 30, .inr (5, [.int 0, .ref (y 31), .ref (y 32), .ref (y 33)])) H
  rw [hy 30 _ (wa_30 Y qx u qm v)]
  rw [hy 31 _ (wa_31 Y qx u qm v)]
  rw [hy 32 _ (wa_32 Y qx u qm v)]
  rw [hy 33 _ (wa_33 Y qx u qm v)]
  exact hP 30 _ (wa_30 Y qx u qm v)
theorem st_31 (hP : va_P D classes (wA Y qx u qm v) H) (hy : ∀ k x, (wA Y qx u qm v)[k]? = some x → y k = x.1) : va_at D classes (y 31, cel (Y.1, Y.2.1, y, Y.2.2.2) 31 (M0 ((31 : Nat) : Int))) H := by
  rw [cX_31]
  show va_at D classes (y 31, .inl (Y.2.1 20, 9, .inl fun _ => 0)) H
  rw [hy 31 _ (wa_31 Y qx u qm v)]
  exact hP 31 _ (wa_31 Y qx u qm v)
theorem st_32 (hP : va_P D classes (wA Y qx u qm v) H) (hy : ∀ k x, (wA Y qx u qm v)[k]? = some x → y k = x.1) : va_at D classes (y 32, cel (Y.1, Y.2.1, y, Y.2.2.2) 32 (M0 ((32 : Nat) : Int))) H := by
  rw [cX_32]
  show va_at D classes (y 32, .inl (Y.2.1 20, 9, .inl fun _ => 0)) H
  rw [hy 32 _ (wa_32 Y qx u qm v)]
  exact hP 32 _ (wa_32 Y qx u qm v)
theorem st_33 (hP : va_P D classes (wA Y qx u qm v) H) (hy : ∀ k x, (wA Y qx u qm v)[k]? = some x → y k = x.1) : va_at D classes (y 33, cel (Y.1, Y.2.1, y, Y.2.2.2) 33 (M0 ((33 : Nat) : Int))) H := by
  rw [cX_33]
  show va_at D classes (y 33, .inl (Y.2.1 20, 9, .inl fun _ => 0)) H
  rw [hy 33 _ (wa_33 Y qx u qm v)]
  exact hP 33 _ (wa_33 Y qx u qm v)
theorem st_34 (hP : va_P D classes (wA Y qx u qm v) H) (hy : ∀ k x, (wA Y qx u qm v)[k]? = some x → y k = x.1) : va_at D classes (y 34, cel (Y.1, Y.2.1, y, Y.2.2.2) 34 (M0 ((34 : Nat) : Int))) H := by
  rw [cX_34]
  show va_at D classes (y 34, .inr (1, [.ref (y 35), .ref (y 36), .int 0])) H
  rw [hy 34 _ (wa_34 Y qx u qm v)]
  rw [hy 35 _ (wa_35 Y qx u qm v)]
  rw [hy 36 _ (wa_36 Y qx u qm v)]
  exact hP 34 _ (wa_34 Y qx u qm v)
theorem st_35 (hP : va_P D classes (wA Y qx u qm v) H) (hy : ∀ k x, (wA Y qx u qm v)[k]? = some x → y k = x.1) : va_at D classes (y 35, cel (Y.1, Y.2.1, y, Y.2.2.2) 35 (M0 ((35 : Nat) : Int))) H := by
  rw [cX_35]
  show va_at D classes (y 35, .inl (Y.2.1 20, 1600, .inl fun _ => 0)) H
  rw [hy 35 _ (wa_35 Y qx u qm v)]
  exact hP 35 _ (wa_35 Y qx u qm v)
theorem st_36 (hP : va_P D classes (wA Y qx u qm v) H) (hy : ∀ k x, (wA Y qx u qm v)[k]? = some x → y k = x.1) : va_at D classes (y 36, cel (Y.1, Y.2.1, y, Y.2.2.2) 36 (M0 ((36 : Nat) : Int))) H := by
  rw [cX_36]
  show va_at D classes (y 36, .inl (Y.2.1 20, 64, .inl fun _ => 0)) H
  rw [hy 36 _ (wa_36 Y qx u qm v)]
  exact hP 36 _ (wa_36 Y qx u qm v)
theorem st_37 (hP : va_P D classes (wA Y qx u qm v) H) (hy : ∀ k x, (wA Y qx u qm v)[k]? = some x → y k = x.1) : va_at D classes (y 37, cel (Y.1, Y.2.1, y, Y.2.2.2) 37 (M0 ((37 : Nat) : Int))) H := by
  rw [cX_37]
  show va_at D classes (y 37, .inr (1, [.ref (y 38), .ref (y 39), .int 0])) H
  rw [hy 37 _ (wa_37 Y qx u qm v)]
  rw [hy 38 _ (wa_38 Y qx u qm v)]
  rw [hy 39 _ (wa_39 Y qx u qm v)]
  exact hP 37 _ (wa_37 Y qx u qm v)
theorem st_38 (hP : va_P D classes (wA Y qx u qm v) H) (hy : ∀ k x, (wA Y qx u qm v)[k]? = some x → y k = x.1) : va_at D classes (y 38, cel (Y.1, Y.2.1, y, Y.2.2.2) 38 (M0 ((38 : Nat) : Int))) H := by
  rw [cX_38]
  show va_at D classes (y 38, .inl (Y.2.1 20, 1600, .inl fun _ => 0)) H
  rw [hy 38 _ (wa_38 Y qx u qm v)]
  exact hP 38 _ (wa_38 Y qx u qm v)
theorem st_39 (hP : va_P D classes (wA Y qx u qm v) H) (hy : ∀ k x, (wA Y qx u qm v)[k]? = some x → y k = x.1) : va_at D classes (y 39, cel (Y.1, Y.2.1, y, Y.2.2.2) 39 (M0 ((39 : Nat) : Int))) H := by
  rw [cX_39]
  show va_at D classes (y 39, .inl (Y.2.1 20, 64, .inl fun _ => 0)) H
  rw [hy 39 _ (wa_39 Y qx u qm v)]
  exact hP 39 _ (wa_39 Y qx u qm v)
theorem st_40 (hP : va_P D classes (wA Y qx u qm v) H) (hy : ∀ k x, (wA Y qx u qm v)[k]? = some x → y k = x.1) : va_at D classes (y 40, cel (Y.1, Y.2.1, y, Y.2.2.2) 40 (M0 ((40 : Nat) : Int))) H := by
  rw [cX_40]
  show va_at D classes (y 40, .inr (6, [.int 0, .ref (y 41), .int 0, .ref (y 42), .int 0])) H
  rw [hy 40 _ (wa_40 Y qx u qm v)]
  rw [hy 41 _ (wa_41 Y qx u qm v)]
  rw [hy 42 _ (wa_42 Y qx u qm v)]
  exact hP 40 _ (wa_40 Y qx u qm v)
theorem st_41 (hP : va_P D classes (wA Y qx u qm v) H) (hy : ∀ k x, (wA Y qx u qm v)[k]? = some x → y k = x.1) : va_at D classes (y 41, cel (Y.1, Y.2.1, y, Y.2.2.2) 41 (M0 ((41 : Nat) : Int))) H := by
  rw [cX_41]
  show va_at D classes (y 41, .inl (Y.2.1 20, 6, .inl fun _ => 0)) H
  rw [hy 41 _ (wa_41 Y qx u qm v)]
  exact hP 41 _ (wa_41 Y qx u qm v)
theorem st_42 (hP : va_P D classes (wA Y qx u qm v) H) (hy : ∀ k x, (wA Y qx u qm v)[k]? = some x → y k = x.1) : va_at D classes (y 42, cel (Y.1, Y.2.1, y, Y.2.2.2) 42 (M0 ((42 : Nat) : Int))) H := by
  rw [cX_42]
  show va_at D classes (y 42, .inr (5, [.int 0, .ref (y 43), .ref (y 44), .ref (y 45)])) H
  rw [hy 42 _ (wa_42 Y qx u qm v)]
  rw [hy 43 _ (wa_43 Y qx u qm v)]
  rw [hy 44 _ (wa_44 Y qx u qm v)]
  rw [hy 45 _ (wa_45 Y qx u qm v)]
  exact hP 42 _ (wa_42 Y qx u qm v)
theorem st_43 (hP : va_P D classes (wA Y qx u qm v) H) (hy : ∀ k x, (wA Y qx u qm v)[k]? = some x → y k = x.1) : va_at D classes (y 43, cel (Y.1, Y.2.1, y, Y.2.2.2) 43 (M0 ((43 : Nat) : Int))) H := by
  rw [cX_43]
  show va_at D classes (y 43, .inl (Y.2.1 20, 9, .inl fun _ => 0)) H
  rw [hy 43 _ (wa_43 Y qx u qm v)]
  exact hP 43 _ (wa_43 Y qx u qm v)
theorem st_44 (hP : va_P D classes (wA Y qx u qm v) H) (hy : ∀ k x, (wA Y qx u qm v)[k]? = some x → y k = x.1) : va_at D classes (y 44, cel (Y.1, Y.2.1, y, Y.2.2.2) 44 (M0 ((44 : Nat) : Int))) H := by
  rw [cX_44]
  show va_at D classes (y 44, .inl (Y.2.1 20, 9, .inl fun _ => 0)) H
  rw [hy 44 _ (wa_44 Y qx u qm v)]
  exact hP 44 _ (wa_44 Y qx u qm v)
theorem st_45 (hP : va_P D classes (wA Y qx u qm v) H) (hy : ∀ k x, (wA Y qx u qm v)[k]? = some x → y k = x.1) : va_at D classes (y 45, cel (Y.1, Y.2.1, y, Y.2.2.2) 45 (M0 ((45 : Nat) : Int))) H := by
  rw [cX_45]
  show va_at D classes (y 45, .inl (Y.2.1 20, 9, .inl fun _ => 0)) H
  rw [hy 45 _ (wa_45 Y qx u qm v)]
  exact hP 45 _ (wa_45 Y qx u qm v)
theorem st_46 (hP : va_P D classes (wA Y qx u qm v) H) (hy : ∀ k x, (wA Y qx u qm v)[k]? = some x → y k = x.1) : va_at D classes (y 46, cel (Y.1, Y.2.1, y, Y.2.2.2) 46 (M0 ((46 : Nat) : Int))) H := by
  rw [cX_46]
  show va_at D classes (y 46, .inr (6, [.int 0, .ref (y 47), .int 0, .ref (y 48), .int 0])) H
  rw [hy 46 _ (wa_46 Y qx u qm v)]
  rw [hy 47 _ (wa_47 Y qx u qm v)]
  rw [hy 48 _ (wa_48 Y qx u qm v)]
  exact hP 46 _ (wa_46 Y qx u qm v)
theorem st_47 (hP : va_P D classes (wA Y qx u qm v) H) (hy : ∀ k x, (wA Y qx u qm v)[k]? = some x → y k = x.1) : va_at D classes (y 47, cel (Y.1, Y.2.1, y, Y.2.2.2) 47 (M0 ((47 : Nat) : Int))) H := by
  rw [cX_47]
  show va_at D classes (y 47, .inl (Y.2.1 20, 6, .inl fun _ => 0)) H
  rw [hy 47 _ (wa_47 Y qx u qm v)]
  exact hP 47 _ (wa_47 Y qx u qm v)
theorem st_48 (hP : va_P D classes (wA Y qx u qm v) H) (hy : ∀ k x, (wA Y qx u qm v)[k]? = some x → y k = x.1) : va_at D classes (y 48, cel (Y.1, Y.2.1, y, Y.2.2.2) 48 (M0 ((48 : Nat) : Int))) H := by
  rw [cX_48]
  show va_at D classes (y 48, .inr (5, [.int 0, .ref (y 49), .ref (y 50), .ref (y 51)])) H
  rw [hy 48 _ (wa_48 Y qx u qm v)]
  rw [hy 49 _ (wa_49 Y qx u qm v)]
  rw [hy 50 _ (wa_50 Y qx u qm v)]
  rw [hy 51 _ (wa_51 Y qx u qm v)]
  exact hP 48 _ (wa_48 Y qx u qm v)
theorem st_49 (hP : va_P D classes (wA Y qx u qm v) H) (hy : ∀ k x, (wA Y qx u qm v)[k]? = some x → y k = x.1) : va_at D classes (y 49, cel (Y.1, Y.2.1, y, Y.2.2.2) 49 (M0 ((49 : Nat) : Int))) H := by
  rw [cX_49]
  show va_at D classes (y 49, .inl (Y.2.1 20, 9, .inl fun _ => 0)) H
  rw [hy 49 _ (wa_49 Y qx u qm v)]
  exact hP 49 _ (wa_49 Y qx u qm v)
theorem st_50 (hP : va_P D classes (wA Y qx u qm v) H) (hy : ∀ k x, (wA Y qx u qm v)[k]? = some x → y k = x.1) : va_at D classes (y 50, cel (Y.1, Y.2.1, y, Y.2.2.2) 50 (M0 ((50 : Nat) : Int))) H := by
  rw [cX_50]
  show va_at D classes (y 50, .inl (Y.2.1 20, 9, .inl fun _ => 0)) H
  rw [hy 50 _ (wa_50 Y qx u qm v)]
  exact hP 50 _ (wa_50 Y qx u qm v)
theorem st_51 (hP : va_P D classes (wA Y qx u qm v) H) (hy : ∀ k x, (wA Y qx u qm v)[k]? = some x → y k = x.1) : va_at D classes (y 51, cel (Y.1, Y.2.1, y, Y.2.2.2) 51 (M0 ((51 : Nat) : Int))) H := by
  rw [cX_51]
  show va_at D classes (y 51, .inl (Y.2.1 20, 9, .inl fun _ => 0)) H
  rw [hy 51 _ (wa_51 Y qx u qm v)]
  exact hP 51 _ (wa_51 Y qx u qm v)
theorem st_52 (hP : va_P D classes (wA Y qx u qm v) H) (hy : ∀ k x, (wA Y qx u qm v)[k]? = some x → y k = x.1) : va_at D classes (y 52, cel (Y.1, Y.2.1, y, Y.2.2.2) 52 (M0 ((52 : Nat) : Int))) H := by
  rw [cX_52]
  show va_at D classes (y 52, .inr (10, [.ref (y 53), .ref (y 54), .ref (y 55), .ref (y 56), .null, .null])) H
  rw [hy 52 _ (wa_52 Y qx u qm v)]
  rw [hy 53 _ (wa_53 Y qx u qm v)]
  rw [hy 54 _ (wa_54 Y qx u qm v)]
  rw [hy 55 _ (wa_55 Y qx u qm v)]
  rw [hy 56 _ (wa_56 Y qx u qm v)]
  exact hP 52 _ (wa_52 Y qx u qm v)
theorem st_53 (hP : va_P D classes (wA Y qx u qm v) H) (hy : ∀ k x, (wA Y qx u qm v)[k]? = some x → y k = x.1) : va_at D classes (y 53, cel (Y.1, Y.2.1, y, Y.2.2.2) 53 (M0 ((53 : Nat) : Int))) H := by
  rw [cX_53]
  show va_at D classes (y 53, .inl (Y.2.1 20, 54, .inl fun _ => 0)) H
  rw [hy 53 _ (wa_53 Y qx u qm v)]
  exact hP 53 _ (wa_53 Y qx u qm v)
theorem st_54 (hP : va_P D classes (wA Y qx u qm v) H) (hy : ∀ k x, (wA Y qx u qm v)[k]? = some x → y k = x.1) : va_at D classes (y 54, cel (Y.1, Y.2.1, y, Y.2.2.2) 54 (M0 ((54 : Nat) : Int))) H := by
  rw [cX_54]
  show va_at D classes (y 54, .inl (Y.2.1 20, 63, .inl fun _ => 0)) H
  rw [hy 54 _ (wa_54 Y qx u qm v)]
  exact hP 54 _ (wa_54 Y qx u qm v)
theorem st_55 (hP : va_P D classes (wA Y qx u qm v) H) (hy : ∀ k x, (wA Y qx u qm v)[k]? = some x → y k = x.1) : va_at D classes (y 55, cel (Y.1, Y.2.1, y, Y.2.2.2) 55 (M0 ((55 : Nat) : Int))) H := by
  rw [cX_55]
  show va_at D classes (y 55, .inl (Y.2.1 20, 63, .inl fun _ => 0)) H
  rw [hy 55 _ (wa_55 Y qx u qm v)]
  exact hP 55 _ (wa_55 Y qx u qm v)
theorem st_56 (hP : va_P D classes (wA Y qx u qm v) H) (hy : ∀ k x, (wA Y qx u qm v)[k]? = some x → y k = x.1) : va_at D classes (y 56, cel (Y.1, Y.2.1, y, Y.2.2.2) 56 (M0 ((56 : Nat) : Int))) H := by
  rw [cX_56]
  show va_at D classes (y 56, .inl (Y.2.1 20, 7, .inl fun _ => 0)) H
  rw [hy 56 _ (wa_56 Y qx u qm v)]
  exact hP 56 _ (wa_56 Y qx u qm v)
theorem st_57 (hP : va_P D classes (wA Y qx u qm v) H) (hy : ∀ k x, (wA Y qx u qm v)[k]? = some x → y k = x.1) : va_at D classes (y 57, cel (Y.1, Y.2.1, y, Y.2.2.2) 57 (M0 ((57 : Nat) : Int))) H := by
  rw [cX_57]
  show va_at D classes (y 57, .inr (10, [.ref (y 58), .ref (y 59), .ref (y 60), .ref (y 61), .null, .null])) H
  rw [hy 57 _ (wa_57 Y qx u qm v)]
  rw [hy 58 _ (wa_58 Y qx u qm v)]
  rw [hy 59 _ (wa_59 Y qx u qm v)]
  rw [hy 60 _ (wa_60 Y qx u qm v)]
  rw [hy 61 _ (wa_61 Y qx u qm v)]
  exact hP 57 _ (wa_57 Y qx u qm v)
theorem st_58 (hP : va_P D classes (wA Y qx u qm v) H) (hy : ∀ k x, (wA Y qx u qm v)[k]? = some x → y k = x.1) : va_at D classes (y 58, cel (Y.1, Y.2.1, y, Y.2.2.2) 58 (M0 ((58 : Nat) : Int))) H := by
  rw [cX_58]
  show va_at D classes (y 58, .inl (Y.2.1 20, 54, .inl fun _ => 0)) H
  rw [hy 58 _ (wa_58 Y qx u qm v)]
  exact hP 58 _ (wa_58 Y qx u qm v)
theorem st_59 (hP : va_P D classes (wA Y qx u qm v) H) (hy : ∀ k x, (wA Y qx u qm v)[k]? = some x → y k = x.1) : va_at D classes (y 59, cel (Y.1, Y.2.1, y, Y.2.2.2) 59 (M0 ((59 : Nat) : Int))) H := by
  rw [cX_59]
  show va_at D classes (y 59, .inl (Y.2.1 20, 63, .inl fun _ => 0)) H
  rw [hy 59 _ (wa_59 Y qx u qm v)]
  exact hP 59 _ (wa_59 Y qx u qm v)
theorem st_60 (hP : va_P D classes (wA Y qx u qm v) H) (hy : ∀ k x, (wA Y qx u qm v)[k]? = some x → y k = x.1) : va_at D classes (y 60, cel (Y.1, Y.2.1, y, Y.2.2.2) 60 (M0 ((60 : Nat) : Int))) H := by
  rw [cX_60]
  show va_at D classes (y 60, .inl (Y.2.1 20, 63, .inl fun _ => 0)) H
  rw [hy 60 _ (wa_60 Y qx u qm v)]
  exact hP 60 _ (wa_60 Y qx u qm v)
theorem st_61 (hP : va_P D classes (wA Y qx u qm v) H) (hy : ∀ k x, (wA Y qx u qm v)[k]? = some x → y k = x.1) : va_at D classes (y 61, cel (Y.1, Y.2.1, y, Y.2.2.2) 61 (M0 ((61 : Nat) : Int))) H := by
  rw [cX_61]
  show va_at D classes (y 61, .inl (Y.2.1 20, 7, .inl fun _ => 0)) H
  rw [hy 61 _ (wa_61 Y qx u qm v)]
  exact hP 61 _ (wa_61 Y qx u qm v)
theorem st_62 (hP : va_P D classes (wA Y qx u qm v) H) (hy : ∀ k x, (wA Y qx u qm v)[k]? = some x → y k = x.1) : va_at D classes (y 62, cel (Y.1, Y.2.1, y, Y.2.2.2) 62 (M0 ((62 : Nat) : Int))) H := by
  rw [cX_62]
  show va_at D classes (y 62, .inr (3, [.ref (y 63), .int 0, .int 0, .ref (y 64)])) H
  rw [hy 62 _ (wa_62 Y qx u qm v)]
  rw [hy 63 _ (wa_63 Y qx u qm v)]
  rw [hy 64 _ (wa_64 Y qx u qm v)]
  exact hP 62 _ (wa_62 Y qx u qm v)
theorem st_63 (hP : va_P D classes (wA Y qx u qm v) H) (hy : ∀ k x, (wA Y qx u qm v)[k]? = some x → y k = x.1) : va_at D classes (y 63, cel (Y.1, Y.2.1, y, Y.2.2.2) 63 (M0 ((63 : Nat) : Int))) H := by
  have h := hP 63 _ (wa_63 Y qx u qm v)
  rw [ces_ _ (n := 20) (by decide +kernel) (by decide +kernel), hy 63 _ (wa_63 Y qx u qm v)]
  refine at_same (fun j => va_rf (if j < 20 then some (u.2.2.2.2.2.2.2.2.2.2.2.2.2.2.2.2.2.1.2.2 j).1 else none)) (fun j => va_rf (some (y (63 + 2 + 6 * j)))) rfl rfl (fun j hj => ?_) h
  have e : y (63 + 2 + 6 * j) = (u.2.2.2.2.2.2.2.2.2.2.2.2.2.2.2.2.2.1.2.2 j).1 := by
    rcases (show j = 0 ∨ j = 1 ∨ j = 2 ∨ j = 3 ∨ j = 4 ∨ j = 5 ∨ j = 6 ∨ j = 7 ∨ j = 8 ∨ j = 9 ∨ j = 10 ∨ j = 11 ∨ j = 12 ∨ j = 13 ∨ j = 14 ∨ j = 15 ∨ j = 16 ∨ j = 17 ∨ j = 18 ∨ j = 19 by omega) with rfl | rfl | rfl | rfl | rfl | rfl | rfl | rfl | rfl | rfl | rfl | rfl | rfl | rfl | rfl | rfl | rfl | rfl | rfl | rfl
    · exact hy 65 _ (wa_65 Y qx u qm v)
    · exact hy 71 _ (wa_71 Y qx u qm v)
    · exact hy 77 _ (wa_77 Y qx u qm v)
    · exact hy 83 _ (wa_83 Y qx u qm v)
    · exact hy 89 _ (wa_89 Y qx u qm v)
    · exact hy 95 _ (wa_95 Y qx u qm v)
    · exact hy 101 _ (wa_101 Y qx u qm v)
    · exact hy 107 _ (wa_107 Y qx u qm v)
    · exact hy 113 _ (wa_113 Y qx u qm v)
    · exact hy 119 _ (wa_119 Y qx u qm v)
    · exact hy 125 _ (wa_125 Y qx u qm v)
    · exact hy 131 _ (wa_131 Y qx u qm v)
    · exact hy 137 _ (wa_137 Y qx u qm v)
    · exact hy 143 _ (wa_143 Y qx u qm v)
    · exact hy 149 _ (wa_149 Y qx u qm v)
    · exact hy 155 _ (wa_155 Y qx u qm v)
    · exact hy 161 _ (wa_161 Y qx u qm v)
    · exact hy 167 _ (wa_167 Y qx u qm v)
    · exact hy 173 _ (wa_173 Y qx u qm v)
    · exact hy 179 _ (wa_179 Y qx u qm v)
  rw [if_pos hj, e]
theorem st_64 (hP : va_P D classes (wA Y qx u qm v) H) (hy : ∀ k x, (wA Y qx u qm v)[k]? = some x → y k = x.1) : va_at D classes (y 64, cel (Y.1, Y.2.1, y, Y.2.2.2) 64 (M0 ((64 : Nat) : Int))) H := by
  rw [cX_64]
  show va_at D classes (y 64, .inl (Y.2.1 20, 2997, .inl fun _ => 0)) H
  rw [hy 64 _ (wa_64 Y qx u qm v)]
  exact hP 64 _ (wa_64 Y qx u qm v)
theorem st_65 (hP : va_P D classes (wA Y qx u qm v) H) (hy : ∀ k x, (wA Y qx u qm v)[k]? = some x → y k = x.1) : va_at D classes (y 65, cel (Y.1, Y.2.1, y, Y.2.2.2) 65 (M0 ((65 : Nat) : Int))) H := by
  rw [cX_65]
  show va_at D classes (y 65, .inr (6, [.int 0, .ref (y 66), .int 0, .ref (y 67), .int 0])) H
  rw [hy 65 _ (wa_65 Y qx u qm v)]
  rw [hy 66 _ (wa_66 Y qx u qm v)]
  rw [hy 67 _ (wa_67 Y qx u qm v)]
  exact hP 65 _ (wa_65 Y qx u qm v)
theorem st_66 (hP : va_P D classes (wA Y qx u qm v) H) (hy : ∀ k x, (wA Y qx u qm v)[k]? = some x → y k = x.1) : va_at D classes (y 66, cel (Y.1, Y.2.1, y, Y.2.2.2) 66 (M0 ((66 : Nat) : Int))) H := by
  rw [cX_66]
  show va_at D classes (y 66, .inl (Y.2.1 20, 6, .inl fun _ => 0)) H
  rw [hy 66 _ (wa_66 Y qx u qm v)]
  exact hP 66 _ (wa_66 Y qx u qm v)
theorem st_67 (hP : va_P D classes (wA Y qx u qm v) H) (hy : ∀ k x, (wA Y qx u qm v)[k]? = some x → y k = x.1) : va_at D classes (y 67, cel (Y.1, Y.2.1, y, Y.2.2.2) 67 (M0 ((67 : Nat) : Int))) H := by
  rw [cX_67]
  show va_at D classes (y 67, .inr (5, [.int 0, .ref (y 68), .ref (y 69), .ref (y 70)])) H
  rw [hy 67 _ (wa_67 Y qx u qm v)]
  rw [hy 68 _ (wa_68 Y qx u qm v)]
  rw [hy 69 _ (wa_69 Y qx u qm v)]
  rw [hy 70 _ (wa_70 Y qx u qm v)]
  exact hP 67 _ (wa_67 Y qx u qm v)
theorem st_68 (hP : va_P D classes (wA Y qx u qm v) H) (hy : ∀ k x, (wA Y qx u qm v)[k]? = some x → y k = x.1) : va_at D classes (y 68, cel (Y.1, Y.2.1, y, Y.2.2.2) 68 (M0 ((68 : Nat) : Int))) H := by
  rw [cX_68]
  show va_at D classes (y 68, .inl (Y.2.1 20, 9, .inl fun _ => 0)) H
  rw [hy 68 _ (wa_68 Y qx u qm v)]
  exact hP 68 _ (wa_68 Y qx u qm v)
theorem st_69 (hP : va_P D classes (wA Y qx u qm v) H) (hy : ∀ k x, (wA Y qx u qm v)[k]? = some x → y k = x.1) : va_at D classes (y 69, cel (Y.1, Y.2.1, y, Y.2.2.2) 69 (M0 ((69 : Nat) : Int))) H := by
  rw [cX_69]
  show va_at D classes (y 69, .inl (Y.2.1 20, 9, .inl fun _ => 0)) H
  rw [hy 69 _ (wa_69 Y qx u qm v)]
  exact hP 69 _ (wa_69 Y qx u qm v)
theorem st_70 (hP : va_P D classes (wA Y qx u qm v) H) (hy : ∀ k x, (wA Y qx u qm v)[k]? = some x → y k = x.1) : va_at D classes (y 70, cel (Y.1, Y.2.1, y, Y.2.2.2) 70 (M0 ((70 : Nat) : Int))) H := by
  rw [cX_70]
  show va_at D classes (y 70, .inl (Y.2.1 20, 9, .inl fun _ => 0)) H
  rw [hy 70 _ (wa_70 Y qx u qm v)]
  exact hP 70 _ (wa_70 Y qx u qm v)
theorem st_71 (hP : va_P D classes (wA Y qx u qm v) H) (hy : ∀ k x, (wA Y qx u qm v)[k]? = some x → y k = x.1) : va_at D classes (y 71, cel (Y.1, Y.2.1, y, Y.2.2.2) 71 (M0 ((71 : Nat) : Int))) H := by
  rw [cX_71]
  show va_at D classes (y 71, .inr (6, [.int 0, .ref (y 72), .int 0, .ref (y 73), .int 0])) H
  rw [hy 71 _ (wa_71 Y qx u qm v)]
  rw [hy 72 _ (wa_72 Y qx u qm v)]
  rw [hy 73 _ (wa_73 Y qx u qm v)]
  exact hP 71 _ (wa_71 Y qx u qm v)
theorem st_72 (hP : va_P D classes (wA Y qx u qm v) H) (hy : ∀ k x, (wA Y qx u qm v)[k]? = some x → y k = x.1) : va_at D classes (y 72, cel (Y.1, Y.2.1, y, Y.2.2.2) 72 (M0 ((72 : Nat) : Int))) H := by
  rw [cX_72]
  show va_at D classes (y 72, .inl (Y.2.1 20, 6, .inl fun _ => 0)) H
  rw [hy 72 _ (wa_72 Y qx u qm v)]
  exact hP 72 _ (wa_72 Y qx u qm v)
theorem st_73 (hP : va_P D classes (wA Y qx u qm v) H) (hy : ∀ k x, (wA Y qx u qm v)[k]? = some x → y k = x.1) : va_at D classes (y 73, cel (Y.1, Y.2.1, y, Y.2.2.2) 73 (M0 ((73 : Nat) : Int))) H := by
  rw [cX_73]
  show va_at D classes (y 73, .inr (5, [.int 0, .ref (y 74), .ref (y 75), .ref (y 76)])) H
  rw [hy 73 _ (wa_73 Y qx u qm v)]
  rw [hy 74 _ (wa_74 Y qx u qm v)]
  rw [hy 75 _ (wa_75 Y qx u qm v)]
  rw [hy 76 _ (wa_76 Y qx u qm v)]
  exact hP 73 _ (wa_73 Y qx u qm v)
theorem st_74 (hP : va_P D classes (wA Y qx u qm v) H) (hy : ∀ k x, (wA Y qx u qm v)[k]? = some x → y k = x.1) : va_at D classes (y 74, cel (Y.1, Y.2.1, y, Y.2.2.2) 74 (M0 ((74 : Nat) : Int))) H := by
  rw [cX_74]
  show va_at D classes (y 74, .inl (Y.2.1 20, 9, .inl fun _ => 0)) H
  rw [hy 74 _ (wa_74 Y qx u qm v)]
  exact hP 74 _ (wa_74 Y qx u qm v)
theorem st_75 (hP : va_P D classes (wA Y qx u qm v) H) (hy : ∀ k x, (wA Y qx u qm v)[k]? = some x → y k = x.1) : va_at D classes (y 75, cel (Y.1, Y.2.1, y, Y.2.2.2) 75 (M0 ((75 : Nat) : Int))) H := by
  rw [cX_75]
  show va_at D classes (y 75, .inl (Y.2.1 20, 9, .inl fun _ => 0)) H
  rw [hy 75 _ (wa_75 Y qx u qm v)]
  exact hP 75 _ (wa_75 Y qx u qm v)
theorem st_76 (hP : va_P D classes (wA Y qx u qm v) H) (hy : ∀ k x, (wA Y qx u qm v)[k]? = some x → y k = x.1) : va_at D classes (y 76, cel (Y.1, Y.2.1, y, Y.2.2.2) 76 (M0 ((76 : Nat) : Int))) H := by
  rw [cX_76]
  show va_at D classes (y 76, .inl (Y.2.1 20, 9, .inl fun _ => 0)) H
  rw [hy 76 _ (wa_76 Y qx u qm v)]
  exact hP 76 _ (wa_76 Y qx u qm v)
theorem st_77 (hP : va_P D classes (wA Y qx u qm v) H) (hy : ∀ k x, (wA Y qx u qm v)[k]? = some x → y k = x.1) : va_at D classes (y 77, cel (Y.1, Y.2.1, y, Y.2.2.2) 77 (M0 ((77 : Nat) : Int))) H := by
  rw [cX_77]
  show va_at D classes (y 77, .inr (6, [.int 0, .ref (y 78), .int 0, .ref (y 79), .int 0])) H
  rw [hy 77 _ (wa_77 Y qx u qm v)]
  rw [hy 78 _ (wa_78 Y qx u qm v)]
  rw [hy 79 _ (wa_79 Y qx u qm v)]
  exact hP 77 _ (wa_77 Y qx u qm v)
theorem st_78 (hP : va_P D classes (wA Y qx u qm v) H) (hy : ∀ k x, (wA Y qx u qm v)[k]? = some x → y k = x.1) : va_at D classes (y 78, cel (Y.1, Y.2.1, y, Y.2.2.2) 78 (M0 ((78 : Nat) : Int))) H := by
  rw [cX_78]
  show va_at D classes (y 78, .inl (Y.2.1 20, 6, .inl fun _ => 0)) H
  rw [hy 78 _ (wa_78 Y qx u qm v)]
  exact hP 78 _ (wa_78 Y qx u qm v)
theorem st_79 (hP : va_P D classes (wA Y qx u qm v) H) (hy : ∀ k x, (wA Y qx u qm v)[k]? = some x → y k = x.1) : va_at D classes (y 79, cel (Y.1, Y.2.1, y, Y.2.2.2) 79 (M0 ((79 : Nat) : Int))) H := by
  rw [cX_79]
  show va_at D classes (y 79, .inr (5, [.int 0, .ref (y 80), .ref (y 81), .ref (y 82)])) H
  rw [hy 79 _ (wa_79 Y qx u qm v)]
  rw [hy 80 _ (wa_80 Y qx u qm v)]
  rw [hy 81 _ (wa_81 Y qx u qm v)]
  rw [hy 82 _ (wa_82 Y qx u qm v)]
  exact hP 79 _ (wa_79 Y qx u qm v)
theorem st_80 (hP : va_P D classes (wA Y qx u qm v) H) (hy : ∀ k x, (wA Y qx u qm v)[k]? = some x → y k = x.1) : va_at D classes (y 80, cel (Y.1, Y.2.1, y, Y.2.2.2) 80 (M0 ((80 : Nat) : Int))) H := by
  rw [cX_80]
  show va_at D classes (y 80, .inl (Y.2.1 20, 9, .inl fun _ => 0)) H
  rw [hy 80 _ (wa_80 Y qx u qm v)]
  exact hP 80 _ (wa_80 Y qx u qm v)
theorem st_81 (hP : va_P D classes (wA Y qx u qm v) H) (hy : ∀ k x, (wA Y qx u qm v)[k]? = some x → y k = x.1) : va_at D classes (y 81, cel (Y.1, Y.2.1, y, Y.2.2.2) 81 (M0 ((81 : Nat) : Int))) H := by
  rw [cX_81]
  show va_at D classes (y 81, .inl (Y.2.1 20, 9, .inl fun _ => 0)) H
  rw [hy 81 _ (wa_81 Y qx u qm v)]
  exact hP 81 _ (wa_81 Y qx u qm v)
theorem st_82 (hP : va_P D classes (wA Y qx u qm v) H) (hy : ∀ k x, (wA Y qx u qm v)[k]? = some x → y k = x.1) : va_at D classes (y 82, cel (Y.1, Y.2.1, y, Y.2.2.2) 82 (M0 ((82 : Nat) : Int))) H := by
  rw [cX_82]
  show va_at D classes (y 82, .inl (Y.2.1 20, 9, .inl fun _ => 0)) H
  rw [hy 82 _ (wa_82 Y qx u qm v)]
  exact hP 82 _ (wa_82 Y qx u qm v)
theorem st_83 (hP : va_P D classes (wA Y qx u qm v) H) (hy : ∀ k x, (wA Y qx u qm v)[k]? = some x → y k = x.1) : va_at D classes (y 83, cel (Y.1, Y.2.1, y, Y.2.2.2) 83 (M0 ((83 : Nat) : Int))) H := by
  rw [cX_83]
  show va_at D classes (y 83, .inr (6, [.int 0, .ref (y 84), .int 0, .ref (y 85), .int 0])) H
  rw [hy 83 _ (wa_83 Y qx u qm v)]
  rw [hy 84 _ (wa_84 Y qx u qm v)]
  rw [hy 85 _ (wa_85 Y qx u qm v)]
  exact hP 83 _ (wa_83 Y qx u qm v)
theorem st_84 (hP : va_P D classes (wA Y qx u qm v) H) (hy : ∀ k x, (wA Y qx u qm v)[k]? = some x → y k = x.1) : va_at D classes (y 84, cel (Y.1, Y.2.1, y, Y.2.2.2) 84 (M0 ((84 : Nat) : Int))) H := by
  rw [cX_84]
  show va_at D classes (y 84, .inl (Y.2.1 20, 6, .inl fun _ => 0)) H
  rw [hy 84 _ (wa_84 Y qx u qm v)]
  exact hP 84 _ (wa_84 Y qx u qm v)
theorem st_85 (hP : va_P D classes (wA Y qx u qm v) H) (hy : ∀ k x, (wA Y qx u qm v)[k]? = some x → y k = x.1) : va_at D classes (y 85, cel (Y.1, Y.2.1, y, Y.2.2.2) 85 (M0 ((85 : Nat) : Int))) H := by
  rw [cX_85]
  show va_at D classes (y 85, .inr (5, [.int 0, .ref (y 86), .ref (y 87), .ref (y 88)])) H
  rw [hy 85 _ (wa_85 Y qx u qm v)]
  rw [hy 86 _ (wa_86 Y qx u qm v)]
  rw [hy 87 _ (wa_87 Y qx u qm v)]
  rw [hy 88 _ (wa_88 Y qx u qm v)]
  exact hP 85 _ (wa_85 Y qx u qm v)
theorem st_86 (hP : va_P D classes (wA Y qx u qm v) H) (hy : ∀ k x, (wA Y qx u qm v)[k]? = some x → y k = x.1) : va_at D classes (y 86, cel (Y.1, Y.2.1, y, Y.2.2.2) 86 (M0 ((86 : Nat) : Int))) H := by
  rw [cX_86]
  show va_at D classes (y 86, .inl (Y.2.1 20, 9, .inl fun _ => 0)) H
  rw [hy 86 _ (wa_86 Y qx u qm v)]
  exact hP 86 _ (wa_86 Y qx u qm v)
theorem st_87 (hP : va_P D classes (wA Y qx u qm v) H) (hy : ∀ k x, (wA Y qx u qm v)[k]? = some x → y k = x.1) : va_at D classes (y 87, cel (Y.1, Y.2.1, y, Y.2.2.2) 87 (M0 ((87 : Nat) : Int))) H := by
  rw [cX_87]
  show va_at D classes (y 87, .inl (Y.2.1 20, 9, .inl fun _ => 0)) H
  rw [hy 87 _ (wa_87 Y qx u qm v)]
  exact hP 87 _ (wa_87 Y qx u qm v)
theorem st_88 (hP : va_P D classes (wA Y qx u qm v) H) (hy : ∀ k x, (wA Y qx u qm v)[k]? = some x → y k = x.1) : va_at D classes (y 88, cel (Y.1, Y.2.1, y, Y.2.2.2) 88 (M0 ((88 : Nat) : Int))) H := by
  rw [cX_88]
  show va_at D classes (y 88, .inl (Y.2.1 20, 9, .inl fun _ => 0)) H
  rw [hy 88 _ (wa_88 Y qx u qm v)]
  exact hP 88 _ (wa_88 Y qx u qm v)
theorem st_89 (hP : va_P D classes (wA Y qx u qm v) H) (hy : ∀ k x, (wA Y qx u qm v)[k]? = some x → y k = x.1) : va_at D classes (y 89, cel (Y.1, Y.2.1, y, Y.2.2.2) 89 (M0 ((89 : Nat) : Int))) H := by
  rw [cX_89]
  show va_at D classes (y 89, .inr (6, [.int 0, .ref (y 90), .int 0, .ref (y 91), .int 0])) H
  rw [hy 89 _ (wa_89 Y qx u qm v)]
  rw [hy 90 _ (wa_90 Y qx u qm v)]
  rw [hy 91 _ (wa_91 Y qx u qm v)]
  exact hP 89 _ (wa_89 Y qx u qm v)
theorem st_90 (hP : va_P D classes (wA Y qx u qm v) H) (hy : ∀ k x, (wA Y qx u qm v)[k]? = some x → y k = x.1) : va_at D classes (y 90, cel (Y.1, Y.2.1, y, Y.2.2.2) 90 (M0 ((90 : Nat) : Int))) H := by
  rw [cX_90]
  show va_at D classes (y 90, .inl (Y.2.1 20, 6, .inl fun _ => 0)) H
  rw [hy 90 _ (wa_90 Y qx u qm v)]
  exact hP 90 _ (wa_90 Y qx u qm v)
theorem st_91 (hP : va_P D classes (wA Y qx u qm v) H) (hy : ∀ k x, (wA Y qx u qm v)[k]? = some x → y k = x.1) : va_at D classes (y 91, cel (Y.1, Y.2.1, y, Y.2.2.2) 91 (M0 ((91 : Nat) : Int))) H := by
  rw [cX_91]
  show va_at D classes (y 91, .inr (5, [.int 0, .ref (y 92), .ref (y 93), .ref (y 94)])) H
  rw [hy 91 _ (wa_91 Y qx u qm v)]
  rw [hy 92 _ (wa_92 Y qx u qm v)]
  rw [hy 93 _ (wa_93 Y qx u qm v)]
  rw [hy 94 _ (wa_94 Y qx u qm v)]
  exact hP 91 _ (wa_91 Y qx u qm v)
theorem st_92 (hP : va_P D classes (wA Y qx u qm v) H) (hy : ∀ k x, (wA Y qx u qm v)[k]? = some x → y k = x.1) : va_at D classes (y 92, cel (Y.1, Y.2.1, y, Y.2.2.2) 92 (M0 ((92 : Nat) : Int))) H := by
  rw [cX_92]
  show va_at D classes (y 92, .inl (Y.2.1 20, 9, .inl fun _ => 0)) H
  rw [hy 92 _ (wa_92 Y qx u qm v)]
  exact hP 92 _ (wa_92 Y qx u qm v)
theorem st_93 (hP : va_P D classes (wA Y qx u qm v) H) (hy : ∀ k x, (wA Y qx u qm v)[k]? = some x → y k = x.1) : va_at D classes (y 93, cel (Y.1, Y.2.1, y, Y.2.2.2) 93 (M0 ((93 : Nat) : Int))) H := by
  rw [cX_93]
  show va_at D classes (y 93, .inl (Y.2.1 20, 9, .inl fun _ => 0)) H
  rw [hy 93 _ (wa_93 Y qx u qm v)]
  exact hP 93 _ (wa_93 Y qx u qm v)
theorem st_94 (hP : va_P D classes (wA Y qx u qm v) H) (hy : ∀ k x, (wA Y qx u qm v)[k]? = some x → y k = x.1) : va_at D classes (y 94, cel (Y.1, Y.2.1, y, Y.2.2.2) 94 (M0 ((94 : Nat) : Int))) H := by
  rw [cX_94]
  show va_at D classes (y 94, .inl (Y.2.1 20, 9, .inl fun _ => 0)) H
  rw [hy 94 _ (wa_94 Y qx u qm v)]
  exact hP 94 _ (wa_94 Y qx u qm v)
theorem st_95 (hP : va_P D classes (wA Y qx u qm v) H) (hy : ∀ k x, (wA Y qx u qm v)[k]? = some x → y k = x.1) : va_at D classes (y 95, cel (Y.1, Y.2.1, y, Y.2.2.2) 95 (M0 ((95 : Nat) : Int))) H := by
  rw [cX_95]
  show va_at D classes (y 95, .inr (6, [.int 0, .ref (y 96), .int 0, .ref (y 97), .int 0])) H
  rw [hy 95 _ (wa_95 Y qx u qm v)]
  rw [hy 96 _ (wa_96 Y qx u qm v)]
  rw [hy 97 _ (wa_97 Y qx u qm v)]
  exact hP 95 _ (wa_95 Y qx u qm v)
theorem st_96 (hP : va_P D classes (wA Y qx u qm v) H) (hy : ∀ k x, (wA Y qx u qm v)[k]? = some x → y k = x.1) : va_at D classes (y 96, cel (Y.1, Y.2.1, y, Y.2.2.2) 96 (M0 ((96 : Nat) : Int))) H := by
  rw [cX_96]
  show va_at D classes (y 96, .inl (Y.2.1 20, 6, .inl fun _ => 0)) H
  rw [hy 96 _ (wa_96 Y qx u qm v)]
  exact hP 96 _ (wa_96 Y qx u qm v)
theorem st_97 (hP : va_P D classes (wA Y qx u qm v) H) (hy : ∀ k x, (wA Y qx u qm v)[k]? = some x → y k = x.1) : va_at D classes (y 97, cel (Y.1, Y.2.1, y, Y.2.2.2) 97 (M0 ((97 : Nat) : Int))) H := by
  rw [cX_97]
  show va_at D classes (y 97, .inr (5, [.int 0, .ref (y 98), .ref (y 99), .ref (y 100)])) H
  rw [hy 97 _ (wa_97 Y qx u qm v)]
  rw [hy 98 _ (wa_98 Y qx u qm v)]
  rw [hy 99 _ (wa_99 Y qx u qm v)]
  rw [hy 100 _ (wa_100 Y qx u qm v)]
  exact hP 97 _ (wa_97 Y qx u qm v)
theorem st_98 (hP : va_P D classes (wA Y qx u qm v) H) (hy : ∀ k x, (wA Y qx u qm v)[k]? = some x → y k = x.1) : va_at D classes (y 98, cel (Y.1, Y.2.1, y, Y.2.2.2) 98 (M0 ((98 : Nat) : Int))) H := by
  rw [cX_98]
  show va_at D classes (y 98, .inl (Y.2.1 20, 9, .inl fun _ => 0)) H
  rw [hy 98 _ (wa_98 Y qx u qm v)]
  exact hP 98 _ (wa_98 Y qx u qm v)
theorem st_99 (hP : va_P D classes (wA Y qx u qm v) H) (hy : ∀ k x, (wA Y qx u qm v)[k]? = some x → y k = x.1) : va_at D classes (y 99, cel (Y.1, Y.2.1, y, Y.2.2.2) 99 (M0 ((99 : Nat) : Int))) H := by
  rw [cX_99]
  show va_at D classes (y 99, .inl (Y.2.1 20, 9, .inl fun _ => 0)) H
  rw [hy 99 _ (wa_99 Y qx u qm v)]
  exact hP 99 _ (wa_99 Y qx u qm v)
theorem st_100 (hP : va_P D classes (wA Y qx u qm v) H) (hy : ∀ k x, (wA Y qx u qm v)[k]? = some x → y k = x.1) : va_at D classes (y 100, cel (Y.1, Y.2.1, y, Y.2.2.2) 100 (M0 ((100 : Nat) : Int))) H := by
  rw [cX_100]
  show va_at D classes (y 100, .inl (Y.2.1 20, 9, .inl fun _ => 0)) H
  rw [hy 100 _ (wa_100 Y qx u qm v)]
  exact hP 100 _ (wa_100 Y qx u qm v)
theorem st_101 (hP : va_P D classes (wA Y qx u qm v) H) (hy : ∀ k x, (wA Y qx u qm v)[k]? = some x → y k = x.1) : va_at D classes (y 101, cel (Y.1, Y.2.1, y, Y.2.2.2) 101 (M0 ((101 : Nat) : Int))) H := by
  rw [cX_101]
  show va_at D classes (y 101, .inr (6, [.int 0, .ref (y 102), .int 0, .ref (y 103), .int 0])) H
  rw [hy 101 _ (wa_101 Y qx u qm v)]
  rw [hy 102 _ (wa_102 Y qx u qm v)]
  rw [hy 103 _ (wa_103 Y qx u qm v)]
  exact hP 101 _ (wa_101 Y qx u qm v)
theorem st_102 (hP : va_P D classes (wA Y qx u qm v) H) (hy : ∀ k x, (wA Y qx u qm v)[k]? = some x → y k = x.1) : va_at D classes (y 102, cel (Y.1, Y.2.1, y, Y.2.2.2) 102 (M0 ((102 : Nat) : Int))) H := by
  rw [cX_102]
  show va_at D classes (y 102, .inl (Y.2.1 20, 6, .inl fun _ => 0)) H
  rw [hy 102 _ (wa_102 Y qx u qm v)]
  exact hP 102 _ (wa_102 Y qx u qm v)
theorem st_103 (hP : va_P D classes (wA Y qx u qm v) H) (hy : ∀ k x, (wA Y qx u qm v)[k]? = some x → y k = x.1) : va_at D classes (y 103, cel (Y.1, Y.2.1, y, Y.2.2.2) 103 (M0 ((103 : Nat) : Int))) H := by
  rw [cX_103]
  show va_at D classes (y 103, .inr (5, [.int 0, .ref (y 104), .ref (y 105), .ref (y 106)])) H
  rw [hy 103 _ (wa_103 Y qx u qm v)]
  rw [hy 104 _ (wa_104 Y qx u qm v)]
  rw [hy 105 _ (wa_105 Y qx u qm v)]
  rw [hy 106 _ (wa_106 Y qx u qm v)]
  exact hP 103 _ (wa_103 Y qx u qm v)
theorem st_104 (hP : va_P D classes (wA Y qx u qm v) H) (hy : ∀ k x, (wA Y qx u qm v)[k]? = some x → y k = x.1) : va_at D classes (y 104, cel (Y.1, Y.2.1, y, Y.2.2.2) 104 (M0 ((104 : Nat) : Int))) H := by
  rw [cX_104]
  show va_at D classes (y 104, .inl (Y.2.1 20, 9, .inl fun _ => 0)) H
  rw [hy 104 _ (wa_104 Y qx u qm v)]
  exact hP 104 _ (wa_104 Y qx u qm v)
theorem st_105 (hP : va_P D classes (wA Y qx u qm v) H) (hy : ∀ k x, (wA Y qx u qm v)[k]? = some x → y k = x.1) : va_at D classes (y 105, cel (Y.1, Y.2.1, y, Y.2.2.2) 105 (M0 ((105 : Nat) : Int))) H := by
  rw [cX_105]
  show va_at D classes (y 105, .inl (Y.2.1 20, 9, .inl fun _ => 0)) H
  rw [hy 105 _ (wa_105 Y qx u qm v)]
  exact hP 105 _ (wa_105 Y qx u qm v)
theorem st_106 (hP : va_P D classes (wA Y qx u qm v) H) (hy : ∀ k x, (wA Y qx u qm v)[k]? = some x → y k = x.1) : va_at D classes (y 106, cel (Y.1, Y.2.1, y, Y.2.2.2) 106 (M0 ((106 : Nat) : Int))) H := by
  rw [cX_106]
  show va_at D classes (y 106, .inl (Y.2.1 20, 9, .inl fun _ => 0)) H
  rw [hy 106 _ (wa_106 Y qx u qm v)]
  exact hP 106 _ (wa_106 Y qx u qm v)
theorem st_107 (hP : va_P D classes (wA Y qx u qm v) H) (hy : ∀ k x, (wA Y qx u qm v)[k]? = some x → y k = x.1) : va_at D classes (y 107, cel (Y.1, Y.2.1, y, Y.2.2.2) 107 (M0 ((107 : Nat) : Int))) H := by
  rw [cX_107]
  show va_at D classes (y 107, .inr (6, [.int 0, .ref (y 108), .int 0, .ref (y 109), .int 0])) H
  rw [hy 107 _ (wa_107 Y qx u qm v)]
  rw [hy 108 _ (wa_108 Y qx u qm v)]
  rw [hy 109 _ (wa_109 Y qx u qm v)]
  exact hP 107 _ (wa_107 Y qx u qm v)
theorem st_108 (hP : va_P D classes (wA Y qx u qm v) H) (hy : ∀ k x, (wA Y qx u qm v)[k]? = some x → y k = x.1) : va_at D classes (y 108, cel (Y.1, Y.2.1, y, Y.2.2.2) 108 (M0 ((108 : Nat) : Int))) H := by
  rw [cX_108]
  show va_at D classes (y 108, .inl (Y.2.1 20, 6, .inl fun _ => 0)) H
  rw [hy 108 _ (wa_108 Y qx u qm v)]
  exact hP 108 _ (wa_108 Y qx u qm v)
theorem st_109 (hP : va_P D classes (wA Y qx u qm v) H) (hy : ∀ k x, (wA Y qx u qm v)[k]? = some x → y k = x.1) : va_at D classes (y 109, cel (Y.1, Y.2.1, y, Y.2.2.2) 109 (M0 ((109 : Nat) : Int))) H := by
  rw [cX_109]
  show va_at D classes (y 109, .inr (5, [.int 0, .ref (y 110), .ref (y 111), .ref (y 112)])) H
  rw [hy 109 _ (wa_109 Y qx u qm v)]
  rw [hy 110 _ (wa_110 Y qx u qm v)]
  rw [hy 111 _ (wa_111 Y qx u qm v)]
  rw [hy 112 _ (wa_112 Y qx u qm v)]
  exact hP 109 _ (wa_109 Y qx u qm v)
theorem st_110 (hP : va_P D classes (wA Y qx u qm v) H) (hy : ∀ k x, (wA Y qx u qm v)[k]? = some x → y k = x.1) : va_at D classes (y 110, cel (Y.1, Y.2.1, y, Y.2.2.2) 110 (M0 ((110 : Nat) : Int))) H := by
  rw [cX_110]
  show va_at D classes (y 110, .inl (Y.2.1 20, 9, .inl fun _ => 0)) H
  rw [hy 110 _ (wa_110 Y qx u qm v)]
  exact hP 110 _ (wa_110 Y qx u qm v)
theorem st_111 (hP : va_P D classes (wA Y qx u qm v) H) (hy : ∀ k x, (wA Y qx u qm v)[k]? = some x → y k = x.1) : va_at D classes (y 111, cel (Y.1, Y.2.1, y, Y.2.2.2) 111 (M0 ((111 : Nat) : Int))) H := by
  rw [cX_111]
  show va_at D classes (y 111, .inl (Y.2.1 20, 9, .inl fun _ => 0)) H
  rw [hy 111 _ (wa_111 Y qx u qm v)]
  exact hP 111 _ (wa_111 Y qx u qm v)
theorem st_112 (hP : va_P D classes (wA Y qx u qm v) H) (hy : ∀ k x, (wA Y qx u qm v)[k]? = some x → y k = x.1) : va_at D classes (y 112, cel (Y.1, Y.2.1, y, Y.2.2.2) 112 (M0 ((112 : Nat) : Int))) H := by
  rw [cX_112]
  show va_at D classes (y 112, .inl (Y.2.1 20, 9, .inl fun _ => 0)) H
  rw [hy 112 _ (wa_112 Y qx u qm v)]
  exact hP 112 _ (wa_112 Y qx u qm v)
theorem st_113 (hP : va_P D classes (wA Y qx u qm v) H) (hy : ∀ k x, (wA Y qx u qm v)[k]? = some x → y k = x.1) : va_at D classes (y 113, cel (Y.1, Y.2.1, y, Y.2.2.2) 113 (M0 ((113 : Nat) : Int))) H := by
  rw [cX_113]
  show va_at D classes (y 113, .inr (6, [.int 0, .ref (y 114), .int 0, .ref (y 115), .int 0])) H
  rw [hy 113 _ (wa_113 Y qx u qm v)]
  rw [hy 114 _ (wa_114 Y qx u qm v)]
  rw [hy 115 _ (wa_115 Y qx u qm v)]
  exact hP 113 _ (wa_113 Y qx u qm v)
theorem st_114 (hP : va_P D classes (wA Y qx u qm v) H) (hy : ∀ k x, (wA Y qx u qm v)[k]? = some x → y k = x.1) : va_at D classes (y 114, cel (Y.1, Y.2.1, y, Y.2.2.2) 114 (M0 ((114 : Nat) : Int))) H := by
  rw [cX_114]
  show va_at D classes (y 114, .inl (Y.2.1 20, 6, .inl fun _ => 0)) H
  rw [hy 114 _ (wa_114 Y qx u qm v)]
  exact hP 114 _ (wa_114 Y qx u qm v)
theorem st_115 (hP : va_P D classes (wA Y qx u qm v) H) (hy : ∀ k x, (wA Y qx u qm v)[k]? = some x → y k = x.1) : va_at D classes (y 115, cel (Y.1, Y.2.1, y, Y.2.2.2) 115 (M0 ((115 : Nat) : Int))) H := by
  rw [cX_115]
  show va_at D classes (y 115, .inr (5, [.int 0, .ref (y 116), .ref (y 117), .ref (y 118)])) H
  rw [hy 115 _ (wa_115 Y qx u qm v)]
  rw [hy 116 _ (wa_116 Y qx u qm v)]
  rw [hy 117 _ (wa_117 Y qx u qm v)]
  rw [hy 118 _ (wa_118 Y qx u qm v)]
  exact hP 115 _ (wa_115 Y qx u qm v)
theorem st_116 (hP : va_P D classes (wA Y qx u qm v) H) (hy : ∀ k x, (wA Y qx u qm v)[k]? = some x → y k = x.1) : va_at D classes (y 116, cel (Y.1, Y.2.1, y, Y.2.2.2) 116 (M0 ((116 : Nat) : Int))) H := by
  rw [cX_116]
  show va_at D classes (y 116, .inl (Y.2.1 20, 9, .inl fun _ => 0)) H
  rw [hy 116 _ (wa_116 Y qx u qm v)]
  exact hP 116 _ (wa_116 Y qx u qm v)
theorem st_117 (hP : va_P D classes (wA Y qx u qm v) H) (hy : ∀ k x, (wA Y qx u qm v)[k]? = some x → y k = x.1) : va_at D classes (y 117, cel (Y.1, Y.2.1, y, Y.2.2.2) 117 (M0 ((117 : Nat) : Int))) H := by
  rw [cX_117]
  show va_at D classes (y 117, .inl (Y.2.1 20, 9, .inl fun _ => 0)) H
  rw [hy 117 _ (wa_117 Y qx u qm v)]
  exact hP 117 _ (wa_117 Y qx u qm v)
theorem st_118 (hP : va_P D classes (wA Y qx u qm v) H) (hy : ∀ k x, (wA Y qx u qm v)[k]? = some x → y k = x.1) : va_at D classes (y 118, cel (Y.1, Y.2.1, y, Y.2.2.2) 118 (M0 ((118 : Nat) : Int))) H := by
  rw [cX_118]
  show va_at D classes (y 118, .inl (Y.2.1 20, 9, .inl fun _ => 0)) H
  rw [hy 118 _ (wa_118 Y qx u qm v)]
  exact hP 118 _ (wa_118 Y qx u qm v)
theorem st_119 (hP : va_P D classes (wA Y qx u qm v) H) (hy : ∀ k x, (wA Y qx u qm v)[k]? = some x → y k = x.1) : va_at D classes (y 119, cel (Y.1, Y.2.1, y, Y.2.2.2) 119 (M0 ((119 : Nat) : Int))) H := by
  rw [cX_119]
  show va_at D classes (y 119, .inr (6, [.int 0, .ref (y 120), .int 0, .ref (y 121), .int 0])) H
  rw [hy 119 _ (wa_119 Y qx u qm v)]
  rw [hy 120 _ (wa_120 Y qx u qm v)]
  rw [hy 121 _ (wa_121 Y qx u qm v)]
  exact hP 119 _ (wa_119 Y qx u qm v)
theorem st_120 (hP : va_P D classes (wA Y qx u qm v) H) (hy : ∀ k x, (wA Y qx u qm v)[k]? = some x → y k = x.1) : va_at D classes (y 120, cel (Y.1, Y.2.1, y, Y.2.2.2) 120 (M0 ((120 : Nat) : Int))) H := by
  rw [cX_120]
  show va_at D classes (y 120, .inl (Y.2.1 20, 6, .inl fun _ => 0)) H
  rw [hy 120 _ (wa_120 Y qx u qm v)]
  exact hP 120 _ (wa_120 Y qx u qm v)
theorem st_121 (hP : va_P D classes (wA Y qx u qm v) H) (hy : ∀ k x, (wA Y qx u qm v)[k]? = some x → y k = x.1) : va_at D classes (y 121, cel (Y.1, Y.2.1, y, Y.2.2.2) 121 (M0 ((121 : Nat) : Int))) H := by
  rw [cX_121]
  show va_at D classes (y 121, .inr (5, [.int 0, .ref (y 122), .ref (y 123), .ref (y 124)])) H
  rw [hy 121 _ (wa_121 Y qx u qm v)]
  rw [hy 122 _ (wa_122 Y qx u qm v)]
  rw [hy 123 _ (wa_123 Y qx u qm v)]
  rw [hy 124 _ (wa_124 Y qx u qm v)]
  exact hP 121 _ (wa_121 Y qx u qm v)
theorem st_122 (hP : va_P D classes (wA Y qx u qm v) H) (hy : ∀ k x, (wA Y qx u qm v)[k]? = some x → y k = x.1) : va_at D classes (y 122, cel (Y.1, Y.2.1, y, Y.2.2.2) 122 (M0 ((122 : Nat) : Int))) H := by
  rw [cX_122]
  show va_at D classes (y 122, .inl (Y.2.1 20, 9, .inl fun _ => 0)) H
  rw [hy 122 _ (wa_122 Y qx u qm v)]
  exact hP 122 _ (wa_122 Y qx u qm v)
theorem st_123 (hP : va_P D classes (wA Y qx u qm v) H) (hy : ∀ k x, (wA Y qx u qm v)[k]? = some x → y k = x.1) : va_at D classes (y 123, cel (Y.1, Y.2.1, y, Y.2.2.2) 123 (M0 ((123 : Nat) : Int))) H := by
  rw [cX_123]
  show va_at D classes (y 123, .inl (Y.2.1 20, 9, .inl fun _ => 0)) H
  rw [hy 123 _ (wa_123 Y qx u qm v)]
  exact hP 123 _ (wa_123 Y qx u qm v)
theorem st_124 (hP : va_P D classes (wA Y qx u qm v) H) (hy : ∀ k x, (wA Y qx u qm v)[k]? = some x → y k = x.1) : va_at D classes (y 124, cel (Y.1, Y.2.1, y, Y.2.2.2) 124 (M0 ((124 : Nat) : Int))) H := by
  rw [cX_124]
  show va_at D classes (y 124, .inl (Y.2.1 20, 9, .inl fun _ => 0)) H
  rw [hy 124 _ (wa_124 Y qx u qm v)]
  exact hP 124 _ (wa_124 Y qx u qm v)
theorem st_125 (hP : va_P D classes (wA Y qx u qm v) H) (hy : ∀ k x, (wA Y qx u qm v)[k]? = some x → y k = x.1) : va_at D classes (y 125, cel (Y.1, Y.2.1, y, Y.2.2.2) 125 (M0 ((125 : Nat) : Int))) H := by
  rw [cX_125]
  show va_at D classes (y 125, .inr (6, [.int 0, .ref (y 126), .int 0, .ref (y 127), .int 0])) H
  rw [hy 125 _ (wa_125 Y qx u qm v)]
  rw [hy 126 _ (wa_126 Y qx u qm v)]
  rw [hy 127 _ (wa_127 Y qx u qm v)]
  exact hP 125 _ (wa_125 Y qx u qm v)
theorem st_126 (hP : va_P D classes (wA Y qx u qm v) H) (hy : ∀ k x, (wA Y qx u qm v)[k]? = some x → y k = x.1) : va_at D classes (y 126, cel (Y.1, Y.2.1, y, Y.2.2.2) 126 (M0 ((126 : Nat) : Int))) H := by
  rw [cX_126]
  show va_at D classes (y 126, .inl (Y.2.1 20, 6, .inl fun _ => 0)) H
  rw [hy 126 _ (wa_126 Y qx u qm v)]
  exact hP 126 _ (wa_126 Y qx u qm v)
theorem st_127 (hP : va_P D classes (wA Y qx u qm v) H) (hy : ∀ k x, (wA Y qx u qm v)[k]? = some x → y k = x.1) : va_at D classes (y 127, cel (Y.1, Y.2.1, y, Y.2.2.2) 127 (M0 ((127 : Nat) : Int))) H := by
  rw [cX_127]
  show va_at D classes (y 127, .inr (5, [.int 0, .ref (y 128), .ref (y 129), .ref (y 130)])) H
  rw [hy 127 _ (wa_127 Y qx u qm v)]
  rw [hy 128 _ (wa_128 Y qx u qm v)]
  rw [hy 129 _ (wa_129 Y qx u qm v)]
  rw [hy 130 _ (wa_130 Y qx u qm v)]
  exact hP 127 _ (wa_127 Y qx u qm v)
theorem st_128 (hP : va_P D classes (wA Y qx u qm v) H) (hy : ∀ k x, (wA Y qx u qm v)[k]? = some x → y k = x.1) : va_at D classes (y 128, cel (Y.1, Y.2.1, y, Y.2.2.2) 128 (M0 ((128 : Nat) : Int))) H := by
  rw [cX_128]
  show va_at D classes (y 128, .inl (Y.2.1 20, 9, .inl fun _ => 0)) H
  rw [hy 128 _ (wa_128 Y qx u qm v)]
  exact hP 128 _ (wa_128 Y qx u qm v)
theorem st_129 (hP : va_P D classes (wA Y qx u qm v) H) (hy : ∀ k x, (wA Y qx u qm v)[k]? = some x → y k = x.1) : va_at D classes (y 129, cel (Y.1, Y.2.1, y, Y.2.2.2) 129 (M0 ((129 : Nat) : Int))) H := by
  rw [cX_129]
  show va_at D classes (y 129, .inl (Y.2.1 20, 9, .inl fun _ => 0)) H
  rw [hy 129 _ (wa_129 Y qx u qm v)]
  exact hP 129 _ (wa_129 Y qx u qm v)
theorem st_130 (hP : va_P D classes (wA Y qx u qm v) H) (hy : ∀ k x, (wA Y qx u qm v)[k]? = some x → y k = x.1) : va_at D classes (y 130, cel (Y.1, Y.2.1, y, Y.2.2.2) 130 (M0 ((130 : Nat) : Int))) H := by
  rw [cX_130]
  show va_at D classes (y 130, .inl (Y.2.1 20, 9, .inl fun _ => 0)) H
  rw [hy 130 _ (wa_130 Y qx u qm v)]
  exact hP 130 _ (wa_130 Y qx u qm v)
theorem st_131 (hP : va_P D classes (wA Y qx u qm v) H) (hy : ∀ k x, (wA Y qx u qm v)[k]? = some x → y k = x.1) : va_at D classes (y 131, cel (Y.1, Y.2.1, y, Y.2.2.2) 131 (M0 ((131 : Nat) : Int))) H := by
  rw [cX_131]
  show va_at D classes (y 131, .inr (6, [.int 0, .ref (y 132), .int 0, .ref (y 133), .int 0])) H
  rw [hy 131 _ (wa_131 Y qx u qm v)]
  rw [hy 132 _ (wa_132 Y qx u qm v)]
  rw [hy 133 _ (wa_133 Y qx u qm v)]
  exact hP 131 _ (wa_131 Y qx u qm v)
theorem st_132 (hP : va_P D classes (wA Y qx u qm v) H) (hy : ∀ k x, (wA Y qx u qm v)[k]? = some x → y k = x.1) : va_at D classes (y 132, cel (Y.1, Y.2.1, y, Y.2.2.2) 132 (M0 ((132 : Nat) : Int))) H := by
  rw [cX_132]
  show va_at D classes (y 132, .inl (Y.2.1 20, 6, .inl fun _ => 0)) H
  rw [hy 132 _ (wa_132 Y qx u qm v)]
  exact hP 132 _ (wa_132 Y qx u qm v)
theorem st_133 (hP : va_P D classes (wA Y qx u qm v) H) (hy : ∀ k x, (wA Y qx u qm v)[k]? = some x → y k = x.1) : va_at D classes (y 133, cel (Y.1, Y.2.1, y, Y.2.2.2) 133 (M0 ((133 : Nat) : Int))) H := by
  rw [cX_133]
  show va_at D classes (y 133, .inr (5, [.int 0, .ref (y 134), .ref (y 135), .ref (y 136)])) H
  rw [hy 133 _ (wa_133 Y qx u qm v)]
  rw [hy 134 _ (wa_134 Y qx u qm v)]
  rw [hy 135 _ (wa_135 Y qx u qm v)]
  rw [hy 136 _ (wa_136 Y qx u qm v)]
  exact hP 133 _ (wa_133 Y qx u qm v)
theorem st_134 (hP : va_P D classes (wA Y qx u qm v) H) (hy : ∀ k x, (wA Y qx u qm v)[k]? = some x → y k = x.1) : va_at D classes (y 134, cel (Y.1, Y.2.1, y, Y.2.2.2) 134 (M0 ((134 : Nat) : Int))) H := by
  rw [cX_134]
  show va_at D classes (y 134, .inl (Y.2.1 20, 9, .inl fun _ => 0)) H
  rw [hy 134 _ (wa_134 Y qx u qm v)]
  exact hP 134 _ (wa_134 Y qx u qm v)
theorem st_135 (hP : va_P D classes (wA Y qx u qm v) H) (hy : ∀ k x, (wA Y qx u qm v)[k]? = some x → y k = x.1) : va_at D classes (y 135, cel (Y.1, Y.2.1, y, Y.2.2.2) 135 (M0 ((135 : Nat) : Int))) H := by
  rw [cX_135]
  show va_at D classes (y 135, .inl (Y.2.1 20, 9, .inl fun _ => 0)) H
  rw [hy 135 _ (wa_135 Y qx u qm v)]
  exact hP 135 _ (wa_135 Y qx u qm v)
theorem st_136 (hP : va_P D classes (wA Y qx u qm v) H) (hy : ∀ k x, (wA Y qx u qm v)[k]? = some x → y k = x.1) : va_at D classes (y 136, cel (Y.1, Y.2.1, y, Y.2.2.2) 136 (M0 ((136 : Nat) : Int))) H := by
  rw [cX_136]
  show va_at D classes (y 136, .inl (Y.2.1 20, 9, .inl fun _ => 0)) H
  rw [hy 136 _ (wa_136 Y qx u qm v)]
  exact hP 136 _ (wa_136 Y qx u qm v)
theorem st_137 (hP : va_P D classes (wA Y qx u qm v) H) (hy : ∀ k x, (wA Y qx u qm v)[k]? = some x → y k = x.1) : va_at D classes (y 137, cel (Y.1, Y.2.1, y, Y.2.2.2) 137 (M0 ((137 : Nat) : Int))) H := by
  rw [cX_137]
  show va_at D classes (y 137, .inr (6, [.int 0, .ref (y 138), .int 0, .ref (y 139), .int 0])) H
  rw [hy 137 _ (wa_137 Y qx u qm v)]
  rw [hy 138 _ (wa_138 Y qx u qm v)]
  rw [hy 139 _ (wa_139 Y qx u qm v)]
  exact hP 137 _ (wa_137 Y qx u qm v)
theorem st_138 (hP : va_P D classes (wA Y qx u qm v) H) (hy : ∀ k x, (wA Y qx u qm v)[k]? = some x → y k = x.1) : va_at D classes (y 138, cel (Y.1, Y.2.1, y, Y.2.2.2) 138 (M0 ((138 : Nat) : Int))) H := by
  rw [cX_138]
  show va_at D classes (y 138, .inl (Y.2.1 20, 6, .inl fun _ => 0)) H
  rw [hy 138 _ (wa_138 Y qx u qm v)]
  exact hP 138 _ (wa_138 Y qx u qm v)
theorem st_139 (hP : va_P D classes (wA Y qx u qm v) H) (hy : ∀ k x, (wA Y qx u qm v)[k]? = some x → y k = x.1) : va_at D classes (y 139, cel (Y.1, Y.2.1, y, Y.2.2.2) 139 (M0 ((139 : Nat) : Int))) H := by
  rw [cX_139]
  show va_at D classes (y 139, .inr (5, [.int 0, .ref (y 140), .ref (y 141), .ref (y 142)])) H
  rw [hy 139 _ (wa_139 Y qx u qm v)]
  rw [hy 140 _ (wa_140 Y qx u qm v)]
  rw [hy 141 _ (wa_141 Y qx u qm v)]
  rw [hy 142 _ (wa_142 Y qx u qm v)]
  exact hP 139 _ (wa_139 Y qx u qm v)
theorem st_140 (hP : va_P D classes (wA Y qx u qm v) H) (hy : ∀ k x, (wA Y qx u qm v)[k]? = some x → y k = x.1) : va_at D classes (y 140, cel (Y.1, Y.2.1, y, Y.2.2.2) 140 (M0 ((140 : Nat) : Int))) H := by
  rw [cX_140]
  show va_at D classes (y 140, .inl (Y.2.1 20, 9, .inl fun _ => 0)) H
  rw [hy 140 _ (wa_140 Y qx u qm v)]
  exact hP 140 _ (wa_140 Y qx u qm v)
theorem st_141 (hP : va_P D classes (wA Y qx u qm v) H) (hy : ∀ k x, (wA Y qx u qm v)[k]? = some x → y k = x.1) : va_at D classes (y 141, cel (Y.1, Y.2.1, y, Y.2.2.2) 141 (M0 ((141 : Nat) : Int))) H := by
  rw [cX_141]
  show va_at D classes (y 141, .inl (Y.2.1 20, 9, .inl fun _ => 0)) H
  rw [hy 141 _ (wa_141 Y qx u qm v)]
  exact hP 141 _ (wa_141 Y qx u qm v)
theorem st_142 (hP : va_P D classes (wA Y qx u qm v) H) (hy : ∀ k x, (wA Y qx u qm v)[k]? = some x → y k = x.1) : va_at D classes (y 142, cel (Y.1, Y.2.1, y, Y.2.2.2) 142 (M0 ((142 : Nat) : Int))) H := by
  rw [cX_142]
  show va_at D classes (y 142, .inl (Y.2.1 20, 9, .inl fun _ => 0)) H
  rw [hy 142 _ (wa_142 Y qx u qm v)]
  exact hP 142 _ (wa_142 Y qx u qm v)
theorem st_143 (hP : va_P D classes (wA Y qx u qm v) H) (hy : ∀ k x, (wA Y qx u qm v)[k]? = some x → y k = x.1) : va_at D classes (y 143, cel (Y.1, Y.2.1, y, Y.2.2.2) 143 (M0 ((143 : Nat) : Int))) H := by
  rw [cX_143]
  show va_at D classes (y 143, .inr (6, [.int 0, .ref (y 144), .int 0, .ref (y 145), .int 0])) H
  rw [hy 143 _ (wa_143 Y qx u qm v)]
  rw [hy 144 _ (wa_144 Y qx u qm v)]
  rw [hy 145 _ (wa_145 Y qx u qm v)]
  exact hP 143 _ (wa_143 Y qx u qm v)
theorem st_144 (hP : va_P D classes (wA Y qx u qm v) H) (hy : ∀ k x, (wA Y qx u qm v)[k]? = some x → y k = x.1) : va_at D classes (y 144, cel (Y.1, Y.2.1, y, Y.2.2.2) 144 (M0 ((144 : Nat) : Int))) H := by
  rw [cX_144]
  show va_at D classes (y 144, .inl (Y.2.1 20, 6, .inl fun _ => 0)) H
  rw [hy 144 _ (wa_144 Y qx u qm v)]
  exact hP 144 _ (wa_144 Y qx u qm v)
theorem st_145 (hP : va_P D classes (wA Y qx u qm v) H) (hy : ∀ k x, (wA Y qx u qm v)[k]? = some x → y k = x.1) : va_at D classes (y 145, cel (Y.1, Y.2.1, y, Y.2.2.2) 145 (M0 ((145 : Nat) : Int))) H := by
  rw [cX_145]
  show va_at D classes (y 145, .inr (5, [.int 0, .ref (y 146), .ref (y 147), .ref (y 148)])) H
  rw [hy 145 _ (wa_145 Y qx u qm v)]
  rw [hy 146 _ (wa_146 Y qx u qm v)]
  rw [hy 147 _ (wa_147 Y qx u qm v)]
  rw [hy 148 _ (wa_148 Y qx u qm v)]
  exact hP 145 _ (wa_145 Y qx u qm v)
theorem st_146 (hP : va_P D classes (wA Y qx u qm v) H) (hy : ∀ k x, (wA Y qx u qm v)[k]? = some x → y k = x.1) : va_at D classes (y 146, cel (Y.1, Y.2.1, y, Y.2.2.2) 146 (M0 ((146 : Nat) : Int))) H := by
  rw [cX_146]
  show va_at D classes (y 146, .inl (Y.2.1 20, 9, .inl fun _ => 0)) H
  rw [hy 146 _ (wa_146 Y qx u qm v)]
  exact hP 146 _ (wa_146 Y qx u qm v)
theorem st_147 (hP : va_P D classes (wA Y qx u qm v) H) (hy : ∀ k x, (wA Y qx u qm v)[k]? = some x → y k = x.1) : va_at D classes (y 147, cel (Y.1, Y.2.1, y, Y.2.2.2) 147 (M0 ((147 : Nat) : Int))) H := by
  rw [cX_147]
  show va_at D classes (y 147, .inl (Y.2.1 20, 9, .inl fun _ => 0)) H
  rw [hy 147 _ (wa_147 Y qx u qm v)]
  exact hP 147 _ (wa_147 Y qx u qm v)
theorem st_148 (hP : va_P D classes (wA Y qx u qm v) H) (hy : ∀ k x, (wA Y qx u qm v)[k]? = some x → y k = x.1) : va_at D classes (y 148, cel (Y.1, Y.2.1, y, Y.2.2.2) 148 (M0 ((148 : Nat) : Int))) H := by
  rw [cX_148]
  show va_at D classes (y 148, .inl (Y.2.1 20, 9, .inl fun _ => 0)) H
  rw [hy 148 _ (wa_148 Y qx u qm v)]
  exact hP 148 _ (wa_148 Y qx u qm v)
theorem st_149 (hP : va_P D classes (wA Y qx u qm v) H) (hy : ∀ k x, (wA Y qx u qm v)[k]? = some x → y k = x.1) : va_at D classes (y 149, cel (Y.1, Y.2.1, y, Y.2.2.2) 149 (M0 ((149 : Nat) : Int))) H := by
  rw [cX_149]
  show va_at D classes (y 149, .inr (6, [.int 0, .ref (y 150), .int 0, .ref (y 151), .int 0])) H
  rw [hy 149 _ (wa_149 Y qx u qm v)]
  rw [hy 150 _ (wa_150 Y qx u qm v)]
  rw [hy 151 _ (wa_151 Y qx u qm v)]
  exact hP 149 _ (wa_149 Y qx u qm v)
theorem st_150 (hP : va_P D classes (wA Y qx u qm v) H) (hy : ∀ k x, (wA Y qx u qm v)[k]? = some x → y k = x.1) : va_at D classes (y 150, cel (Y.1, Y.2.1, y, Y.2.2.2) 150 (M0 ((150 : Nat) : Int))) H := by
  rw [cX_150]
  show va_at D classes (y 150, .inl (Y.2.1 20, 6, .inl fun _ => 0)) H
  rw [hy 150 _ (wa_150 Y qx u qm v)]
  exact hP 150 _ (wa_150 Y qx u qm v)
theorem st_151 (hP : va_P D classes (wA Y qx u qm v) H) (hy : ∀ k x, (wA Y qx u qm v)[k]? = some x → y k = x.1) : va_at D classes (y 151, cel (Y.1, Y.2.1, y, Y.2.2.2) 151 (M0 ((151 : Nat) : Int))) H := by
  rw [cX_151]
  show va_at D classes (y 151, .inr (5, [.int 0, .ref (y 152), .ref (y 153), .ref (y 154)])) H
  rw [hy 151 _ (wa_151 Y qx u qm v)]
  rw [hy 152 _ (wa_152 Y qx u qm v)]
  rw [hy 153 _ (wa_153 Y qx u qm v)]
  rw [hy 154 _ (wa_154 Y qx u qm v)]
  exact hP 151 _ (wa_151 Y qx u qm v)
theorem st_152 (hP : va_P D classes (wA Y qx u qm v) H) (hy : ∀ k x, (wA Y qx u qm v)[k]? = some x → y k = x.1) : va_at D classes (y 152, cel (Y.1, Y.2.1, y, Y.2.2.2) 152 (M0 ((152 : Nat) : Int))) H := by
  rw [cX_152]
  show va_at D classes (y 152, .inl (Y.2.1 20, 9, .inl fun _ => 0)) H
  rw [hy 152 _ (wa_152 Y qx u qm v)]
  exact hP 152 _ (wa_152 Y qx u qm v)
theorem st_153 (hP : va_P D classes (wA Y qx u qm v) H) (hy : ∀ k x, (wA Y qx u qm v)[k]? = some x → y k = x.1) : va_at D classes (y 153, cel (Y.1, Y.2.1, y, Y.2.2.2) 153 (M0 ((153 : Nat) : Int))) H := by
  rw [cX_153]
  show va_at D classes (y 153, .inl (Y.2.1 20, 9, .inl fun _ => 0)) H
  rw [hy 153 _ (wa_153 Y qx u qm v)]
  exact hP 153 _ (wa_153 Y qx u qm v)
theorem st_154 (hP : va_P D classes (wA Y qx u qm v) H) (hy : ∀ k x, (wA Y qx u qm v)[k]? = some x → y k = x.1) : va_at D classes (y 154, cel (Y.1, Y.2.1, y, Y.2.2.2) 154 (M0 ((154 : Nat) : Int))) H := by
  rw [cX_154]
  show va_at D classes (y 154, .inl (Y.2.1 20, 9, .inl fun _ => 0)) H
  rw [hy 154 _ (wa_154 Y qx u qm v)]
  exact hP 154 _ (wa_154 Y qx u qm v)
theorem st_155 (hP : va_P D classes (wA Y qx u qm v) H) (hy : ∀ k x, (wA Y qx u qm v)[k]? = some x → y k = x.1) : va_at D classes (y 155, cel (Y.1, Y.2.1, y, Y.2.2.2) 155 (M0 ((155 : Nat) : Int))) H := by
  rw [cX_155]
  show va_at D classes (y 155, .inr (6, [.int 0, .ref (y 156), .int 0, .ref (y 157), .int 0])) H
  rw [hy 155 _ (wa_155 Y qx u qm v)]
  rw [hy 156 _ (wa_156 Y qx u qm v)]
  rw [hy 157 _ (wa_157 Y qx u qm v)]
  exact hP 155 _ (wa_155 Y qx u qm v)
theorem st_156 (hP : va_P D classes (wA Y qx u qm v) H) (hy : ∀ k x, (wA Y qx u qm v)[k]? = some x → y k = x.1) : va_at D classes (y 156, cel (Y.1, Y.2.1, y, Y.2.2.2) 156 (M0 ((156 : Nat) : Int))) H := by
  rw [cX_156]
  show va_at D classes (y 156, .inl (Y.2.1 20, 6, .inl fun _ => 0)) H
  rw [hy 156 _ (wa_156 Y qx u qm v)]
  exact hP 156 _ (wa_156 Y qx u qm v)
theorem st_157 (hP : va_P D classes (wA Y qx u qm v) H) (hy : ∀ k x, (wA Y qx u qm v)[k]? = some x → y k = x.1) : va_at D classes (y 157, cel (Y.1, Y.2.1, y, Y.2.2.2) 157 (M0 ((157 : Nat) : Int))) H := by
  rw [cX_157]
  show va_at D classes (y 157, .inr (5, [.int 0, .ref (y 158), .ref (y 159), .ref (y 160)])) H
  rw [hy 157 _ (wa_157 Y qx u qm v)]
  rw [hy 158 _ (wa_158 Y qx u qm v)]
  rw [hy 159 _ (wa_159 Y qx u qm v)]
  rw [hy 160 _ (wa_160 Y qx u qm v)]
  exact hP 157 _ (wa_157 Y qx u qm v)
theorem st_158 (hP : va_P D classes (wA Y qx u qm v) H) (hy : ∀ k x, (wA Y qx u qm v)[k]? = some x → y k = x.1) : va_at D classes (y 158, cel (Y.1, Y.2.1, y, Y.2.2.2) 158 (M0 ((158 : Nat) : Int))) H := by
  rw [cX_158]
  show va_at D classes (y 158, .inl (Y.2.1 20, 9, .inl fun _ => 0)) H
  rw [hy 158 _ (wa_158 Y qx u qm v)]
  exact hP 158 _ (wa_158 Y qx u qm v)
theorem st_159 (hP : va_P D classes (wA Y qx u qm v) H) (hy : ∀ k x, (wA Y qx u qm v)[k]? = some x → y k = x.1) : va_at D classes (y 159, cel (Y.1, Y.2.1, y, Y.2.2.2) 159 (M0 ((159 : Nat) : Int))) H := by
  rw [cX_159]
  show va_at D classes (y 159, .inl (Y.2.1 20, 9, .inl fun _ => 0)) H
  rw [hy 159 _ (wa_159 Y qx u qm v)]
  exact hP 159 _ (wa_159 Y qx u qm v)
theorem st_160 (hP : va_P D classes (wA Y qx u qm v) H) (hy : ∀ k x, (wA Y qx u qm v)[k]? = some x → y k = x.1) : va_at D classes (y 160, cel (Y.1, Y.2.1, y, Y.2.2.2) 160 (M0 ((160 : Nat) : Int))) H := by
  rw [cX_160]
  show va_at D classes (y 160, .inl (Y.2.1 20, 9, .inl fun _ => 0)) H
  rw [hy 160 _ (wa_160 Y qx u qm v)]
  exact hP 160 _ (wa_160 Y qx u qm v)
theorem st_161 (hP : va_P D classes (wA Y qx u qm v) H) (hy : ∀ k x, (wA Y qx u qm v)[k]? = some x → y k = x.1) : va_at D classes (y 161, cel (Y.1, Y.2.1, y, Y.2.2.2) 161 (M0 ((161 : Nat) : Int))) H := by
  rw [cX_161]
  show va_at D classes (y 161, .inr (6, [.int 0, .ref (y 162), .int 0, .ref (y 163), .int 0])) H
  rw [hy 161 _ (wa_161 Y qx u qm v)]
  rw [hy 162 _ (wa_162 Y qx u qm v)]
  rw [hy 163 _ (wa_163 Y qx u qm v)]
  exact hP 161 _ (wa_161 Y qx u qm v)
theorem st_162 (hP : va_P D classes (wA Y qx u qm v) H) (hy : ∀ k x, (wA Y qx u qm v)[k]? = some x → y k = x.1) : va_at D classes (y 162, cel (Y.1, Y.2.1, y, Y.2.2.2) 162 (M0 ((162 : Nat) : Int))) H := by
  rw [cX_162]
  show va_at D classes (y 162, .inl (Y.2.1 20, 6, .inl fun _ => 0)) H
  rw [hy 162 _ (wa_162 Y qx u qm v)]
  exact hP 162 _ (wa_162 Y qx u qm v)
theorem st_163 (hP : va_P D classes (wA Y qx u qm v) H) (hy : ∀ k x, (wA Y qx u qm v)[k]? = some x → y k = x.1) : va_at D classes (y 163, cel (Y.1, Y.2.1, y, Y.2.2.2) 163 (M0 ((163 : Nat) : Int))) H := by
  rw [cX_163]
  show va_at D classes (y 163, .inr (5, [.int 0, .ref (y 164), .ref (y 165), .ref (y 166)])) H
  rw [hy 163 _ (wa_163 Y qx u qm v)]
  rw [hy 164 _ (wa_164 Y qx u qm v)]
  rw [hy 165 _ (wa_165 Y qx u qm v)]
  rw [hy 166 _ (wa_166 Y qx u qm v)]
  exact hP 163 _ (wa_163 Y qx u qm v)
theorem st_164 (hP : va_P D classes (wA Y qx u qm v) H) (hy : ∀ k x, (wA Y qx u qm v)[k]? = some x → y k = x.1) : va_at D classes (y 164, cel (Y.1, Y.2.1, y, Y.2.2.2) 164 (M0 ((164 : Nat) : Int))) H := by
  rw [cX_164]
  show va_at D classes (y 164, .inl (Y.2.1 20, 9, .inl fun _ => 0)) H
  rw [hy 164 _ (wa_164 Y qx u qm v)]
  exact hP 164 _ (wa_164 Y qx u qm v)
theorem st_165 (hP : va_P D classes (wA Y qx u qm v) H) (hy : ∀ k x, (wA Y qx u qm v)[k]? = some x → y k = x.1) : va_at D classes (y 165, cel (Y.1, Y.2.1, y, Y.2.2.2) 165 (M0 ((165 : Nat) : Int))) H := by
  rw [cX_165]
  show va_at D classes (y 165, .inl (Y.2.1 20, 9, .inl fun _ => 0)) H
  rw [hy 165 _ (wa_165 Y qx u qm v)]
  exact hP 165 _ (wa_165 Y qx u qm v)
theorem st_166 (hP : va_P D classes (wA Y qx u qm v) H) (hy : ∀ k x, (wA Y qx u qm v)[k]? = some x → y k = x.1) : va_at D classes (y 166, cel (Y.1, Y.2.1, y, Y.2.2.2) 166 (M0 ((166 : Nat) : Int))) H := by
  rw [cX_166]
  show va_at D classes (y 166, .inl (Y.2.1 20, 9, .inl fun _ => 0)) H
  rw [hy 166 _ (wa_166 Y qx u qm v)]
  exact hP 166 _ (wa_166 Y qx u qm v)
theorem st_167 (hP : va_P D classes (wA Y qx u qm v) H) (hy : ∀ k x, (wA Y qx u qm v)[k]? = some x → y k = x.1) : va_at D classes (y 167, cel (Y.1, Y.2.1, y, Y.2.2.2) 167 (M0 ((167 : Nat) : Int))) H := by
  rw [cX_167]
  show va_at D classes (y 167, .inr (6, [.int 0, .ref (y 168), .int 0, .ref (y 169), .int 0])) H
  rw [hy 167 _ (wa_167 Y qx u qm v)]
  rw [hy 168 _ (wa_168 Y qx u qm v)]
  rw [hy 169 _ (wa_169 Y qx u qm v)]
  exact hP 167 _ (wa_167 Y qx u qm v)
theorem st_168 (hP : va_P D classes (wA Y qx u qm v) H) (hy : ∀ k x, (wA Y qx u qm v)[k]? = some x → y k = x.1) : va_at D classes (y 168, cel (Y.1, Y.2.1, y, Y.2.2.2) 168 (M0 ((168 : Nat) : Int))) H := by
  rw [cX_168]
  show va_at D classes (y 168, .inl (Y.2.1 20, 6, .inl fun _ => 0)) H
  rw [hy 168 _ (wa_168 Y qx u qm v)]
  exact hP 168 _ (wa_168 Y qx u qm v)
theorem st_169 (hP : va_P D classes (wA Y qx u qm v) H) (hy : ∀ k x, (wA Y qx u qm v)[k]? = some x → y k = x.1) : va_at D classes (y 169, cel (Y.1, Y.2.1, y, Y.2.2.2) 169 (M0 ((169 : Nat) : Int))) H := by
  rw [cX_169]
  show va_at D classes (y 169, .inr (5, [.int 0, .ref (y 170), .ref (y 171), .ref (y 172)])) H
  rw [hy 169 _ (wa_169 Y qx u qm v)]
  rw [hy 170 _ (wa_170 Y qx u qm v)]
  rw [hy 171 _ (wa_171 Y qx u qm v)]
  rw [hy 172 _ (wa_172 Y qx u qm v)]
  exact hP 169 _ (wa_169 Y qx u qm v)
theorem st_170 (hP : va_P D classes (wA Y qx u qm v) H) (hy : ∀ k x, (wA Y qx u qm v)[k]? = some x → y k = x.1) : va_at D classes (y 170, cel (Y.1, Y.2.1, y, Y.2.2.2) 170 (M0 ((170 : Nat) : Int))) H := by
  rw [cX_170]
  show va_at D classes (y 170, .inl (Y.2.1 20, 9, .inl fun _ => 0)) H
  rw [hy 170 _ (wa_170 Y qx u qm v)]
  exact hP 170 _ (wa_170 Y qx u qm v)
theorem st_171 (hP : va_P D classes (wA Y qx u qm v) H) (hy : ∀ k x, (wA Y qx u qm v)[k]? = some x → y k = x.1) : va_at D classes (y 171, cel (Y.1, Y.2.1, y, Y.2.2.2) 171 (M0 ((171 : Nat) : Int))) H := by
  rw [cX_171]
  show va_at D classes (y 171, .inl (Y.2.1 20, 9, .inl fun _ => 0)) H
  rw [hy 171 _ (wa_171 Y qx u qm v)]
  exact hP 171 _ (wa_171 Y qx u qm v)
theorem st_172 (hP : va_P D classes (wA Y qx u qm v) H) (hy : ∀ k x, (wA Y qx u qm v)[k]? = some x → y k = x.1) : va_at D classes (y 172, cel (Y.1, Y.2.1, y, Y.2.2.2) 172 (M0 ((172 : Nat) : Int))) H := by
  rw [cX_172]
  show va_at D classes (y 172, .inl (Y.2.1 20, 9, .inl fun _ => 0)) H
  rw [hy 172 _ (wa_172 Y qx u qm v)]
  exact hP 172 _ (wa_172 Y qx u qm v)
theorem st_173 (hP : va_P D classes (wA Y qx u qm v) H) (hy : ∀ k x, (wA Y qx u qm v)[k]? = some x → y k = x.1) : va_at D classes (y 173, cel (Y.1, Y.2.1, y, Y.2.2.2) 173 (M0 ((173 : Nat) : Int))) H := by
  rw [cX_173]
  show va_at D classes (y 173, .inr (6, [.int 0, .ref (y 174), .int 0, .ref (y 175), .int 0])) H
  rw [hy 173 _ (wa_173 Y qx u qm v)]
  rw [hy 174 _ (wa_174 Y qx u qm v)]
  rw [hy 175 _ (wa_175 Y qx u qm v)]
  exact hP 173 _ (wa_173 Y qx u qm v)
theorem st_174 (hP : va_P D classes (wA Y qx u qm v) H) (hy : ∀ k x, (wA Y qx u qm v)[k]? = some x → y k = x.1) : va_at D classes (y 174, cel (Y.1, Y.2.1, y, Y.2.2.2) 174 (M0 ((174 : Nat) : Int))) H := by
  rw [cX_174]
  show va_at D classes (y 174, .inl (Y.2.1 20, 6, .inl fun _ => 0)) H
  rw [hy 174 _ (wa_174 Y qx u qm v)]
  exact hP 174 _ (wa_174 Y qx u qm v)
theorem st_175 (hP : va_P D classes (wA Y qx u qm v) H) (hy : ∀ k x, (wA Y qx u qm v)[k]? = some x → y k = x.1) : va_at D classes (y 175, cel (Y.1, Y.2.1, y, Y.2.2.2) 175 (M0 ((175 : Nat) : Int))) H := by
  rw [cX_175]
  show va_at D classes (y 175, .inr (5, [.int 0, .ref (y 176), .ref (y 177), .ref (y 178)])) H
  rw [hy 175 _ (wa_175 Y qx u qm v)]
  rw [hy 176 _ (wa_176 Y qx u qm v)]
  rw [hy 177 _ (wa_177 Y qx u qm v)]
  rw [hy 178 _ (wa_178 Y qx u qm v)]
  exact hP 175 _ (wa_175 Y qx u qm v)
theorem st_176 (hP : va_P D classes (wA Y qx u qm v) H) (hy : ∀ k x, (wA Y qx u qm v)[k]? = some x → y k = x.1) : va_at D classes (y 176, cel (Y.1, Y.2.1, y, Y.2.2.2) 176 (M0 ((176 : Nat) : Int))) H := by
  rw [cX_176]
  show va_at D classes (y 176, .inl (Y.2.1 20, 9, .inl fun _ => 0)) H
  rw [hy 176 _ (wa_176 Y qx u qm v)]
  exact hP 176 _ (wa_176 Y qx u qm v)
theorem st_177 (hP : va_P D classes (wA Y qx u qm v) H) (hy : ∀ k x, (wA Y qx u qm v)[k]? = some x → y k = x.1) : va_at D classes (y 177, cel (Y.1, Y.2.1, y, Y.2.2.2) 177 (M0 ((177 : Nat) : Int))) H := by
  rw [cX_177]
  show va_at D classes (y 177, .inl (Y.2.1 20, 9, .inl fun _ => 0)) H
  rw [hy 177 _ (wa_177 Y qx u qm v)]
  exact hP 177 _ (wa_177 Y qx u qm v)
theorem st_178 (hP : va_P D classes (wA Y qx u qm v) H) (hy : ∀ k x, (wA Y qx u qm v)[k]? = some x → y k = x.1) : va_at D classes (y 178, cel (Y.1, Y.2.1, y, Y.2.2.2) 178 (M0 ((178 : Nat) : Int))) H := by
  rw [cX_178]
  show va_at D classes (y 178, .inl (Y.2.1 20, 9, .inl fun _ => 0)) H
  rw [hy 178 _ (wa_178 Y qx u qm v)]
  exact hP 178 _ (wa_178 Y qx u qm v)
theorem st_179 (hP : va_P D classes (wA Y qx u qm v) H) (hy : ∀ k x, (wA Y qx u qm v)[k]? = some x → y k = x.1) : va_at D classes (y 179, cel (Y.1, Y.2.1, y, Y.2.2.2) 179 (M0 ((179 : Nat) : Int))) H := by
  rw [cX_179]
  show va_at D classes (y 179, .inr (6, [.int 0, .ref (y 180), .int 0, .ref (y 181), .int 0])) H
  rw [hy 179 _ (wa_179 Y qx u qm v)]
  rw [hy 180 _ (wa_180 Y qx u qm v)]
  rw [hy 181 _ (wa_181 Y qx u qm v)]
  exact hP 179 _ (wa_179 Y qx u qm v)
theorem st_180 (hP : va_P D classes (wA Y qx u qm v) H) (hy : ∀ k x, (wA Y qx u qm v)[k]? = some x → y k = x.1) : va_at D classes (y 180, cel (Y.1, Y.2.1, y, Y.2.2.2) 180 (M0 ((180 : Nat) : Int))) H := by
  rw [cX_180]
  show va_at D classes (y 180, .inl (Y.2.1 20, 6, .inl fun _ => 0)) H
  rw [hy 180 _ (wa_180 Y qx u qm v)]
  exact hP 180 _ (wa_180 Y qx u qm v)
theorem st_181 (hP : va_P D classes (wA Y qx u qm v) H) (hy : ∀ k x, (wA Y qx u qm v)[k]? = some x → y k = x.1) : va_at D classes (y 181, cel (Y.1, Y.2.1, y, Y.2.2.2) 181 (M0 ((181 : Nat) : Int))) H := by
  rw [cX_181]
  show va_at D classes (y 181, .inr (5, [.int 0, .ref (y 182), .ref (y 183), .ref (y 184)])) H
  rw [hy 181 _ (wa_181 Y qx u qm v)]
  rw [hy 182 _ (wa_182 Y qx u qm v)]
  rw [hy 183 _ (wa_183 Y qx u qm v)]
  rw [hy 184 _ (wa_184 Y qx u qm v)]
  exact hP 181 _ (wa_181 Y qx u qm v)
theorem st_182 (hP : va_P D classes (wA Y qx u qm v) H) (hy : ∀ k x, (wA Y qx u qm v)[k]? = some x → y k = x.1) : va_at D classes (y 182, cel (Y.1, Y.2.1, y, Y.2.2.2) 182 (M0 ((182 : Nat) : Int))) H := by
  rw [cX_182]
  show va_at D classes (y 182, .inl (Y.2.1 20, 9, .inl fun _ => 0)) H
  rw [hy 182 _ (wa_182 Y qx u qm v)]
  exact hP 182 _ (wa_182 Y qx u qm v)
theorem st_183 (hP : va_P D classes (wA Y qx u qm v) H) (hy : ∀ k x, (wA Y qx u qm v)[k]? = some x → y k = x.1) : va_at D classes (y 183, cel (Y.1, Y.2.1, y, Y.2.2.2) 183 (M0 ((183 : Nat) : Int))) H := by
  rw [cX_183]
  show va_at D classes (y 183, .inl (Y.2.1 20, 9, .inl fun _ => 0)) H
  rw [hy 183 _ (wa_183 Y qx u qm v)]
  exact hP 183 _ (wa_183 Y qx u qm v)
theorem st_184 (hP : va_P D classes (wA Y qx u qm v) H) (hy : ∀ k x, (wA Y qx u qm v)[k]? = some x → y k = x.1) : va_at D classes (y 184, cel (Y.1, Y.2.1, y, Y.2.2.2) 184 (M0 ((184 : Nat) : Int))) H := by
  rw [cX_184]
  show va_at D classes (y 184, .inl (Y.2.1 20, 9, .inl fun _ => 0)) H
  rw [hy 184 _ (wa_184 Y qx u qm v)]
  exact hP 184 _ (wa_184 Y qx u qm v)
theorem st_185 (hP : va_P D classes (wA Y qx u qm v) H) (hy : ∀ k x, (wA Y qx u qm v)[k]? = some x → y k = x.1) : va_at D classes (y 185, cel (Y.1, Y.2.1, y, Y.2.2.2) 185 (M0 ((185 : Nat) : Int))) H := by
  rw [cX_185]
  show va_at D classes (y 185, .inr (4, [.ref (y 186), .int 0])) H
  rw [hy 185 _ (wa_185 Y qx u qm v)]
  rw [hy 186 _ (wa_186 Y qx u qm v)]
  exact hP 185 _ (wa_185 Y qx u qm v)
theorem st_186 (hP : va_P D classes (wA Y qx u qm v) H) (hy : ∀ k x, (wA Y qx u qm v)[k]? = some x → y k = x.1) : va_at D classes (y 186, cel (Y.1, Y.2.1, y, Y.2.2.2) 186 (M0 ((186 : Nat) : Int))) H := by
  rw [cX_186]
  show va_at D classes (y 186, .inl (Y.2.1 20, 40, .inl fun _ => 0)) H
  rw [hy 186 _ (wa_186 Y qx u qm v)]
  exact hP 186 _ (wa_186 Y qx u qm v)
theorem st_187 (hP : va_P D classes (wA Y qx u qm v) H) (hy : ∀ k x, (wA Y qx u qm v)[k]? = some x → y k = x.1) : va_at D classes (y 187, cel (Y.1, Y.2.1, y, Y.2.2.2) 187 (M0 ((187 : Nat) : Int))) H := by
  rw [cX_187]
  show va_at D classes (y 187, .inr (0, [.ref (y 188), .int 0, .ref (y 189), .ref (y 197), .int 0, .int 0, .int 0, .int 0])) H
  rw [hy 187 _ (wa_187 Y qx u qm v)]
  rw [hy 188 _ (wa_188 Y qx u qm v)]
  rw [hy 189 _ (wa_189 Y qx u qm v)]
  rw [hy 197 _ (wa_197 Y qx u qm v)]
  exact hP 187 _ (wa_187 Y qx u qm v)
theorem st_188 (hP : va_P D classes (wA Y qx u qm v) H) (hy : ∀ k x, (wA Y qx u qm v)[k]? = some x → y k = x.1) : va_at D classes (y 188, cel (Y.1, Y.2.1, y, Y.2.2.2) 188 (M0 ((188 : Nat) : Int))) H := by
  rw [cX_188]
  show va_at D classes (y 188, .inl (Y.2.1 20, 48, .inl fun _ => 0)) H
  rw [hy 188 _ (wa_188 Y qx u qm v)]
  exact hP 188 _ (wa_188 Y qx u qm v)
theorem st_189 (hP : va_P D classes (wA Y qx u qm v) H) (hy : ∀ k x, (wA Y qx u qm v)[k]? = some x → y k = x.1) : va_at D classes (y 189, cel (Y.1, Y.2.1, y, Y.2.2.2) 189 (M0 ((189 : Nat) : Int))) H := by
  have h := hP 189 _ (wa_189 Y qx u qm v)
  rw [ceg_ _ (n := 7) (by decide +kernel) (by decide +kernel), hy 189 _ (wa_189 Y qx u qm v)]
  refine at_same (fun j => va_rf (some (u.2.2.2.2.2.2.2.2.2.2.2.2.2.2.2.2.2.2.2.2.2.1.2.1 + 1 + j))) (fun j => va_rf (some (y (189 + 1 + j)))) rfl rfl (fun j hj => ?_) h
  have e : y (189 + 1 + j) = u.2.2.2.2.2.2.2.2.2.2.2.2.2.2.2.2.2.2.2.2.2.1.2.1 + 1 + j := by
    rcases (show j = 0 ∨ j = 1 ∨ j = 2 ∨ j = 3 ∨ j = 4 ∨ j = 5 ∨ j = 6 by omega) with rfl | rfl | rfl | rfl | rfl | rfl | rfl
    · exact hy 190 _ (wa_190 Y qx u qm v)
    · exact hy 191 _ (wa_191 Y qx u qm v)
    · exact hy 192 _ (wa_192 Y qx u qm v)
    · exact hy 193 _ (wa_193 Y qx u qm v)
    · exact hy 194 _ (wa_194 Y qx u qm v)
    · exact hy 195 _ (wa_195 Y qx u qm v)
    · exact hy 196 _ (wa_196 Y qx u qm v)
  rw [e]
theorem st_190 (hP : va_P D classes (wA Y qx u qm v) H) (hy : ∀ k x, (wA Y qx u qm v)[k]? = some x → y k = x.1) : va_at D classes (y 190, cel (Y.1, Y.2.1, y, Y.2.2.2) 190 (M0 ((190 : Nat) : Int))) H := by
  rw [cX_190]
  show va_at D classes (y 190, .inl (Y.2.1 20, 56, .inl fun _ => 0)) H
  rw [hy 190 _ (wa_190 Y qx u qm v)]
  exact hP 190 _ (wa_190 Y qx u qm v)
theorem st_191 (hP : va_P D classes (wA Y qx u qm v) H) (hy : ∀ k x, (wA Y qx u qm v)[k]? = some x → y k = x.1) : va_at D classes (y 191, cel (Y.1, Y.2.1, y, Y.2.2.2) 191 (M0 ((191 : Nat) : Int))) H := by
  rw [cX_191]
  show va_at D classes (y 191, .inl (Y.2.1 20, 56, .inl fun _ => 0)) H
  rw [hy 191 _ (wa_191 Y qx u qm v)]
  exact hP 191 _ (wa_191 Y qx u qm v)
theorem st_192 (hP : va_P D classes (wA Y qx u qm v) H) (hy : ∀ k x, (wA Y qx u qm v)[k]? = some x → y k = x.1) : va_at D classes (y 192, cel (Y.1, Y.2.1, y, Y.2.2.2) 192 (M0 ((192 : Nat) : Int))) H := by
  rw [cX_192]
  show va_at D classes (y 192, .inl (Y.2.1 20, 56, .inl fun _ => 0)) H
  rw [hy 192 _ (wa_192 Y qx u qm v)]
  exact hP 192 _ (wa_192 Y qx u qm v)
theorem st_193 (hP : va_P D classes (wA Y qx u qm v) H) (hy : ∀ k x, (wA Y qx u qm v)[k]? = some x → y k = x.1) : va_at D classes (y 193, cel (Y.1, Y.2.1, y, Y.2.2.2) 193 (M0 ((193 : Nat) : Int))) H := by
  rw [cX_193]
  show va_at D classes (y 193, .inl (Y.2.1 20, 56, .inl fun _ => 0)) H
  rw [hy 193 _ (wa_193 Y qx u qm v)]
  exact hP 193 _ (wa_193 Y qx u qm v)
theorem st_194 (hP : va_P D classes (wA Y qx u qm v) H) (hy : ∀ k x, (wA Y qx u qm v)[k]? = some x → y k = x.1) : va_at D classes (y 194, cel (Y.1, Y.2.1, y, Y.2.2.2) 194 (M0 ((194 : Nat) : Int))) H := by
  rw [cX_194]
  show va_at D classes (y 194, .inl (Y.2.1 20, 56, .inl fun _ => 0)) H
  rw [hy 194 _ (wa_194 Y qx u qm v)]
  exact hP 194 _ (wa_194 Y qx u qm v)
theorem st_195 (hP : va_P D classes (wA Y qx u qm v) H) (hy : ∀ k x, (wA Y qx u qm v)[k]? = some x → y k = x.1) : va_at D classes (y 195, cel (Y.1, Y.2.1, y, Y.2.2.2) 195 (M0 ((195 : Nat) : Int))) H := by
  rw [cX_195]
  show va_at D classes (y 195, .inl (Y.2.1 20, 56, .inl fun _ => 0)) H
  rw [hy 195 _ (wa_195 Y qx u qm v)]
  exact hP 195 _ (wa_195 Y qx u qm v)
theorem st_196 (hP : va_P D classes (wA Y qx u qm v) H) (hy : ∀ k x, (wA Y qx u qm v)[k]? = some x → y k = x.1) : va_at D classes (y 196, cel (Y.1, Y.2.1, y, Y.2.2.2) 196 (M0 ((196 : Nat) : Int))) H := by
  rw [cX_196]
  show va_at D classes (y 196, .inl (Y.2.1 20, 56, .inl fun _ => 0)) H
  rw [hy 196 _ (wa_196 Y qx u qm v)]
  exact hP 196 _ (wa_196 Y qx u qm v)
theorem st_197 (hP : va_P D classes (wA Y qx u qm v) H) (hy : ∀ k x, (wA Y qx u qm v)[k]? = some x → y k = x.1) : va_at D classes (y 197, cel (Y.1, Y.2.1, y, Y.2.2.2) 197 (M0 ((197 : Nat) : Int))) H := by
  rw [cX_197]
  show va_at D classes (y 197, .inl (Y.2.1 20, 7, .inl fun _ => 0)) H
  rw [hy 197 _ (wa_197 Y qx u qm v)]
  exact hP 197 _ (wa_197 Y qx u qm v)
theorem st_198 (hP : va_P D classes (wA Y qx u qm v) H) (hy : ∀ k x, (wA Y qx u qm v)[k]? = some x → y k = x.1) : va_at D classes (y 198, cel (Y.1, Y.2.1, y, Y.2.2.2) 198 (M0 ((198 : Nat) : Int))) H := by
  rw [cX_198]
  show va_at D classes (y 198, .inl (Y.2.1 20, 6, .inl fun _ => 0)) H
  rw [hy 198 _ (wa_198 Y qx u qm v)]
  exact hP 198 _ (wa_198 Y qx u qm v)
theorem st_199 (hP : va_P D classes (wA Y qx u qm v) H) (hy : ∀ k x, (wA Y qx u qm v)[k]? = some x → y k = x.1) : va_at D classes (y 199, cel (Y.1, Y.2.1, y, Y.2.2.2) 199 (M0 ((199 : Nat) : Int))) H := by
  rw [cX_199]
  show va_at D classes (y 199, .inr (12, .ref (y 200) :: vI (0) :: vI (0) :: vI (0) :: vI (0) :: vI (0) :: vI (0) :: vL (0) :: vI (0) :: vI (-1) :: vI (0) :: vI (-1) :: vI (-1) :: vI (0) :: .ref (y 201) :: .ref (y 202) :: .ref (y 203) :: .ref (y 204) :: .ref (y 205) :: .ref (y 206) :: .ref (y 207) :: .ref (y 208) :: .ref (y 209) :: .ref (y 210) :: .ref (y 211) :: .ref (y 212) :: .ref (y 213) :: .ref (y 214) :: .ref (y 215) :: .ref (y 216) :: .ref (y 217) :: .ref (y 218) :: .ref (y 219) :: vI (0) :: vI (1) :: vI (0) :: .ref (y 220) :: .ref (y 221) :: .ref (y 222) :: .ref (y 223) :: .ref (y 224) :: vI (0) :: vI (0) :: .ref (y 225) :: vI (0) :: vI (0) :: .ref (y 226) :: .ref (y 227) :: .ref (y 228) :: .ref (y 229) :: .ref (y 230) :: .ref (y 231) :: .ref (y 232) :: .ref (y 233) :: vI (0) :: vI (0) :: vL (1) :: .ref (y 234) :: .ref (y 235) :: .ref (y 236) :: vI (0) :: .ref (y 237) :: .ref (y 238) :: .ref (y 239) :: .ref (y 240) :: .ref (y 241) :: vI (0) :: [])) H
  rw [hy 199 _ (wa_199 Y qx u qm v)]
  rw [hy 200 _ (wa_200 Y qx u qm v)]
  rw [hy 201 _ (wa_201 Y qx u qm v)]
  rw [hy 202 _ (wa_202 Y qx u qm v)]
  rw [hy 203 _ (wa_203 Y qx u qm v)]
  rw [hy 204 _ (wa_204 Y qx u qm v)]
  rw [hy 205 _ (wa_205 Y qx u qm v)]
  rw [hy 206 _ (wa_206 Y qx u qm v)]
  rw [hy 207 _ (wa_207 Y qx u qm v)]
  rw [hy 208 _ (wa_208 Y qx u qm v)]
  rw [hy 209 _ (wa_209 Y qx u qm v)]
  rw [hy 210 _ (wa_210 Y qx u qm v)]
  rw [hy 211 _ (wa_211 Y qx u qm v)]
  rw [hy 212 _ (wa_212 Y qx u qm v)]
  rw [hy 213 _ (wa_213 Y qx u qm v)]
  rw [hy 214 _ (wa_214 Y qx u qm v)]
  rw [hy 215 _ (wa_215 Y qx u qm v)]
  rw [hy 216 _ (wa_216 Y qx u qm v)]
  rw [hy 217 _ (wa_217 Y qx u qm v)]
  rw [hy 218 _ (wa_218 Y qx u qm v)]
  rw [hy 219 _ (wa_219 Y qx u qm v)]
  rw [hy 220 _ (wa_220 Y qx u qm v)]
  rw [hy 221 _ (wa_221 Y qx u qm v)]
  rw [hy 222 _ (wa_222 Y qx u qm v)]
  rw [hy 223 _ (wa_223 Y qx u qm v)]
  rw [hy 224 _ (wa_224 Y qx u qm v)]
  rw [hy 225 _ (wa_225 Y qx u qm v)]
  rw [hy 226 _ (wa_226 Y qx u qm v)]
  rw [hy 227 _ (wa_227 Y qx u qm v)]
  rw [hy 228 _ (wa_228 Y qx u qm v)]
  rw [hy 229 _ (wa_229 Y qx u qm v)]
  rw [hy 230 _ (wa_230 Y qx u qm v)]
  rw [hy 231 _ (wa_231 Y qx u qm v)]
  rw [hy 232 _ (wa_232 Y qx u qm v)]
  rw [hy 233 _ (wa_233 Y qx u qm v)]
  rw [hy 234 _ (wa_234 Y qx u qm v)]
  rw [hy 235 _ (wa_235 Y qx u qm v)]
  rw [hy 236 _ (wa_236 Y qx u qm v)]
  rw [hy 237 _ (wa_237 Y qx u qm v)]
  rw [hy 238 _ (wa_238 Y qx u qm v)]
  rw [hy 239 _ (wa_239 Y qx u qm v)]
  rw [hy 240 _ (wa_240 Y qx u qm v)]
  rw [hy 241 _ (wa_241 Y qx u qm v)]
  exact hP 199 _ (wa_199 Y qx u qm v)
theorem st_200 (hP : va_P D classes (wA Y qx u qm v) H) (hy : ∀ k x, (wA Y qx u qm v)[k]? = some x → y k = x.1) : va_at D classes (y 200, cel (Y.1, Y.2.1, y, Y.2.2.2) 200 (M0 ((200 : Nat) : Int))) H := by
  rw [cX_200]
  show va_at D classes (y 200, .inl (Y.2.1 20, 1800, .inl fun _ => 0)) H
  rw [hy 200 _ (wa_200 Y qx u qm v)]
  exact hP 200 _ (wa_200 Y qx u qm v)
theorem st_201 (hP : va_P D classes (wA Y qx u qm v) H) (hy : ∀ k x, (wA Y qx u qm v)[k]? = some x → y k = x.1) : va_at D classes (y 201, cel (Y.1, Y.2.1, y, Y.2.2.2) 201 (M0 ((201 : Nat) : Int))) H := by
  rw [cX_201]
  show va_at D classes (y 201, .inl (Y.2.1 20, 2, .inl fun _ => 0)) H
  rw [hy 201 _ (wa_201 Y qx u qm v)]
  exact hP 201 _ (wa_201 Y qx u qm v)
theorem st_202 (hP : va_P D classes (wA Y qx u qm v) H) (hy : ∀ k x, (wA Y qx u qm v)[k]? = some x → y k = x.1) : va_at D classes (y 202, cel (Y.1, Y.2.1, y, Y.2.2.2) 202 (M0 ((202 : Nat) : Int))) H := by
  rw [cX_202]
  show va_at D classes (y 202, .inl (Y.2.1 20, 2, .inl fun _ => 0)) H
  rw [hy 202 _ (wa_202 Y qx u qm v)]
  exact hP 202 _ (wa_202 Y qx u qm v)
theorem st_203 (hP : va_P D classes (wA Y qx u qm v) H) (hy : ∀ k x, (wA Y qx u qm v)[k]? = some x → y k = x.1) : va_at D classes (y 203, cel (Y.1, Y.2.1, y, Y.2.2.2) 203 (M0 ((203 : Nat) : Int))) H := by
  rw [cX_203]
  show va_at D classes (y 203, .inl (Y.2.1 20, 98, .inl fun _ => 0)) H
  rw [hy 203 _ (wa_203 Y qx u qm v)]
  exact hP 203 _ (wa_203 Y qx u qm v)
theorem st_204 (hP : va_P D classes (wA Y qx u qm v) H) (hy : ∀ k x, (wA Y qx u qm v)[k]? = some x → y k = x.1) : va_at D classes (y 204, cel (Y.1, Y.2.1, y, Y.2.2.2) 204 (M0 ((204 : Nat) : Int))) H := by
  rw [cX_204]
  show va_at D classes (y 204, .inl (Y.2.1 20, 98, .inl fun _ => 0)) H
  rw [hy 204 _ (wa_204 Y qx u qm v)]
  exact hP 204 _ (wa_204 Y qx u qm v)
theorem st_205 (hP : va_P D classes (wA Y qx u qm v) H) (hy : ∀ k x, (wA Y qx u qm v)[k]? = some x → y k = x.1) : va_at D classes (y 205, cel (Y.1, Y.2.1, y, Y.2.2.2) 205 (M0 ((205 : Nat) : Int))) H := by
  rw [cX_205]
  show va_at D classes (y 205, .inl (Y.2.1 20, 2, .inl fun _ => 0)) H
  rw [hy 205 _ (wa_205 Y qx u qm v)]
  exact hP 205 _ (wa_205 Y qx u qm v)
theorem st_206 (hP : va_P D classes (wA Y qx u qm v) H) (hy : ∀ k x, (wA Y qx u qm v)[k]? = some x → y k = x.1) : va_at D classes (y 206, cel (Y.1, Y.2.1, y, Y.2.2.2) 206 (M0 ((206 : Nat) : Int))) H := by
  rw [cX_206]
  show va_at D classes (y 206, .inl (Y.2.1 20, 12, .inl fun _ => 0)) H
  rw [hy 206 _ (wa_206 Y qx u qm v)]
  exact hP 206 _ (wa_206 Y qx u qm v)
theorem st_207 (hP : va_P D classes (wA Y qx u qm v) H) (hy : ∀ k x, (wA Y qx u qm v)[k]? = some x → y k = x.1) : va_at D classes (y 207, cel (Y.1, Y.2.1, y, Y.2.2.2) 207 (M0 ((207 : Nat) : Int))) H := by
  rw [cX_207]
  show va_at D classes (y 207, .inl (Y.2.1 20, 12, .inl fun _ => 0)) H
  rw [hy 207 _ (wa_207 Y qx u qm v)]
  exact hP 207 _ (wa_207 Y qx u qm v)
theorem st_208 (hP : va_P D classes (wA Y qx u qm v) H) (hy : ∀ k x, (wA Y qx u qm v)[k]? = some x → y k = x.1) : va_at D classes (y 208, cel (Y.1, Y.2.1, y, Y.2.2.2) 208 (M0 ((208 : Nat) : Int))) H := by
  rw [cX_208]
  show va_at D classes (y 208, .inl (Y.2.1 20, 2, .inl fun _ => 0)) H
  rw [hy 208 _ (wa_208 Y qx u qm v)]
  exact hP 208 _ (wa_208 Y qx u qm v)
theorem st_209 (hP : va_P D classes (wA Y qx u qm v) H) (hy : ∀ k x, (wA Y qx u qm v)[k]? = some x → y k = x.1) : va_at D classes (y 209, cel (Y.1, Y.2.1, y, Y.2.2.2) 209 (M0 ((209 : Nat) : Int))) H := by
  rw [cX_209]
  show va_at D classes (y 209, .inl (Y.2.1 20, 2, .inl fun _ => 0)) H
  rw [hy 209 _ (wa_209 Y qx u qm v)]
  exact hP 209 _ (wa_209 Y qx u qm v)
theorem st_210 (hP : va_P D classes (wA Y qx u qm v) H) (hy : ∀ k x, (wA Y qx u qm v)[k]? = some x → y k = x.1) : va_at D classes (y 210, cel (Y.1, Y.2.1, y, Y.2.2.2) 210 (M0 ((210 : Nat) : Int))) H := by
  rw [cX_210]
  show va_at D classes (y 210, .inl (Y.2.1 20, 16, .inl fun _ => 0)) H
  rw [hy 210 _ (wa_210 Y qx u qm v)]
  exact hP 210 _ (wa_210 Y qx u qm v)
theorem st_211 (hP : va_P D classes (wA Y qx u qm v) H) (hy : ∀ k x, (wA Y qx u qm v)[k]? = some x → y k = x.1) : va_at D classes (y 211, cel (Y.1, Y.2.1, y, Y.2.2.2) 211 (M0 ((211 : Nat) : Int))) H := by
  rw [cX_211]
  show va_at D classes (y 211, .inl (Y.2.1 20, 16, .inl fun _ => 0)) H
  rw [hy 211 _ (wa_211 Y qx u qm v)]
  exact hP 211 _ (wa_211 Y qx u qm v)
theorem st_212 (hP : va_P D classes (wA Y qx u qm v) H) (hy : ∀ k x, (wA Y qx u qm v)[k]? = some x → y k = x.1) : va_at D classes (y 212, cel (Y.1, Y.2.1, y, Y.2.2.2) 212 (M0 ((212 : Nat) : Int))) H := by
  rw [cX_212]
  show va_at D classes (y 212, .inl (Y.2.1 20, 16, .inl fun _ => 0)) H
  rw [hy 212 _ (wa_212 Y qx u qm v)]
  exact hP 212 _ (wa_212 Y qx u qm v)
theorem st_213 (hP : va_P D classes (wA Y qx u qm v) H) (hy : ∀ k x, (wA Y qx u qm v)[k]? = some x → y k = x.1) : va_at D classes (y 213, cel (Y.1, Y.2.1, y, Y.2.2.2) 213 (M0 ((213 : Nat) : Int))) H := by
  rw [cX_213]
  show va_at D classes (y 213, .inl (Y.2.1 20, 2, .inl fun _ => 0)) H
  rw [hy 213 _ (wa_213 Y qx u qm v)]
  exact hP 213 _ (wa_213 Y qx u qm v)
theorem st_214 (hP : va_P D classes (wA Y qx u qm v) H) (hy : ∀ k x, (wA Y qx u qm v)[k]? = some x → y k = x.1) : va_at D classes (y 214, cel (Y.1, Y.2.1, y, Y.2.2.2) 214 (M0 ((214 : Nat) : Int))) H := by
  have h := hP 214 _ (wa_214 Y qx u qm v)
  rw [cei_ _ (M0 ((214 : Nat) : Int)) (c := 20) (n := 4) (by decide +kernel) (by decide +kernel) (by decide), hy 214 _ (wa_214 Y qx u qm v)]
  refine at_same (fun j => .int (sf4 j)) (fun j => .int (iI (M0 ((214 : Nat) : Int) j))) rfl rfl (fun j hj => ?_) h
  rcases (show j = 0 ∨ j = 1 ∨ j = 2 ∨ j = 3 by omega) with rfl | rfl | rfl | rfl <;> decide +kernel
theorem st_215 (hP : va_P D classes (wA Y qx u qm v) H) (hy : ∀ k x, (wA Y qx u qm v)[k]? = some x → y k = x.1) : va_at D classes (y 215, cel (Y.1, Y.2.1, y, Y.2.2.2) 215 (M0 ((215 : Nat) : Int))) H := by
  rw [cX_215]
  show va_at D classes (y 215, .inl (Y.2.1 20, 4, .inl fun _ => 0)) H
  rw [hy 215 _ (wa_215 Y qx u qm v)]
  exact hP 215 _ (wa_215 Y qx u qm v)
theorem st_216 (hP : va_P D classes (wA Y qx u qm v) H) (hy : ∀ k x, (wA Y qx u qm v)[k]? = some x → y k = x.1) : va_at D classes (y 216, cel (Y.1, Y.2.1, y, Y.2.2.2) 216 (M0 ((216 : Nat) : Int))) H := by
  rw [cX_216]
  show va_at D classes (y 216, .inl (Y.2.1 20, 3200, .inl fun _ => 0)) H
  rw [hy 216 _ (wa_216 Y qx u qm v)]
  exact hP 216 _ (wa_216 Y qx u qm v)
theorem st_217 (hP : va_P D classes (wA Y qx u qm v) H) (hy : ∀ k x, (wA Y qx u qm v)[k]? = some x → y k = x.1) : va_at D classes (y 217, cel (Y.1, Y.2.1, y, Y.2.2.2) 217 (M0 ((217 : Nat) : Int))) H := by
  rw [cX_217]
  show va_at D classes (y 217, .inl (Y.2.1 20, 3200, .inl fun _ => 0)) H
  rw [hy 217 _ (wa_217 Y qx u qm v)]
  exact hP 217 _ (wa_217 Y qx u qm v)
theorem st_218 (hP : va_P D classes (wA Y qx u qm v) H) (hy : ∀ k x, (wA Y qx u qm v)[k]? = some x → y k = x.1) : va_at D classes (y 218, cel (Y.1, Y.2.1, y, Y.2.2.2) 218 (M0 ((218 : Nat) : Int))) H := by
  rw [cX_218]
  show va_at D classes (y 218, .inl (Y.2.1 21, 14, .inr (.inl fun _ => 0))) H
  rw [hy 218 _ (wa_218 Y qx u qm v)]
  exact hP 218 _ (wa_218 Y qx u qm v)
theorem st_219 (hP : va_P D classes (wA Y qx u qm v) H) (hy : ∀ k x, (wA Y qx u qm v)[k]? = some x → y k = x.1) : va_at D classes (y 219, cel (Y.1, Y.2.1, y, Y.2.2.2) 219 (M0 ((219 : Nat) : Int))) H := by
  rw [cX_219]
  show va_at D classes (y 219, .inl (Y.2.1 21, 12, .inr (.inl fun _ => 0))) H
  rw [hy 219 _ (wa_219 Y qx u qm v)]
  exact hP 219 _ (wa_219 Y qx u qm v)
theorem st_220 (hP : va_P D classes (wA Y qx u qm v) H) (hy : ∀ k x, (wA Y qx u qm v)[k]? = some x → y k = x.1) : va_at D classes (y 220, cel (Y.1, Y.2.1, y, Y.2.2.2) 220 (M0 ((220 : Nat) : Int))) H := by
  rw [cX_220]
  show va_at D classes (y 220, .inl (Y.2.1 20, 20, .inl fun _ => 0)) H
  rw [hy 220 _ (wa_220 Y qx u qm v)]
  exact hP 220 _ (wa_220 Y qx u qm v)
theorem st_221 (hP : va_P D classes (wA Y qx u qm v) H) (hy : ∀ k x, (wA Y qx u qm v)[k]? = some x → y k = x.1) : va_at D classes (y 221, cel (Y.1, Y.2.1, y, Y.2.2.2) 221 (M0 ((221 : Nat) : Int))) H := by
  rw [cX_221]
  show va_at D classes (y 221, .inl (Y.2.1 20, 20, .inl fun _ => 0)) H
  rw [hy 221 _ (wa_221 Y qx u qm v)]
  exact hP 221 _ (wa_221 Y qx u qm v)
theorem st_222 (hP : va_P D classes (wA Y qx u qm v) H) (hy : ∀ k x, (wA Y qx u qm v)[k]? = some x → y k = x.1) : va_at D classes (y 222, cel (Y.1, Y.2.1, y, Y.2.2.2) 222 (M0 ((222 : Nat) : Int))) H := by
  rw [cX_222]
  show va_at D classes (y 222, .inl (Y.2.1 22, 20, .inl fun _ => 0)) H
  rw [hy 222 _ (wa_222 Y qx u qm v)]
  exact hP 222 _ (wa_222 Y qx u qm v)
theorem st_223 (hP : va_P D classes (wA Y qx u qm v) H) (hy : ∀ k x, (wA Y qx u qm v)[k]? = some x → y k = x.1) : va_at D classes (y 223, cel (Y.1, Y.2.1, y, Y.2.2.2) 223 (M0 ((223 : Nat) : Int))) H := by
  rw [cX_223]
  show va_at D classes (y 223, .inl (Y.2.1 20, 20, .inl fun _ => 0)) H
  rw [hy 223 _ (wa_223 Y qx u qm v)]
  exact hP 223 _ (wa_223 Y qx u qm v)
theorem st_224 (hP : va_P D classes (wA Y qx u qm v) H) (hy : ∀ k x, (wA Y qx u qm v)[k]? = some x → y k = x.1) : va_at D classes (y 224, cel (Y.1, Y.2.1, y, Y.2.2.2) 224 (M0 ((224 : Nat) : Int))) H := by
  rw [cX_224]
  show va_at D classes (y 224, .inl (Y.2.1 20, 20, .inl fun _ => 0)) H
  rw [hy 224 _ (wa_224 Y qx u qm v)]
  exact hP 224 _ (wa_224 Y qx u qm v)
theorem st_225 (hP : va_P D classes (wA Y qx u qm v) H) (hy : ∀ k x, (wA Y qx u qm v)[k]? = some x → y k = x.1) : va_at D classes (y 225, cel (Y.1, Y.2.1, y, Y.2.2.2) 225 (M0 ((225 : Nat) : Int))) H := by
  rw [cX_225]
  show va_at D classes (y 225, .inl (Y.2.1 20, 500, .inl fun _ => 0)) H
  rw [hy 225 _ (wa_225 Y qx u qm v)]
  exact hP 225 _ (wa_225 Y qx u qm v)
theorem st_226 (hP : va_P D classes (wA Y qx u qm v) H) (hy : ∀ k x, (wA Y qx u qm v)[k]? = some x → y k = x.1) : va_at D classes (y 226, cel (Y.1, Y.2.1, y, Y.2.2.2) 226 (M0 ((226 : Nat) : Int))) H := by
  rw [cX_226]
  show va_at D classes (y 226, .inl (Y.2.1 20, 6, .inl fun _ => 0)) H
  rw [hy 226 _ (wa_226 Y qx u qm v)]
  exact hP 226 _ (wa_226 Y qx u qm v)
theorem st_227 (hP : va_P D classes (wA Y qx u qm v) H) (hy : ∀ k x, (wA Y qx u qm v)[k]? = some x → y k = x.1) : va_at D classes (y 227, cel (Y.1, Y.2.1, y, Y.2.2.2) 227 (M0 ((227 : Nat) : Int))) H := by
  rw [cX_227]
  show va_at D classes (y 227, .inl (Y.2.1 20, 22, .inl fun _ => 0)) H
  rw [hy 227 _ (wa_227 Y qx u qm v)]
  exact hP 227 _ (wa_227 Y qx u qm v)
theorem st_228 (hP : va_P D classes (wA Y qx u qm v) H) (hy : ∀ k x, (wA Y qx u qm v)[k]? = some x → y k = x.1) : va_at D classes (y 228, cel (Y.1, Y.2.1, y, Y.2.2.2) 228 (M0 ((228 : Nat) : Int))) H := by
  rw [cX_228]
  show va_at D classes (y 228, .inl (Y.2.1 20, 132, .inl fun _ => 0)) H
  rw [hy 228 _ (wa_228 Y qx u qm v)]
  exact hP 228 _ (wa_228 Y qx u qm v)
theorem st_229 (hP : va_P D classes (wA Y qx u qm v) H) (hy : ∀ k x, (wA Y qx u qm v)[k]? = some x → y k = x.1) : va_at D classes (y 229, cel (Y.1, Y.2.1, y, Y.2.2.2) 229 (M0 ((229 : Nat) : Int))) H := by
  rw [cX_229]
  show va_at D classes (y 229, .inl (Y.2.1 20, 22, .inl fun _ => 0)) H
  rw [hy 229 _ (wa_229 Y qx u qm v)]
  exact hP 229 _ (wa_229 Y qx u qm v)
theorem st_230 (hP : va_P D classes (wA Y qx u qm v) H) (hy : ∀ k x, (wA Y qx u qm v)[k]? = some x → y k = x.1) : va_at D classes (y 230, cel (Y.1, Y.2.1, y, Y.2.2.2) 230 (M0 ((230 : Nat) : Int))) H := by
  rw [cX_230]
  show va_at D classes (y 230, .inl (Y.2.1 20, 22, .inl fun _ => 0)) H
  rw [hy 230 _ (wa_230 Y qx u qm v)]
  exact hP 230 _ (wa_230 Y qx u qm v)
theorem st_231 (hP : va_P D classes (wA Y qx u qm v) H) (hy : ∀ k x, (wA Y qx u qm v)[k]? = some x → y k = x.1) : va_at D classes (y 231, cel (Y.1, Y.2.1, y, Y.2.2.2) 231 (M0 ((231 : Nat) : Int))) H := by
  rw [cX_231]
  show va_at D classes (y 231, .inl (Y.2.1 20, 594, .inl fun _ => 0)) H
  rw [hy 231 _ (wa_231 Y qx u qm v)]
  exact hP 231 _ (wa_231 Y qx u qm v)
theorem st_232 (hP : va_P D classes (wA Y qx u qm v) H) (hy : ∀ k x, (wA Y qx u qm v)[k]? = some x → y k = x.1) : va_at D classes (y 232, cel (Y.1, Y.2.1, y, Y.2.2.2) 232 (M0 ((232 : Nat) : Int))) H := by
  rw [cX_232]
  show va_at D classes (y 232, .inl (Y.2.1 20, 22, .inl fun _ => 0)) H
  rw [hy 232 _ (wa_232 Y qx u qm v)]
  exact hP 232 _ (wa_232 Y qx u qm v)
theorem st_233 (hP : va_P D classes (wA Y qx u qm v) H) (hy : ∀ k x, (wA Y qx u qm v)[k]? = some x → y k = x.1) : va_at D classes (y 233, cel (Y.1, Y.2.1, y, Y.2.2.2) 233 (M0 ((233 : Nat) : Int))) H := by
  rw [cX_233]
  show va_at D classes (y 233, .inl (Y.2.1 20, 2640, .inl fun _ => 0)) H
  rw [hy 233 _ (wa_233 Y qx u qm v)]
  exact hP 233 _ (wa_233 Y qx u qm v)
theorem st_234 (hP : va_P D classes (wA Y qx u qm v) H) (hy : ∀ k x, (wA Y qx u qm v)[k]? = some x → y k = x.1) : va_at D classes (y 234, cel (Y.1, Y.2.1, y, Y.2.2.2) 234 (M0 ((234 : Nat) : Int))) H := by
  rw [cX_234]
  show va_at D classes (y 234, .inl (Y.2.1 21, 500, .inr (.inl fun _ => 0))) H
  rw [hy 234 _ (wa_234 Y qx u qm v)]
  exact hP 234 _ (wa_234 Y qx u qm v)
theorem st_235 (hP : va_P D classes (wA Y qx u qm v) H) (hy : ∀ k x, (wA Y qx u qm v)[k]? = some x → y k = x.1) : va_at D classes (y 235, cel (Y.1, Y.2.1, y, Y.2.2.2) 235 (M0 ((235 : Nat) : Int))) H := by
  rw [cX_235]
  show va_at D classes (y 235, .inl (Y.2.1 20, 12, .inl fun _ => 0)) H
  rw [hy 235 _ (wa_235 Y qx u qm v)]
  exact hP 235 _ (wa_235 Y qx u qm v)
theorem st_236 (hP : va_P D classes (wA Y qx u qm v) H) (hy : ∀ k x, (wA Y qx u qm v)[k]? = some x → y k = x.1) : va_at D classes (y 236, cel (Y.1, Y.2.1, y, Y.2.2.2) 236 (M0 ((236 : Nat) : Int))) H := by
  rw [cX_236]
  show va_at D classes (y 236, .inl (Y.2.1 20, 54, .inl fun _ => 0)) H
  rw [hy 236 _ (wa_236 Y qx u qm v)]
  exact hP 236 _ (wa_236 Y qx u qm v)
theorem st_237 (hP : va_P D classes (wA Y qx u qm v) H) (hy : ∀ k x, (wA Y qx u qm v)[k]? = some x → y k = x.1) : va_at D classes (y 237, cel (Y.1, Y.2.1, y, Y.2.2.2) 237 (M0 ((237 : Nat) : Int))) H := by
  rw [cX_237]
  show va_at D classes (y 237, .inl (Y.2.1 20, 16, .inl fun _ => 0)) H
  rw [hy 237 _ (wa_237 Y qx u qm v)]
  exact hP 237 _ (wa_237 Y qx u qm v)
theorem st_238 (hP : va_P D classes (wA Y qx u qm v) H) (hy : ∀ k x, (wA Y qx u qm v)[k]? = some x → y k = x.1) : va_at D classes (y 238, cel (Y.1, Y.2.1, y, Y.2.2.2) 238 (M0 ((238 : Nat) : Int))) H := by
  rw [cX_238]
  show va_at D classes (y 238, .inl (Y.2.1 20, 16, .inl fun _ => 0)) H
  rw [hy 238 _ (wa_238 Y qx u qm v)]
  exact hP 238 _ (wa_238 Y qx u qm v)
theorem st_239 (hP : va_P D classes (wA Y qx u qm v) H) (hy : ∀ k x, (wA Y qx u qm v)[k]? = some x → y k = x.1) : va_at D classes (y 239, cel (Y.1, Y.2.1, y, Y.2.2.2) 239 (M0 ((239 : Nat) : Int))) H := by
  rw [cX_239]
  show va_at D classes (y 239, .inl (Y.2.1 20, 16, .inl fun _ => 0)) H
  rw [hy 239 _ (wa_239 Y qx u qm v)]
  exact hP 239 _ (wa_239 Y qx u qm v)
theorem st_240 (hP : va_P D classes (wA Y qx u qm v) H) (hy : ∀ k x, (wA Y qx u qm v)[k]? = some x → y k = x.1) : va_at D classes (y 240, cel (Y.1, Y.2.1, y, Y.2.2.2) 240 (M0 ((240 : Nat) : Int))) H := by
  rw [cX_240]
  show va_at D classes (y 240, .inl (Y.2.1 20, 441, .inl fun _ => 0)) H
  rw [hy 240 _ (wa_240 Y qx u qm v)]
  exact hP 240 _ (wa_240 Y qx u qm v)
theorem st_241 (hP : va_P D classes (wA Y qx u qm v) H) (hy : ∀ k x, (wA Y qx u qm v)[k]? = some x → y k = x.1) : va_at D classes (y 241, cel (Y.1, Y.2.1, y, Y.2.2.2) 241 (M0 ((241 : Nat) : Int))) H := by
  rw [cX_241]
  show va_at D classes (y 241, .inl (Y.2.1 20, 60, .inl fun _ => 0)) H
  rw [hy 241 _ (wa_241 Y qx u qm v)]
  exact hP 241 _ (wa_241 Y qx u qm v)
theorem sc_0 (hP : va_P D classes (wA Y qx u qm v) H) (hy : ∀ k x, (wA Y qx u qm v)[k]? = some x → y k = x.1) {a : Nat} (h1 : 0 ≤ a) (h2 : a < 11) : va_at D classes (y a, cel (Y.1, Y.2.1, y, Y.2.2.2) a (M0 (a : Int))) H := by
  rcases (show a = 0 ∨ a = 1 ∨ a = 2 ∨ a = 3 ∨ a = 4 ∨ a = 5 ∨ a = 6 ∨ a = 7 ∨ a = 8 ∨ a = 9 ∨ a = 10 by omega) with rfl | rfl | rfl | rfl | rfl | rfl | rfl | rfl | rfl | rfl | rfl
  · exact st_0 hP hy
  · exact st_1 hP hy
  · exact st_2 hP hy
  · exact st_3 hP hy
  · exact st_4 hP hy
  · exact st_5 hP hy
  · exact st_6 hP hy
  · exact st_7 hP hy
  · exact st_8 hP hy
  · exact st_9 hP hy
  · exact st_10 hP hy
theorem sc_11 (hP : va_P D classes (wA Y qx u qm v) H) (hy : ∀ k x, (wA Y qx u qm v)[k]? = some x → y k = x.1) {a : Nat} (h1 : 11 ≤ a) (h2 : a < 22) : va_at D classes (y a, cel (Y.1, Y.2.1, y, Y.2.2.2) a (M0 (a : Int))) H := by
  rcases (show a = 11 ∨ a = 12 ∨ a = 13 ∨ a = 14 ∨ a = 15 ∨ a = 16 ∨ a = 17 ∨ a = 18 ∨ a = 19 ∨ a = 20 ∨ a = 21 by omega) with rfl | rfl | rfl | rfl | rfl | rfl | rfl | rfl | rfl | rfl | rfl
  · exact st_11 hP hy
  · exact st_12 hP hy
  · exact st_13 hP hy
  · exact st_14 hP hy
  · exact st_15 hP hy
  · exact st_16 hP hy
  · exact st_17 hP hy
  · exact st_18 hP hy
  · exact st_19 hP hy
  · exact st_20 hP hy
  · exact st_21 hP hy
theorem sc_22 (hP : va_P D classes (wA Y qx u qm v) H) (hy : ∀ k x, (wA Y qx u qm v)[k]? = some x → y k = x.1) {a : Nat} (h1 : 22 ≤ a) (h2 : a < 33) : va_at D classes (y a, cel (Y.1, Y.2.1, y, Y.2.2.2) a (M0 (a : Int))) H := by
  rcases (show a = 22 ∨ a = 23 ∨ a = 24 ∨ a = 25 ∨ a = 26 ∨ a = 27 ∨ a = 28 ∨ a = 29 ∨ a = 30 ∨ a = 31 ∨ a = 32 by omega) with rfl | rfl | rfl | rfl | rfl | rfl | rfl | rfl | rfl | rfl | rfl
  · exact st_22 hP hy
  · exact st_23 hP hy
  · exact st_24 hP hy
  · exact st_25 hP hy
  · exact st_26 hP hy
  · exact st_27 hP hy
  · exact st_28 hP hy
  · exact st_29 hP hy
  · exact st_30 hP hy
  · exact st_31 hP hy
  · exact st_32 hP hy
theorem sc_33 (hP : va_P D classes (wA Y qx u qm v) H) (hy : ∀ k x, (wA Y qx u qm v)[k]? = some x → y k = x.1) {a : Nat} (h1 : 33 ≤ a) (h2 : a < 44) : va_at D classes (y a, cel (Y.1, Y.2.1, y, Y.2.2.2) a (M0 (a : Int))) H := by
  rcases (show a = 33 ∨ a = 34 ∨ a = 35 ∨ a = 36 ∨ a = 37 ∨ a = 38 ∨ a = 39 ∨ a = 40 ∨ a = 41 ∨ a = 42 ∨ a = 43 by omega) with rfl | rfl | rfl | rfl | rfl | rfl | rfl | rfl | rfl | rfl | rfl
  · exact st_33 hP hy
  · exact st_34 hP hy
  · exact st_35 hP hy
  · exact st_36 hP hy
  · exact st_37 hP hy
  · exact st_38 hP hy
  · exact st_39 hP hy
  · exact st_40 hP hy
  · exact st_41 hP hy
  · exact st_42 hP hy
  · exact st_43 hP hy
theorem sc_44 (hP : va_P D classes (wA Y qx u qm v) H) (hy : ∀ k x, (wA Y qx u qm v)[k]? = some x → y k = x.1) {a : Nat} (h1 : 44 ≤ a) (h2 : a < 55) : va_at D classes (y a, cel (Y.1, Y.2.1, y, Y.2.2.2) a (M0 (a : Int))) H := by
  rcases (show a = 44 ∨ a = 45 ∨ a = 46 ∨ a = 47 ∨ a = 48 ∨ a = 49 ∨ a = 50 ∨ a = 51 ∨ a = 52 ∨ a = 53 ∨ a = 54 by omega) with rfl | rfl | rfl | rfl | rfl | rfl | rfl | rfl | rfl | rfl | rfl
  · exact st_44 hP hy
  · exact st_45 hP hy
  · exact st_46 hP hy
  · exact st_47 hP hy
  · exact st_48 hP hy
  · exact st_49 hP hy
  · exact st_50 hP hy
  · exact st_51 hP hy
  · exact st_52 hP hy
  · exact st_53 hP hy
  · exact st_54 hP hy
theorem sc_55 (hP : va_P D classes (wA Y qx u qm v) H) (hy : ∀ k x, (wA Y qx u qm v)[k]? = some x → y k = x.1) {a : Nat} (h1 : 55 ≤ a) (h2 : a < 66) : va_at D classes (y a, cel (Y.1, Y.2.1, y, Y.2.2.2) a (M0 (a : Int))) H := by
  rcases (show a = 55 ∨ a = 56 ∨ a = 57 ∨ a = 58 ∨ a = 59 ∨ a = 60 ∨ a = 61 ∨ a = 62 ∨ a = 63 ∨ a = 64 ∨ a = 65 by omega) with rfl | rfl | rfl | rfl | rfl | rfl | rfl | rfl | rfl | rfl | rfl
  · exact st_55 hP hy
  · exact st_56 hP hy
  · exact st_57 hP hy
  · exact st_58 hP hy
  · exact st_59 hP hy
  · exact st_60 hP hy
  · exact st_61 hP hy
  · exact st_62 hP hy
  · exact st_63 hP hy
  · exact st_64 hP hy
  · exact st_65 hP hy
theorem sc_66 (hP : va_P D classes (wA Y qx u qm v) H) (hy : ∀ k x, (wA Y qx u qm v)[k]? = some x → y k = x.1) {a : Nat} (h1 : 66 ≤ a) (h2 : a < 77) : va_at D classes (y a, cel (Y.1, Y.2.1, y, Y.2.2.2) a (M0 (a : Int))) H := by
  rcases (show a = 66 ∨ a = 67 ∨ a = 68 ∨ a = 69 ∨ a = 70 ∨ a = 71 ∨ a = 72 ∨ a = 73 ∨ a = 74 ∨ a = 75 ∨ a = 76 by omega) with rfl | rfl | rfl | rfl | rfl | rfl | rfl | rfl | rfl | rfl | rfl
  · exact st_66 hP hy
  · exact st_67 hP hy
  · exact st_68 hP hy
  · exact st_69 hP hy
  · exact st_70 hP hy
  · exact st_71 hP hy
  · exact st_72 hP hy
  · exact st_73 hP hy
  · exact st_74 hP hy
  · exact st_75 hP hy
  · exact st_76 hP hy
theorem sc_77 (hP : va_P D classes (wA Y qx u qm v) H) (hy : ∀ k x, (wA Y qx u qm v)[k]? = some x → y k = x.1) {a : Nat} (h1 : 77 ≤ a) (h2 : a < 88) : va_at D classes (y a, cel (Y.1, Y.2.1, y, Y.2.2.2) a (M0 (a : Int))) H := by
  rcases (show a = 77 ∨ a = 78 ∨ a = 79 ∨ a = 80 ∨ a = 81 ∨ a = 82 ∨ a = 83 ∨ a = 84 ∨ a = 85 ∨ a = 86 ∨ a = 87 by omega) with rfl | rfl | rfl | rfl | rfl | rfl | rfl | rfl | rfl | rfl | rfl
  · exact st_77 hP hy
  · exact st_78 hP hy
  · exact st_79 hP hy
  · exact st_80 hP hy
  · exact st_81 hP hy
  · exact st_82 hP hy
  · exact st_83 hP hy
  · exact st_84 hP hy
  · exact st_85 hP hy
  · exact st_86 hP hy
  · exact st_87 hP hy
theorem sc_88 (hP : va_P D classes (wA Y qx u qm v) H) (hy : ∀ k x, (wA Y qx u qm v)[k]? = some x → y k = x.1) {a : Nat} (h1 : 88 ≤ a) (h2 : a < 99) : va_at D classes (y a, cel (Y.1, Y.2.1, y, Y.2.2.2) a (M0 (a : Int))) H := by
  rcases (show a = 88 ∨ a = 89 ∨ a = 90 ∨ a = 91 ∨ a = 92 ∨ a = 93 ∨ a = 94 ∨ a = 95 ∨ a = 96 ∨ a = 97 ∨ a = 98 by omega) with rfl | rfl | rfl | rfl | rfl | rfl | rfl | rfl | rfl | rfl | rfl
  · exact st_88 hP hy
  · exact st_89 hP hy
  · exact st_90 hP hy
  · exact st_91 hP hy
  · exact st_92 hP hy
  · exact st_93 hP hy
  · exact st_94 hP hy
  · exact st_95 hP hy
  · exact st_96 hP hy
  · exact st_97 hP hy
  · exact st_98 hP hy
theorem sc_99 (hP : va_P D classes (wA Y qx u qm v) H) (hy : ∀ k x, (wA Y qx u qm v)[k]? = some x → y k = x.1) {a : Nat} (h1 : 99 ≤ a) (h2 : a < 110) : va_at D classes (y a, cel (Y.1, Y.2.1, y, Y.2.2.2) a (M0 (a : Int))) H := by
  rcases (show a = 99 ∨ a = 100 ∨ a = 101 ∨ a = 102 ∨ a = 103 ∨ a = 104 ∨ a = 105 ∨ a = 106 ∨ a = 107 ∨ a = 108 ∨ a = 109 by omega) with rfl | rfl | rfl | rfl | rfl | rfl | rfl | rfl | rfl | rfl | rfl
  · exact st_99 hP hy
  · exact st_100 hP hy
  · exact st_101 hP hy
  · exact st_102 hP hy
  · exact st_103 hP hy
  · exact st_104 hP hy
  · exact st_105 hP hy
  · exact st_106 hP hy
  · exact st_107 hP hy
  · exact st_108 hP hy
  · exact st_109 hP hy
theorem sc_110 (hP : va_P D classes (wA Y qx u qm v) H) (hy : ∀ k x, (wA Y qx u qm v)[k]? = some x → y k = x.1) {a : Nat} (h1 : 110 ≤ a) (h2 : a < 121) : va_at D classes (y a, cel (Y.1, Y.2.1, y, Y.2.2.2) a (M0 (a : Int))) H := by
  rcases (show a = 110 ∨ a = 111 ∨ a = 112 ∨ a = 113 ∨ a = 114 ∨ a = 115 ∨ a = 116 ∨ a = 117 ∨ a = 118 ∨ a = 119 ∨ a = 120 by omega) with rfl | rfl | rfl | rfl | rfl | rfl | rfl | rfl | rfl | rfl | rfl
  · exact st_110 hP hy
  · exact st_111 hP hy
  · exact st_112 hP hy
  · exact st_113 hP hy
  · exact st_114 hP hy
  · exact st_115 hP hy
  · exact st_116 hP hy
  · exact st_117 hP hy
  · exact st_118 hP hy
  · exact st_119 hP hy
  · exact st_120 hP hy
theorem sc_121 (hP : va_P D classes (wA Y qx u qm v) H) (hy : ∀ k x, (wA Y qx u qm v)[k]? = some x → y k = x.1) {a : Nat} (h1 : 121 ≤ a) (h2 : a < 132) : va_at D classes (y a, cel (Y.1, Y.2.1, y, Y.2.2.2) a (M0 (a : Int))) H := by
  rcases (show a = 121 ∨ a = 122 ∨ a = 123 ∨ a = 124 ∨ a = 125 ∨ a = 126 ∨ a = 127 ∨ a = 128 ∨ a = 129 ∨ a = 130 ∨ a = 131 by omega) with rfl | rfl | rfl | rfl | rfl | rfl | rfl | rfl | rfl | rfl | rfl
  · exact st_121 hP hy
  · exact st_122 hP hy
  · exact st_123 hP hy
  · exact st_124 hP hy
  · exact st_125 hP hy
  · exact st_126 hP hy
  · exact st_127 hP hy
  · exact st_128 hP hy
  · exact st_129 hP hy
  · exact st_130 hP hy
  · exact st_131 hP hy
theorem sc_132 (hP : va_P D classes (wA Y qx u qm v) H) (hy : ∀ k x, (wA Y qx u qm v)[k]? = some x → y k = x.1) {a : Nat} (h1 : 132 ≤ a) (h2 : a < 143) : va_at D classes (y a, cel (Y.1, Y.2.1, y, Y.2.2.2) a (M0 (a : Int))) H := by
  rcases (show a = 132 ∨ a = 133 ∨ a = 134 ∨ a = 135 ∨ a = 136 ∨ a = 137 ∨ a = 138 ∨ a = 139 ∨ a = 140 ∨ a = 141 ∨ a = 142 by omega) with rfl | rfl | rfl | rfl | rfl | rfl | rfl | rfl | rfl | rfl | rfl
  · exact st_132 hP hy
  · exact st_133 hP hy
  · exact st_134 hP hy
  · exact st_135 hP hy
  · exact st_136 hP hy
  · exact st_137 hP hy
  · exact st_138 hP hy
  · exact st_139 hP hy
  · exact st_140 hP hy
  · exact st_141 hP hy
  · exact st_142 hP hy
theorem sc_143 (hP : va_P D classes (wA Y qx u qm v) H) (hy : ∀ k x, (wA Y qx u qm v)[k]? = some x → y k = x.1) {a : Nat} (h1 : 143 ≤ a) (h2 : a < 154) : va_at D classes (y a, cel (Y.1, Y.2.1, y, Y.2.2.2) a (M0 (a : Int))) H := by
  rcases (show a = 143 ∨ a = 144 ∨ a = 145 ∨ a = 146 ∨ a = 147 ∨ a = 148 ∨ a = 149 ∨ a = 150 ∨ a = 151 ∨ a = 152 ∨ a = 153 by omega) with rfl | rfl | rfl | rfl | rfl | rfl | rfl | rfl | rfl | rfl | rfl
  · exact st_143 hP hy
  · exact st_144 hP hy
  · exact st_145 hP hy
  · exact st_146 hP hy
  · exact st_147 hP hy
  · exact st_148 hP hy
  · exact st_149 hP hy
  · exact st_150 hP hy
  · exact st_151 hP hy
  · exact st_152 hP hy
  · exact st_153 hP hy
theorem sc_154 (hP : va_P D classes (wA Y qx u qm v) H) (hy : ∀ k x, (wA Y qx u qm v)[k]? = some x → y k = x.1) {a : Nat} (h1 : 154 ≤ a) (h2 : a < 165) : va_at D classes (y a, cel (Y.1, Y.2.1, y, Y.2.2.2) a (M0 (a : Int))) H := by
  rcases (show a = 154 ∨ a = 155 ∨ a = 156 ∨ a = 157 ∨ a = 158 ∨ a = 159 ∨ a = 160 ∨ a = 161 ∨ a = 162 ∨ a = 163 ∨ a = 164 by omega) with rfl | rfl | rfl | rfl | rfl | rfl | rfl | rfl | rfl | rfl | rfl
  · exact st_154 hP hy
  · exact st_155 hP hy
  · exact st_156 hP hy
  · exact st_157 hP hy
  · exact st_158 hP hy
  · exact st_159 hP hy
  · exact st_160 hP hy
  · exact st_161 hP hy
  · exact st_162 hP hy
  · exact st_163 hP hy
  · exact st_164 hP hy
theorem sc_165 (hP : va_P D classes (wA Y qx u qm v) H) (hy : ∀ k x, (wA Y qx u qm v)[k]? = some x → y k = x.1) {a : Nat} (h1 : 165 ≤ a) (h2 : a < 176) : va_at D classes (y a, cel (Y.1, Y.2.1, y, Y.2.2.2) a (M0 (a : Int))) H := by
  rcases (show a = 165 ∨ a = 166 ∨ a = 167 ∨ a = 168 ∨ a = 169 ∨ a = 170 ∨ a = 171 ∨ a = 172 ∨ a = 173 ∨ a = 174 ∨ a = 175 by omega) with rfl | rfl | rfl | rfl | rfl | rfl | rfl | rfl | rfl | rfl | rfl
  · exact st_165 hP hy
  · exact st_166 hP hy
  · exact st_167 hP hy
  · exact st_168 hP hy
  · exact st_169 hP hy
  · exact st_170 hP hy
  · exact st_171 hP hy
  · exact st_172 hP hy
  · exact st_173 hP hy
  · exact st_174 hP hy
  · exact st_175 hP hy
theorem sc_176 (hP : va_P D classes (wA Y qx u qm v) H) (hy : ∀ k x, (wA Y qx u qm v)[k]? = some x → y k = x.1) {a : Nat} (h1 : 176 ≤ a) (h2 : a < 187) : va_at D classes (y a, cel (Y.1, Y.2.1, y, Y.2.2.2) a (M0 (a : Int))) H := by
  rcases (show a = 176 ∨ a = 177 ∨ a = 178 ∨ a = 179 ∨ a = 180 ∨ a = 181 ∨ a = 182 ∨ a = 183 ∨ a = 184 ∨ a = 185 ∨ a = 186 by omega) with rfl | rfl | rfl | rfl | rfl | rfl | rfl | rfl | rfl | rfl | rfl
  · exact st_176 hP hy
  · exact st_177 hP hy
  · exact st_178 hP hy
  · exact st_179 hP hy
  · exact st_180 hP hy
  · exact st_181 hP hy
  · exact st_182 hP hy
  · exact st_183 hP hy
  · exact st_184 hP hy
  · exact st_185 hP hy
  · exact st_186 hP hy
theorem sc_187 (hP : va_P D classes (wA Y qx u qm v) H) (hy : ∀ k x, (wA Y qx u qm v)[k]? = some x → y k = x.1) {a : Nat} (h1 : 187 ≤ a) (h2 : a < 198) : va_at D classes (y a, cel (Y.1, Y.2.1, y, Y.2.2.2) a (M0 (a : Int))) H := by
  rcases (show a = 187 ∨ a = 188 ∨ a = 189 ∨ a = 190 ∨ a = 191 ∨ a = 192 ∨ a = 193 ∨ a = 194 ∨ a = 195 ∨ a = 196 ∨ a = 197 by omega) with rfl | rfl | rfl | rfl | rfl | rfl | rfl | rfl | rfl | rfl | rfl
  · exact st_187 hP hy
  · exact st_188 hP hy
  · exact st_189 hP hy
  · exact st_190 hP hy
  · exact st_191 hP hy
  · exact st_192 hP hy
  · exact st_193 hP hy
  · exact st_194 hP hy
  · exact st_195 hP hy
  · exact st_196 hP hy
  · exact st_197 hP hy
theorem sc_198 (hP : va_P D classes (wA Y qx u qm v) H) (hy : ∀ k x, (wA Y qx u qm v)[k]? = some x → y k = x.1) {a : Nat} (h1 : 198 ≤ a) (h2 : a < 209) : va_at D classes (y a, cel (Y.1, Y.2.1, y, Y.2.2.2) a (M0 (a : Int))) H := by
  rcases (show a = 198 ∨ a = 199 ∨ a = 200 ∨ a = 201 ∨ a = 202 ∨ a = 203 ∨ a = 204 ∨ a = 205 ∨ a = 206 ∨ a = 207 ∨ a = 208 by omega) with rfl | rfl | rfl | rfl | rfl | rfl | rfl | rfl | rfl | rfl | rfl
  · exact st_198 hP hy
  · exact st_199 hP hy
  · exact st_200 hP hy
  · exact st_201 hP hy
  · exact st_202 hP hy
  · exact st_203 hP hy
  · exact st_204 hP hy
  · exact st_205 hP hy
  · exact st_206 hP hy
  · exact st_207 hP hy
  · exact st_208 hP hy
theorem sc_209 (hP : va_P D classes (wA Y qx u qm v) H) (hy : ∀ k x, (wA Y qx u qm v)[k]? = some x → y k = x.1) {a : Nat} (h1 : 209 ≤ a) (h2 : a < 220) : va_at D classes (y a, cel (Y.1, Y.2.1, y, Y.2.2.2) a (M0 (a : Int))) H := by
  rcases (show a = 209 ∨ a = 210 ∨ a = 211 ∨ a = 212 ∨ a = 213 ∨ a = 214 ∨ a = 215 ∨ a = 216 ∨ a = 217 ∨ a = 218 ∨ a = 219 by omega) with rfl | rfl | rfl | rfl | rfl | rfl | rfl | rfl | rfl | rfl | rfl
  · exact st_209 hP hy
  · exact st_210 hP hy
  · exact st_211 hP hy
  · exact st_212 hP hy
  · exact st_213 hP hy
  · exact st_214 hP hy
  · exact st_215 hP hy
  · exact st_216 hP hy
  · exact st_217 hP hy
  · exact st_218 hP hy
  · exact st_219 hP hy
theorem sc_220 (hP : va_P D classes (wA Y qx u qm v) H) (hy : ∀ k x, (wA Y qx u qm v)[k]? = some x → y k = x.1) {a : Nat} (h1 : 220 ≤ a) (h2 : a < 231) : va_at D classes (y a, cel (Y.1, Y.2.1, y, Y.2.2.2) a (M0 (a : Int))) H := by
  rcases (show a = 220 ∨ a = 221 ∨ a = 222 ∨ a = 223 ∨ a = 224 ∨ a = 225 ∨ a = 226 ∨ a = 227 ∨ a = 228 ∨ a = 229 ∨ a = 230 by omega) with rfl | rfl | rfl | rfl | rfl | rfl | rfl | rfl | rfl | rfl | rfl
  · exact st_220 hP hy
  · exact st_221 hP hy
  · exact st_222 hP hy
  · exact st_223 hP hy
  · exact st_224 hP hy
  · exact st_225 hP hy
  · exact st_226 hP hy
  · exact st_227 hP hy
  · exact st_228 hP hy
  · exact st_229 hP hy
  · exact st_230 hP hy
theorem sc_231 (hP : va_P D classes (wA Y qx u qm v) H) (hy : ∀ k x, (wA Y qx u qm v)[k]? = some x → y k = x.1) {a : Nat} (h1 : 231 ≤ a) (h2 : a < 242) : va_at D classes (y a, cel (Y.1, Y.2.1, y, Y.2.2.2) a (M0 (a : Int))) H := by
  rcases (show a = 231 ∨ a = 232 ∨ a = 233 ∨ a = 234 ∨ a = 235 ∨ a = 236 ∨ a = 237 ∨ a = 238 ∨ a = 239 ∨ a = 240 ∨ a = 241 by omega) with rfl | rfl | rfl | rfl | rfl | rfl | rfl | rfl | rfl | rfl | rfl
  · exact st_231 hP hy
  · exact st_232 hP hy
  · exact st_233 hP hy
  · exact st_234 hP hy
  · exact st_235 hP hy
  · exact st_236 hP hy
  · exact st_237 hP hy
  · exact st_238 hP hy
  · exact st_239 hP hy
  · exact st_240 hP hy
  · exact st_241 hP hy
theorem st_all (hP : va_P D classes (wA Y qx u qm v) H) (hy : ∀ k x, (wA Y qx u qm v)[k]? = some x → y k = x.1) {a : Nat} (h : a < 242) : va_at D classes (y a, cel (Y.1, Y.2.1, y, Y.2.2.2) a (M0 (a : Int))) H := by
  rcases Nat.lt_or_ge a 11 with h0 | h0
  · exact sc_0 hP hy (by omega) h0
  rcases Nat.lt_or_ge a 22 with h11 | h11
  · exact sc_11 hP hy (by omega) h11
  rcases Nat.lt_or_ge a 33 with h22 | h22
  · exact sc_22 hP hy (by omega) h22
  rcases Nat.lt_or_ge a 44 with h33 | h33
  · exact sc_33 hP hy (by omega) h33
  rcases Nat.lt_or_ge a 55 with h44 | h44
  · exact sc_44 hP hy (by omega) h44
  rcases Nat.lt_or_ge a 66 with h55 | h55
  · exact sc_55 hP hy (by omega) h55
  rcases Nat.lt_or_ge a 77 with h66 | h66
  · exact sc_66 hP hy (by omega) h66
  rcases Nat.lt_or_ge a 88 with h77 | h77
  · exact sc_77 hP hy (by omega) h77
  rcases Nat.lt_or_ge a 99 with h88 | h88
  · exact sc_88 hP hy (by omega) h88
  rcases Nat.lt_or_ge a 110 with h99 | h99
  · exact sc_99 hP hy (by omega) h99
  rcases Nat.lt_or_ge a 121 with h110 | h110
  · exact sc_110 hP hy (by omega) h110
  rcases Nat.lt_or_ge a 132 with h121 | h121
  · exact sc_121 hP hy (by omega) h121
  rcases Nat.lt_or_ge a 143 with h132 | h132
  · exact sc_132 hP hy (by omega) h132
  rcases Nat.lt_or_ge a 154 with h143 | h143
  · exact sc_143 hP hy (by omega) h143
  rcases Nat.lt_or_ge a 165 with h154 | h154
  · exact sc_154 hP hy (by omega) h154
  rcases Nat.lt_or_ge a 176 with h165 | h165
  · exact sc_165 hP hy (by omega) h165
  rcases Nat.lt_or_ge a 187 with h176 | h176
  · exact sc_176 hP hy (by omega) h176
  rcases Nat.lt_or_ge a 198 with h187 | h187
  · exact sc_187 hP hy (by omega) h187
  rcases Nat.lt_or_ge a 209 with h198 | h198
  · exact sc_198 hP hy (by omega) h198
  rcases Nat.lt_or_ge a 220 with h209 | h209
  · exact sc_209 hP hy (by omega) h209
  rcases Nat.lt_or_ge a 231 with h220 | h220
  · exact sc_220 hP hy (by omega) h220
  exact sc_231 hP hy (by omega) h
theorem wA_len (Y : YT) (qx : Nat) (u : SX11_) (qm : Nat) (v : Nat → Nat) {k : Nat} (h : k < 242) : ∃ x, (wA Y qx u qm v)[k]? = some x := by
  cases hk : (wA Y qx u qm v)[k]? with
  | some x => exact ⟨x, rfl⟩
  | none =>
    have h1 := List.getElem?_eq_none_iff.mp hk
    have h2 := (List.getElem?_eq_some_iff.mp (wa_241 Y qx u qm v)).1
    omega
theorem st_P (hP : va_P D classes (wA Y qx u qm v) H) (hy : ∀ k x, (wA Y qx u qm v)[k]? = some x → y k = x.1) : va_P D classes (wsM (Y.1, Y.2.1, y, Y.2.2.2) M0) H := by
  intro k q hk
  have hl : k < 242 := ws_lt hk
  rw [ws_get hl] at hk
  have e := Option.some.inj hk
  rw [← e]
  exact st_all hP hy hl
theorem st_Y (hD : va_D Y.2.2.2 (wA Y qx u qm v)) (hy : ∀ k x, (wA Y qx u qm v)[k]? = some x → y k = x.1) : YOK (Y.1, Y.2.1, y, Y.2.2.2) := by
  refine ⟨fun i j hi hj e => ?_, fun i hi => ?_⟩
  · obtain ⟨a, ha⟩ := wA_len Y qx u qm v (k := i) hi
    obtain ⟨b, hb⟩ := wA_len Y qx u qm v (k := j) hj
    have h1 : y i = y j := e
    rw [hy i a ha, hy j b hb] at h1
    exact hD.1 i j a b ha hb h1
  · obtain ⟨a, ha⟩ := wA_len Y qx u qm v (k := i) hi
    show Y.2.2.2 (y i)
    rw [hy i a ha]
    exact hD.2 i a ha
theorem st_y (Y : YT) (qx : Nat) (u : SX11_) (qm : Nat) (v : Nat → Nat) : ∃ y : Nat → Nat, ∀ k x, (wA Y qx u qm v)[k]? = some x → y k = x.1 := ⟨fun k => ((wA Y qx u qm v)[k]?.map (fun x => x.1)).getD 0, fun k x h => by show ((wA Y qx u qm v)[k]?.map (fun x => x.1)).getD 0 = _; rw [h]; rfl⟩
end ST
