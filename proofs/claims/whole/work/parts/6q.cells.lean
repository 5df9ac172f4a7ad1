/-! the cells behind both constructors are those of M0 -/
theorem vI_z : vI 0 = .int 0 := by decide +kernel
theorem iI_z : iI 0 = 0 := by decide +kernel
theorem iL_z : iL 0 = 0 := by decide +kernel
theorem cel_o (Y : YT) {a c : Nat} (m : Int → Int) (h : kdN a = c) (hc : c < 20) : cel Y a m = .inr (c, fv Y m a 0 (ft c)) := by
  subst h
  unfold cel
  rw [if_pos hc]
theorem cei_ (Y : YT) {a c n : Nat} (m : Int → Int) (h : kdN a = c) (hl : lnN a = n) (hc : c = 20 ∨ c = 22) : cel Y a m = .inl (Y.2.1 c, n, .inl fun j => iI (m j)) := by
  subst h
  subst hl
  unfold cel
  rw [if_neg (by omega), if_neg (by omega), if_neg (by omega), if_neg (by omega)]
theorem cel_iz (Y : YT) {a c n : Nat} {m : Int → Int} (h : kdN a = c) (hl : lnN a = n) (hc : c = 20 ∨ c = 22) (hm : ∀ k, m k = 0) : cel Y a m = .inl (Y.2.1 c, n, .inl fun _ => 0) := by
  rw [cei_ Y m h hl hc]
  have e : (fun j : Nat => iI (m j)) = fun _ => 0 := funext fun j => by rw [hm, iI_z]
  rw [e]
theorem cel_lz (Y : YT) {a n : Nat} {m : Int → Int} (h : kdN a = 21) (hl : lnN a = n) (hm : ∀ k, m k = 0) : cel Y a m = .inl (Y.2.1 21, n, .inr (.inl fun _ => 0)) := by
  subst hl
  unfold cel
  rw [h, if_neg (by decide), if_pos rfl]
  have e : (fun j : Nat => iL (m j)) = fun _ => 0 := funext fun j => by rw [hm, iL_z]
  rw [e]
theorem arrV_ext {c : ClassId} {N : Nat} {f g : Nat → Value} (h : ∀ j, j < N → f j = g j) : arrV c N f = arrV c N g := by
  unfold arrV
  congr 1
  congr 1
  funext j
  exact h j.val j.isLt
theorem fvc_0 (Y : YT) (m : Int → Int) (n : Nat) : fv Y m n 0 (ft 0) = [.ref (Y.2.2.1 (n + 1)), vI (m 1), .ref (Y.2.2.1 (n + 2)), .ref (Y.2.2.1 (n + 10)), vI (m 4), vI (m 5), vI (m 6), vI (m 7)] := by
  have e1 : ((n : Int) + 1).toNat = n + 1 := by omega
  have e2 : ((n : Int) + 2).toNat = n + 2 := by omega
  have e10 : ((n : Int) + 10).toNat = n + 10 := by omega
  show [.ref (Y.2.2.1 ((n : Int) + 1).toNat), vI (m (0 + 1)), .ref (Y.2.2.1 ((n : Int) + 2).toNat), .ref (Y.2.2.1 ((n : Int) + 10).toNat), vI (m (0 + 1 + 1 + 1 + 1)), vI (m (0 + 1 + 1 + 1 + 1 + 1)), vI (m (0 + 1 + 1 + 1 + 1 + 1 + 1)), vI (m (0 + 1 + 1 + 1 + 1 + 1 + 1 + 1))] = _
  rw [e1, e2, e10]
  try rfl
theorem fvz_0 (Y : YT) {m : Int → Int} (n : Nat) (hm : ∀ k, m k = 0) : fv Y m n 0 (ft 0) = [.ref (Y.2.2.1 (n + 1)), .int 0, .ref (Y.2.2.1 (n + 2)), .ref (Y.2.2.1 (n + 10)), .int 0, .int 0, .int 0, .int 0] := by
  rw [fvc_0]
  simp only [hm, vI_z]
theorem fvc_1 (Y : YT) (m : Int → Int) (n : Nat) : fv Y m n 0 (ft 1) = [.ref (Y.2.2.1 (n + 1)), .ref (Y.2.2.1 (n + 2)), vI (m 2)] := by
  have e1 : ((n : Int) + 1).toNat = n + 1 := by omega
  have e2 : ((n : Int) + 2).toNat = n + 2 := by omega
  show [.ref (Y.2.2.1 ((n : Int) + 1).toNat), .ref (Y.2.2.1 ((n : Int) + 2).toNat), vI (m (0 + 1 + 1))] = _
  rw [e1, e2]
  try rfl
theorem fvz_1 (Y : YT) {m : Int → Int} (n : Nat) (hm : ∀ k, m k = 0) : fv Y m n 0 (ft 1) = [.ref (Y.2.2.1 (n + 1)), .ref (Y.2.2.1 (n + 2)), .int 0] := by
  rw [fvc_1]
  simp only [hm, vI_z]
theorem fvc_3 (Y : YT) (m : Int → Int) (n : Nat) : fv Y m n 0 (ft 3) = [.ref (Y.2.2.1 (n + 1)), vI (m 1), vI (m 2), .ref (Y.2.2.1 (n + 2))] := by
  have e1 : ((n : Int) + 1).toNat = n + 1 := by omega
  have e2 : ((n : Int) + 2).toNat = n + 2 := by omega
  show [.ref (Y.2.2.1 ((n : Int) + 1).toNat), vI (m (0 + 1)), vI (m (0 + 1 + 1)), .ref (Y.2.2.1 ((n : Int) + 2).toNat)] = _
  rw [e1, e2]
  try rfl
theorem fvz_3 (Y : YT) {m : Int → Int} (n : Nat) (hm : ∀ k, m k = 0) : fv Y m n 0 (ft 3) = [.ref (Y.2.2.1 (n + 1)), .int 0, .int 0, .ref (Y.2.2.1 (n + 2))] := by
  rw [fvc_3]
  simp only [hm, vI_z]
theorem fvc_4 (Y : YT) (m : Int → Int) (n : Nat) : fv Y m n 0 (ft 4) = [.ref (Y.2.2.1 (n + 1)), vI (m 1)] := by
  have e1 : ((n : Int) + 1).toNat = n + 1 := by omega
  show [.ref (Y.2.2.1 ((n : Int) + 1).toNat), vI (m (0 + 1))] = _
  rw [e1]
  try rfl
theorem fvz_4 (Y : YT) {m : Int → Int} (n : Nat) (hm : ∀ k, m k = 0) : fv Y m n 0 (ft 4) = [.ref (Y.2.2.1 (n + 1)), .int 0] := by
  rw [fvc_4]
  simp only [hm, vI_z]
theorem fvc_5 (Y : YT) (m : Int → Int) (n : Nat) : fv Y m n 0 (ft 5) = [vI (m 0), .ref (Y.2.2.1 (n + 1)), .ref (Y.2.2.1 (n + 2)), .ref (Y.2.2.1 (n + 3))] := by
  have e1 : ((n : Int) + 1).toNat = n + 1 := by omega
  have e2 : ((n : Int) + 2).toNat = n + 2 := by omega
  have e3 : ((n : Int) + 3).toNat = n + 3 := by omega
  show [vI (m (0)), .ref (Y.2.2.1 ((n : Int) + 1).toNat), .ref (Y.2.2.1 ((n : Int) + 2).toNat), .ref (Y.2.2.1 ((n : Int) + 3).toNat)] = _
  rw [e1, e2, e3]
  try rfl
theorem fvz_5 (Y : YT) {m : Int → Int} (n : Nat) (hm : ∀ k, m k = 0) : fv Y m n 0 (ft 5) = [.int 0, .ref (Y.2.2.1 (n + 1)), .ref (Y.2.2.1 (n + 2)), .ref (Y.2.2.1 (n + 3))] := by
  rw [fvc_5]
  simp only [hm, vI_z]
theorem fvc_6 (Y : YT) (m : Int → Int) (n : Nat) : fv Y m n 0 (ft 6) = [vI (m 0), .ref (Y.2.2.1 (n + 1)), vI (m 2), .ref (Y.2.2.1 (n + 2)), vI (m 4)] := by
  have e1 : ((n : Int) + 1).toNat = n + 1 := by omega
  have e2 : ((n : Int) + 2).toNat = n + 2 := by omega
  show [vI (m (0)), .ref (Y.2.2.1 ((n : Int) + 1).toNat), vI (m (0 + 1 + 1)), .ref (Y.2.2.1 ((n : Int) + 2).toNat), vI (m (0 + 1 + 1 + 1 + 1))] = _
  rw [e1, e2]
  try rfl
theorem fvz_6 (Y : YT) {m : Int → Int} (n : Nat) (hm : ∀ k, m k = 0) : fv Y m n 0 (ft 6) = [.int 0, .ref (Y.2.2.1 (n + 1)), .int 0, .ref (Y.2.2.1 (n + 2)), .int 0] := by
  rw [fvc_6]
  simp only [hm, vI_z]
theorem fvc_7 (Y : YT) (m : Int → Int) (n : Nat) : fv Y m n 0 (ft 7) = [.ref (Y.2.2.1 (n + 1)), vI (m 1), vI (m 2), vI (m 3), vI (m 4), vI (m 5), vI (m 6), vI (m 7), .ref (Y.2.2.1 (n + 2)), vI (m 9), vI (m 10)] := by
  have e1 : ((n : Int) + 1).toNat = n + 1 := by omega
  have e2 : ((n : Int) + 2).toNat = n + 2 := by omega
  show [.ref (Y.2.2.1 ((n : Int) + 1).toNat), vI (m (0 + 1)), vI (m (0 + 1 + 1)), vI (m (0 + 1 + 1 + 1)), vI (m (0 + 1 + 1 + 1 + 1)), vI (m (0 + 1 + 1 + 1 + 1 + 1)), vI (m (0 + 1 + 1 + 1 + 1 + 1 + 1)), vI (m (0 + 1 + 1 + 1 + 1 + 1 + 1 + 1)), .ref (Y.2.2.1 ((n : Int) + 2).toNat), vI (m (0 + 1 + 1 + 1 + 1 + 1 + 1 + 1 + 1 + 1)), vI (m (0 + 1 + 1 + 1 + 1 + 1 + 1 + 1 + 1 + 1 + 1))] = _
  rw [e1, e2]
  try rfl
theorem fvz_7 (Y : YT) {m : Int → Int} (n : Nat) (hm : ∀ k, m k = 0) : fv Y m n 0 (ft 7) = [.ref (Y.2.2.1 (n + 1)), .int 0, .int 0, .int 0, .int 0, .int 0, .int 0, .int 0, .ref (Y.2.2.1 (n + 2)), .int 0, .int 0] := by
  rw [fvc_7]
  simp only [hm, vI_z]
theorem fvc_8 (Y : YT) (m : Int → Int) (n : Nat) : fv Y m n 0 (ft 8) = [vI (m 0), .ref (Y.2.2.1 (n + 1)), vI (m 2), .ref (Y.2.2.1 (n + 2)), .ref (Y.2.2.1 (n + 3)), vI (m 5), .ref (Y.2.2.1 (n + 4)), .ref (Y.2.2.1 (n + 5)), .ref (Y.2.2.1 (n + 6)), vI (m 9), .ref (Y.2.2.1 (n + 7)), vI (m 11), .ref (Y.2.2.1 (n + 11)), .ref (Y.2.2.1 (n + 14))] := by
  have e1 : ((n : Int) + 1).toNat = n + 1 := by omega
  have e2 : ((n : Int) + 2).toNat = n + 2 := by omega
  have e3 : ((n : Int) + 3).toNat = n + 3 := by omega
  have e4 : ((n : Int) + 4).toNat = n + 4 := by omega
  have e5 : ((n : Int) + 5).toNat = n + 5 := by omega
  have e6 : ((n : Int) + 6).toNat = n + 6 := by omega
  have e7 : ((n : Int) + 7).toNat = n + 7 := by omega
  have e11 : ((n : Int) + 11).toNat = n + 11 := by omega
  have e14 : ((n : Int) + 14).toNat = n + 14 := by omega
  show [vI (m (0)), .ref (Y.2.2.1 ((n : Int) + 1).toNat), vI (m (0 + 1 + 1)), .ref (Y.2.2.1 ((n : Int) + 2).toNat), .ref (Y.2.2.1 ((n : Int) + 3).toNat), vI (m (0 + 1 + 1 + 1 + 1 + 1)), .ref (Y.2.2.1 ((n : Int) + 4).toNat), .ref (Y.2.2.1 ((n : Int) + 5).toNat), .ref (Y.2.2.1 ((n : Int) + 6).toNat), vI (m (0 + 1 + 1 + 1 + 1 + 1 + 1 + 1 + 1 + 1)), .ref (Y.2.2.1 ((n : Int) + 7).toNat), vI (m (0 + 1 + 1 + 1 + 1 + 1 + 1 + 1 + 1 + 1 + 1 + 1)), .ref (Y.2.2.1 ((n : Int) + 11).toNat), .ref (Y.2.2.1 ((n : Int) + 14).toNat)] = _
  rw [e1, e2, e3, e4, e5, e6, e7, e11, e14]
  try rfl
theorem fvz_8 (Y : YT) {m : Int → Int} (n : Nat) (hm : ∀ k, m k = 0) : fv Y m n 0 (ft 8) = [.int 0, .ref (Y.2.2.1 (n + 1)), .int 0, .ref (Y.2.2.1 (n + 2)), .ref (Y.2.2.1 (n + 3)), .int 0, .ref (Y.2.2.1 (n + 4)), .ref (Y.2.2.1 (n + 5)), .ref (Y.2.2.1 (n + 6)), .int 0, .ref (Y.2.2.1 (n + 7)), .int 0, .ref (Y.2.2.1 (n + 11)), .ref (Y.2.2.1 (n + 14))] := by
  rw [fvc_8]
  simp only [hm, vI_z]
theorem fvc_10 (Y : YT) (m : Int → Int) (n : Nat) : fv Y m n 0 (ft 10) = [.ref (Y.2.2.1 (n + 1)), .ref (Y.2.2.1 (n + 2)), .ref (Y.2.2.1 (n + 3)), .ref (Y.2.2.1 (n + 4)), rv Y (m 4), rv Y (m 5)] := by
  have e1 : ((n : Int) + 1).toNat = n + 1 := by omega
  have e2 : ((n : Int) + 2).toNat = n + 2 := by omega
  have e3 : ((n : Int) + 3).toNat = n + 3 := by omega
  have e4 : ((n : Int) + 4).toNat = n + 4 := by omega
  show [.ref (Y.2.2.1 ((n : Int) + 1).toNat), .ref (Y.2.2.1 ((n : Int) + 2).toNat), .ref (Y.2.2.1 ((n : Int) + 3).toNat), .ref (Y.2.2.1 ((n : Int) + 4).toNat), rv Y (m (0 + 1 + 1 + 1 + 1)), rv Y (m (0 + 1 + 1 + 1 + 1 + 1))] = _
  rw [e1, e2, e3, e4]
  try rfl
theorem fvc_11 (Y : YT) (m : Int → Int) (n : Nat) : fv Y m n 0 (ft 11) = [.ref (Y.2.2.1 (n + 1)), .ref (Y.2.2.1 (n + 4)), rv Y (m 2), rv Y (m 3), .ref (Y.2.2.1 (n + 40)), .ref (Y.2.2.1 (n + 46)), .ref (Y.2.2.1 (n + 52)), .ref (Y.2.2.1 (n + 57)), vI (m 8), .ref (Y.2.2.1 (n + 62)), .ref (Y.2.2.1 (n + 185)), .ref (Y.2.2.1 (n + 187)), .ref (Y.2.2.1 (n + 198)), vI (m 13)] := by
  have e1 : ((n : Int) + 1).toNat = n + 1 := by omega
  have e4 : ((n : Int) + 4).toNat = n + 4 := by omega
  have e40 : ((n : Int) + 40).toNat = n + 40 := by omega
  have e46 : ((n : Int) + 46).toNat = n + 46 := by omega
  have e52 : ((n : Int) + 52).toNat = n + 52 := by omega
  have e57 : ((n : Int) + 57).toNat = n + 57 := by omega
  have e62 : ((n : Int) + 62).toNat = n + 62 := by omega
  have e185 : ((n : Int) + 185).toNat = n + 185 := by omega
  have e187 : ((n : Int) + 187).toNat = n + 187 := by omega
  have e198 : ((n : Int) + 198).toNat = n + 198 := by omega
  show [.ref (Y.2.2.1 ((n : Int) + 1).toNat), .ref (Y.2.2.1 ((n : Int) + 4).toNat), rv Y (m (0 + 1 + 1)), rv Y (m (0 + 1 + 1 + 1)), .ref (Y.2.2.1 ((n : Int) + 40).toNat), .ref (Y.2.2.1 ((n : Int) + 46).toNat), .ref (Y.2.2.1 ((n : Int) + 52).toNat), .ref (Y.2.2.1 ((n : Int) + 57).toNat), vI (m (0 + 1 + 1 + 1 + 1 + 1 + 1 + 1 + 1)), .ref (Y.2.2.1 ((n : Int) + 62).toNat), .ref (Y.2.2.1 ((n : Int) + 185).toNat), .ref (Y.2.2.1 ((n : Int) + 187).toNat), .ref (Y.2.2.1 ((n : Int) + 198).toNat), vI (m (0 + 1 + 1 + 1 + 1 + 1 + 1 + 1 + 1 + 1 + 1 + 1 + 1 + 1))] = _
  rw [e1, e4, e40, e46, e52, e57, e62, e185, e187, e198]
  try rfl
theorem fvk {Y : YT} {m : Int → Int} {a k k1 : Int} {q : Nat × Int} {r : List (Nat × Int)} {v : Value} {l : List Value} (hv : vl Y m a k q = v) (hk : k + 1 = k1) (hr : fv Y m a k1 r = l) : fv Y m a k (q :: r) = v :: l := by
  subst hk
  show vl Y m a k q :: fv Y m a (k + 1) r = _
  rw [hv, hr]
theorem cX_0 (Y : YT) : cel Y 0 (M0 ((0 : Nat) : Int)) = .inr (11, [.ref (Y.2.2.1 1), .ref (Y.2.2.1 4), .ref (Y.2.2.1 6), .ref (Y.2.2.1 23), .ref (Y.2.2.1 40), .ref (Y.2.2.1 46), .ref (Y.2.2.1 52), .ref (Y.2.2.1 57), .int 0, .ref (Y.2.2.1 62), .ref (Y.2.2.1 185), .ref (Y.2.2.1 187), .ref (Y.2.2.1 198), vI (1)]) := by
  refine (cel_o Y (M0 ((0 : Nat) : Int)) (c := 11) (by decide +kernel) (by decide)).trans (congrArg (fun l => (.inr (11, l) : va_E)) ?_)
  have v2 : M0 ((0 : Nat) : Int) 2 = 6 := by decide +kernel
  have v3 : M0 ((0 : Nat) : Int) 3 = 23 := by decide +kernel
  have v8 : M0 ((0 : Nat) : Int) 8 = 0 := by decide +kernel
  have v13 : M0 ((0 : Nat) : Int) 13 = 1 := by decide +kernel
  rw [fvc_11]
  rw [v2, v3, v8, v13]
  try rw [show rv Y 6 = .ref (Y.2.2.1 6) from rv_pos (by decide)]
  try rw [show rv Y 23 = .ref (Y.2.2.1 23) from rv_pos (by decide)]
  try rw [vI_z]
  try rfl
theorem cX_1 (Y : YT) : cel Y 1 (M0 ((1 : Nat) : Int)) = .inr (7, [.ref (Y.2.2.1 2), .int 0, .int 0, .int 0, .int 0, .int 0, .int 0, vI (-1), .ref (Y.2.2.1 3), .int 0, .int 0]) := by
  refine (cel_o Y (M0 ((1 : Nat) : Int)) (c := 7) (by decide +kernel) (by decide)).trans (congrArg (fun l => (.inr (7, l) : va_E)) ?_)
  have v1 : M0 ((1 : Nat) : Int) 1 = 0 := by decide +kernel
  have v2 : M0 ((1 : Nat) : Int) 2 = 0 := by decide +kernel
  have v3 : M0 ((1 : Nat) : Int) 3 = 0 := by decide +kernel
  have v4 : M0 ((1 : Nat) : Int) 4 = 0 := by decide +kernel
  have v5 : M0 ((1 : Nat) : Int) 5 = 0 := by decide +kernel
  have v6 : M0 ((1 : Nat) : Int) 6 = 0 := by decide +kernel
  have v7 : M0 ((1 : Nat) : Int) 7 = -1 := by decide +kernel
  have v9 : M0 ((1 : Nat) : Int) 9 = 0 := by decide +kernel
  have v10 : M0 ((1 : Nat) : Int) 10 = 0 := by decide +kernel
  rw [fvc_7]
  rw [v1, v2, v3, v4, v5, v6, v7, v9, v10]
  try rw [vI_z]
  try rfl
theorem cX_2 (Y : YT) : cel Y 2 (M0 ((2 : Nat) : Int)) = .inl (Y.2.1 20, 1600, .inl fun _ => 0) := cel_iz Y (by decide +kernel) (by decide +kernel) (by decide) (fun k => m0_z (by decide))
theorem cX_4 (Y : YT) : cel Y 4 (M0 ((4 : Nat) : Int)) = .inr (9, [.ref (Y.2.2.1 1), .ref (Y.2.2.1 5), .null, .int 0]) := by
  refine (cel_o Y (M0 ((4 : Nat) : Int)) (c := 9) (by decide +kernel) (by decide)).trans (congrArg (fun l => (.inr (9, l) : va_E)) ?_)
  have v2 : M0 ((4 : Nat) : Int) 2 = -1 := by decide +kernel
  have v3 : M0 ((4 : Nat) : Int) 3 = 0 := by decide +kernel
  show [.ref (Y.2.2.1 1), .ref (Y.2.2.1 5), rv Y (M0 ((4 : Nat) : Int) 2), vI (M0 ((4 : Nat) : Int) 3)] = _
  rw [v2, v3]
  try rw [show rv Y (-1) = .null from if_pos (by decide)]
  try rw [vI_z]
  try rfl
theorem cX_5 (Y : YT) : cel Y 5 (M0 ((5 : Nat) : Int)) = .inr (2, [.ref (Y.2.2.1 1), .null, .int 0]) := by
  refine (cel_o Y (M0 ((5 : Nat) : Int)) (c := 2) (by decide +kernel) (by decide)).trans (congrArg (fun l => (.inr (2, l) : va_E)) ?_)
  have v1 : M0 ((5 : Nat) : Int) 1 = -1 := by decide +kernel
  have v2 : M0 ((5 : Nat) : Int) 2 = 0 := by decide +kernel
  show [.ref (Y.2.2.1 1), rv Y (M0 ((5 : Nat) : Int) 1), vI (M0 ((5 : Nat) : Int) 2)] = _
  rw [v1, v2]
  try rw [show rv Y (-1) = .null from if_pos (by decide)]
  try rw [vI_z]
  try rfl
theorem cX_6 (Y : YT) : cel Y 6 (M0 ((6 : Nat) : Int)) = .inr (8, [.int 0, .ref (Y.2.2.1 7), .int 0, .ref (Y.2.2.1 8), .ref (Y.2.2.1 9), .int 0, .ref (Y.2.2.1 10), .ref (Y.2.2.1 11), .ref (Y.2.2.1 12), .int 0, .ref (Y.2.2.1 13), .int 0, .ref (Y.2.2.1 17), .ref (Y.2.2.1 20)]) := (cel_o Y (M0 ((6 : Nat) : Int)) (c := 8) (by decide +kernel) (by decide)).trans (congrArg (fun l => (.inr (8, l) : va_E)) (fvz_8 Y 6 (fun k => m0_z (by decide))))
theorem cX_7 (Y : YT) : cel Y 7 (M0 ((7 : Nat) : Int)) = .inl (Y.2.1 20, 7, .inl fun _ => 0) := cel_iz Y (by decide +kernel) (by decide +kernel) (by decide) (fun k => m0_z (by decide))
theorem cX_8 (Y : YT) : cel Y 8 (M0 ((8 : Nat) : Int)) = .inl (Y.2.1 20, 7, .inl fun _ => 0) := cel_iz Y (by decide +kernel) (by decide +kernel) (by decide) (fun k => m0_z (by decide))
theorem cX_9 (Y : YT) : cel Y 9 (M0 ((9 : Nat) : Int)) = .inl (Y.2.1 20, 49, .inl fun _ => 0) := cel_iz Y (by decide +kernel) (by decide +kernel) (by decide) (fun k => m0_z (by decide))
theorem cX_10 (Y : YT) : cel Y 10 (M0 ((10 : Nat) : Int)) = .inl (Y.2.1 20, 6, .inl fun _ => 0) := cel_iz Y (by decide +kernel) (by decide +kernel) (by decide) (fun k => m0_z (by decide))
theorem cX_11 (Y : YT) : cel Y 11 (M0 ((11 : Nat) : Int)) = .inl (Y.2.1 20, 6, .inl fun _ => 0) := cel_iz Y (by decide +kernel) (by decide +kernel) (by decide) (fun k => m0_z (by decide))
theorem cX_12 (Y : YT) : cel Y 12 (M0 ((12 : Nat) : Int)) = .inl (Y.2.1 20, 6, .inl fun _ => 0) := cel_iz Y (by decide +kernel) (by decide +kernel) (by decide) (fun k => m0_z (by decide))
theorem cX_13 (Y : YT) : cel Y 13 (M0 ((13 : Nat) : Int)) = .inr (5, [.int 0, .ref (Y.2.2.1 14), .ref (Y.2.2.1 15), .ref (Y.2.2.1 16)]) := (cel_o Y (M0 ((13 : Nat) : Int)) (c := 5) (by decide +kernel) (by decide)).trans (congrArg (fun l => (.inr (5, l) : va_E)) (fvz_5 Y 13 (fun k => m0_z (by decide))))
theorem cX_14 (Y : YT) : cel Y 14 (M0 ((14 : Nat) : Int)) = .inl (Y.2.1 20, 9, .inl fun _ => 0) := cel_iz Y (by decide +kernel) (by decide +kernel) (by decide) (fun k => m0_z (by decide))
theorem cX_15 (Y : YT) : cel Y 15 (M0 ((15 : Nat) : Int)) = .inl (Y.2.1 20, 9, .inl fun _ => 0) := cel_iz Y (by decide +kernel) (by decide +kernel) (by decide) (fun k => m0_z (by decide))
theorem cX_16 (Y : YT) : cel Y 16 (M0 ((16 : Nat) : Int)) = .inl (Y.2.1 20, 9, .inl fun _ => 0) := cel_iz Y (by decide +kernel) (by decide +kernel) (by decide) (fun k => m0_z (by decide))
theorem cX_17 (Y : YT) : cel Y 17 (M0 ((17 : Nat) : Int)) = .inr (1, [.ref (Y.2.2.1 18), .ref (Y.2.2.1 19), .int 0]) := (cel_o Y (M0 ((17 : Nat) : Int)) (c := 1) (by decide +kernel) (by decide)).trans (congrArg (fun l => (.inr (1, l) : va_E)) (fvz_1 Y 17 (fun k => m0_z (by decide))))
theorem cX_18 (Y : YT) : cel Y 18 (M0 ((18 : Nat) : Int)) = .inl (Y.2.1 20, 1600, .inl fun _ => 0) := cel_iz Y (by decide +kernel) (by decide +kernel) (by decide) (fun k => m0_z (by decide))
theorem cX_19 (Y : YT) : cel Y 19 (M0 ((19 : Nat) : Int)) = .inl (Y.2.1 20, 64, .inl fun _ => 0) := cel_iz Y (by decide +kernel) (by decide +kernel) (by decide) (fun k => m0_z (by decide))
theorem cX_20 (Y : YT) : cel Y 20 (M0 ((20 : Nat) : Int)) = .inr (1, [.ref (Y.2.2.1 21), .ref (Y.2.2.1 22), .int 0]) := (cel_o Y (M0 ((20 : Nat) : Int)) (c := 1) (by decide +kernel) (by decide)).trans (congrArg (fun l => (.inr (1, l) : va_E)) (fvz_1 Y 20 (fun k => m0_z (by decide))))
theorem cX_21 (Y : YT) : cel Y 21 (M0 ((21 : Nat) : Int)) = .inl (Y.2.1 20, 1600, .inl fun _ => 0) := cel_iz Y (by decide +kernel) (by decide +kernel) (by decide) (fun k => m0_z (by decide))
theorem cX_22 (Y : YT) : cel Y 22 (M0 ((22 : Nat) : Int)) = .inl (Y.2.1 20, 64, .inl fun _ => 0) := cel_iz Y (by decide +kernel) (by decide +kernel) (by decide) (fun k => m0_z (by decide))
theorem cX_23 (Y : YT) : cel Y 23 (M0 ((23 : Nat) : Int)) = .inr (8, [.int 0, .ref (Y.2.2.1 24), .int 0, .ref (Y.2.2.1 25), .ref (Y.2.2.1 26), .int 0, .ref (Y.2.2.1 27), .ref (Y.2.2.1 28), .ref (Y.2.2.1 29), .int 0, .ref (Y.2.2.1 30), .int 0, .ref (Y.2.2.1 34), .ref (Y.2.2.1 37)]) := (cel_o Y (M0 ((23 : Nat) : Int)) (c := 8) (by decide +kernel) (by decide)).trans (congrArg (fun l => (.inr (8, l) : va_E)) (fvz_8 Y 23 (fun k => m0_z (by decide))))
theorem cX_24 (Y : YT) : cel Y 24 (M0 ((24 : Nat) : Int)) = .inl (Y.2.1 20, 7, .inl fun _ => 0) := cel_iz Y (by decide +kernel) (by decide +kernel) (by decide) (fun k => m0_z (by decide))
theorem cX_25 (Y : YT) : cel Y 25 (M0 ((25 : Nat) : Int)) = .inl (Y.2.1 20, 7, .inl fun _ => 0) := cel_iz Y (by decide +kernel) (by decide +kernel) (by decide) (fun k => m0_z (by decide))
theorem cX_26 (Y : YT) : cel Y 26 (M0 ((26 : Nat) : Int)) = .inl (Y.2.1 20, 49, .inl fun _ => 0) := cel_iz Y (by decide +kernel) (by decide +kernel) (by decide) (fun k => m0_z (by decide))
theorem cX_27 (Y : YT) : cel Y 27 (M0 ((27 : Nat) : Int)) = .inl (Y.2.1 20, 6, .inl fun _ => 0) := cel_iz Y (by decide +kernel) (by decide +kernel) (by decide) (fun k => m0_z (by decide))
theorem cX_28 (Y : YT) : cel Y 28 (M0 ((28 : Nat) : Int)) = .inl (Y.2.1 20, 6, .inl fun _ => 0) := cel_iz Y (by decide +kernel) (by decide +kernel) (by decide) (fun k => m0_z (by decide))
theorem cX_29 (Y : YT) : cel Y 29 (M0 ((29 : Nat) : Int)) = .inl (Y.2.1 20, 6, .inl fun _ => 0) := cel_iz Y (by decide +kernel) (by decide +kernel) (by decide) (fun k => m0_z (by decide))
theorem cX_30 (Y : YT) : cel Y 30 (M0 ((30 : Nat) : Int)) = .inr (5, [.int 0, .ref (Y.2.2.1 31), .ref (Y.2.2.1 32), .ref (Y.2.2.1 33)]) := (cel_o Y (M0 ((30 : Nat) : Int)) (c := 5) (by decide +kernel) (by decide)).trans (congrArg (fun l => (.inr (5, l) : va_E)) (fvz_5 Y 30 (fun k => m0_z (by decide))))
theorem cX_31 (Y : YT) : cel Y 31 (M0 ((31 : Nat) : Int)) = .inl (Y.2.1 20, 9, .inl fun _ => 0) := cel_iz Y (by decide +kernel) (by decide +kernel) (by decide) (fun k => m0_z (by decide))
theorem cX_32 (Y : YT) : cel Y 32 (M0 ((32 : Nat) : Int)) = .inl (Y.2.1 20, 9, .inl fun _ => 0) := cel_iz Y (by decide +kernel) (by decide +kernel) (by decide) (fun k => m0_z (by decide))
theorem cX_33 (Y : YT) : cel Y 33 (M0 ((33 : Nat) : Int)) = .inl (Y.2.1 20, 9, .inl fun _ => 0) := cel_iz Y (by decide +kernel) (by decide +kernel) (by decide) (fun k => m0_z (by decide))
theorem cX_34 (Y : YT) : cel Y 34 (M0 ((34 : Nat) : Int)) = .inr (1, [.ref (Y.2.2.1 35), .ref (Y.2.2.1 36), .int 0]) := (cel_o Y (M0 ((34 : Nat) : Int)) (c := 1) (by decide +kernel) (by decide)).trans (congrArg (fun l => (.inr (1, l) : va_E)) (fvz_1 Y 34 (fun k => m0_z (by decide))))
theorem cX_35 (Y : YT) : cel Y 35 (M0 ((35 : Nat) : Int)) = .inl (Y.2.1 20, 1600, .inl fun _ => 0) := cel_iz Y (by decide +kernel) (by decide +kernel) (by decide) (fun k => m0_z (by decide))
theorem cX_36 (Y : YT) : cel Y 36 (M0 ((36 : Nat) : Int)) = .inl (Y.2.1 20, 64, .inl fun _ => 0) := cel_iz Y (by decide +kernel) (by decide +kernel) (by decide) (fun k => m0_z (by decide))
theorem cX_37 (Y : YT) : cel Y 37 (M0 ((37 : Nat) : Int)) = .inr (1, [.ref (Y.2.2.1 38), .ref (Y.2.2.1 39), .int 0]) := (cel_o Y (M0 ((37 : Nat) : Int)) (c := 1) (by decide +kernel) (by decide)).trans (congrArg (fun l => (.inr (1, l) : va_E)) (fvz_1 Y 37 (fun k => m0_z (by decide))))
theorem cX_38 (Y : YT) : cel Y 38 (M0 ((38 : Nat) : Int)) = .inl (Y.2.1 20, 1600, .inl fun _ => 0) := cel_iz Y (by decide +kernel) (by decide +kernel) (by decide) (fun k => m0_z (by decide))
theorem cX_39 (Y : YT) : cel Y 39 (M0 ((39 : Nat) : Int)) = .inl (Y.2.1 20, 64, .inl fun _ => 0) := cel_iz Y (by decide +kernel) (by decide +kernel) (by decide) (fun k => m0_z (by decide))
theorem cX_40 (Y : YT) : cel Y 40 (M0 ((40 : Nat) : Int)) = .inr (6, [.int 0, .ref (Y.2.2.1 41), .int 0, .ref (Y.2.2.1 42), .int 0]) := (cel_o Y (M0 ((40 : Nat) : Int)) (c := 6) (by decide +kernel) (by decide)).trans (congrArg (fun l => (.inr (6, l) : va_E)) (fvz_6 Y 40 (fun k => m0_z (by decide))))
theorem cX_41 (Y : YT) : cel Y 41 (M0 ((41 : Nat) : Int)) = .inl (Y.2.1 20, 6, .inl fun _ => 0) := cel_iz Y (by decide +kernel) (by decide +kernel) (by decide) (fun k => m0_z (by decide))
theorem cX_42 (Y : YT) : cel Y 42 (M0 ((42 : Nat) : Int)) = .inr (5, [.int 0, .ref (Y.2.2.1 43), .ref (Y.2.2.1 44), .ref (Y.2.2.1 45)]) := (cel_o Y (M0 ((42 : Nat) : Int)) (c := 5) (by decide +kernel) (by decide)).trans (congrArg (fun l => (.inr (5, l) : va_E)) (fvz_5 Y 42 (fun k => m0_z (by decide))))
theorem cX_43 (Y : YT) : cel Y 43 (M0 ((43 : Nat) : Int)) = .inl (Y.2.1 20, 9, .inl fun _ => 0) := cel_iz Y (by decide +kernel) (by decide +kernel) (by decide) (fun k => m0_z (by decide))
theorem cX_44 (Y : YT) : cel Y 44 (M0 ((44 : Nat) : Int)) = .inl (Y.2.1 20, 9, .inl fun _ => 0) := cel_iz Y (by decide +kernel) (by decide +kernel) (by decide) (fun k => m0_z (by decide))
theorem cX_45 (Y : YT) : cel Y 45 (M0 ((45 : Nat) : Int)) = .inl (Y.2.1 20, 9, .inl fun _ => 0) := cel_iz Y (by decide +kernel) (by decide +kernel) (by decide) (fun k => m0_z (by decide))
theorem cX_46 (Y : YT) : cel Y 46 (M0 ((46 : Nat) : Int)) = .inr (6, [.int 0, .ref (Y.2.2.1 47), .int 0, .ref (Y.2.2.1 48), .int 0]) := (cel_o Y (M0 ((46 : Nat) : Int)) (c := 6) (by decide +kernel) (by decide)).trans (congrArg (fun l => (.inr (6, l) : va_E)) (fvz_6 Y 46 (fun k => m0_z (by decide))))
theorem cX_47 (Y : YT) : cel Y 47 (M0 ((47 : Nat) : Int)) = .inl (Y.2.1 20, 6, .inl fun _ => 0) := cel_iz Y (by decide +kernel) (by decide +kernel) (by decide) (fun k => m0_z (by decide))
theorem cX_48 (Y : YT) : cel Y 48 (M0 ((48 : Nat) : Int)) = .inr (5, [.int 0, .ref (Y.2.2.1 49), .ref (Y.2.2.1 50), .ref (Y.2.2.1 51)]) := (cel_o Y (M0 ((48 : Nat) : Int)) (c := 5) (by decide +kernel) (by decide)).trans (congrArg (fun l => (.inr (5, l) : va_E)) (fvz_5 Y 48 (fun k => m0_z (by decide))))
theorem cX_49 (Y : YT) : cel Y 49 (M0 ((49 : Nat) : Int)) = .inl (Y.2.1 20, 9, .inl fun _ => 0) := cel_iz Y (by decide +kernel) (by decide +kernel) (by decide) (fun k => m0_z (by decide))
theorem cX_50 (Y : YT) : cel Y 50 (M0 ((50 : Nat) : Int)) = .inl (Y.2.1 20, 9, .inl fun _ => 0) := cel_iz Y (by decide +kernel) (by decide +kernel) (by decide) (fun k => m0_z (by decide))
theorem cX_51 (Y : YT) : cel Y 51 (M0 ((51 : Nat) : Int)) = .inl (Y.2.1 20, 9, .inl fun _ => 0) := cel_iz Y (by decide +kernel) (by decide +kernel) (by decide) (fun k => m0_z (by decide))
theorem cX_52 (Y : YT) : cel Y 52 (M0 ((52 : Nat) : Int)) = .inr (10, [.ref (Y.2.2.1 53), .ref (Y.2.2.1 54), .ref (Y.2.2.1 55), .ref (Y.2.2.1 56), .null, .null]) := by
  refine (cel_o Y (M0 ((52 : Nat) : Int)) (c := 10) (by decide +kernel) (by decide)).trans (congrArg (fun l => (.inr (10, l) : va_E)) ?_)
  have v4 : M0 ((52 : Nat) : Int) 4 = -1 := by decide +kernel
  have v5 : M0 ((52 : Nat) : Int) 5 = -1 := by decide +kernel
  rw [fvc_10]
  rw [v4, v5]
  try rw [show rv Y (-1) = .null from if_pos (by decide)]
  try rw [show rv Y (-1) = .null from if_pos (by decide)]
  try rw [vI_z]
  try rfl
theorem cX_53 (Y : YT) : cel Y 53 (M0 ((53 : Nat) : Int)) = .inl (Y.2.1 20, 54, .inl fun _ => 0) := cel_iz Y (by decide +kernel) (by decide +kernel) (by decide) (fun k => m0_z (by decide))
theorem cX_54 (Y : YT) : cel Y 54 (M0 ((54 : Nat) : Int)) = .inl (Y.2.1 20, 63, .inl fun _ => 0) := cel_iz Y (by decide +kernel) (by decide +kernel) (by decide) (fun k => m0_z (by decide))
theorem cX_55 (Y : YT) : cel Y 55 (M0 ((55 : Nat) : Int)) = .inl (Y.2.1 20, 63, .inl fun _ => 0) := cel_iz Y (by decide +kernel) (by decide +kernel) (by decide) (fun k => m0_z (by decide))
theorem cX_56 (Y : YT) : cel Y 56 (M0 ((56 : Nat) : Int)) = .inl (Y.2.1 20, 7, .inl fun _ => 0) := cel_iz Y (by decide +kernel) (by decide +kernel) (by decide) (fun k => m0_z (by decide))
theorem cX_57 (Y : YT) : cel Y 57 (M0 ((57 : Nat) : Int)) = .inr (10, [.ref (Y.2.2.1 58), .ref (Y.2.2.1 59), .ref (Y.2.2.1 60), .ref (Y.2.2.1 61), .null, .null]) := by
  refine (cel_o Y (M0 ((57 : Nat) : Int)) (c := 10) (by decide +kernel) (by decide)).trans (congrArg (fun l => (.inr (10, l) : va_E)) ?_)
  have v4 : M0 ((57 : Nat) : Int) 4 = -1 := by decide +kernel
  have v5 : M0 ((57 : Nat) : Int) 5 = -1 := by decide +kernel
  rw [fvc_10]
  rw [v4, v5]
  try rw [show rv Y (-1) = .null from if_pos (by decide)]
  try rw [show rv Y (-1) = .null from if_pos (by decide)]
  try rw [vI_z]
  try rfl
theorem cX_58 (Y : YT) : cel Y 58 (M0 ((58 : Nat) : Int)) = .inl (Y.2.1 20, 54, .inl fun _ => 0) := cel_iz Y (by decide +kernel) (by decide +kernel) (by decide) (fun k => m0_z (by decide))
theorem cX_59 (Y : YT) : cel Y 59 (M0 ((59 : Nat) : Int)) = .inl (Y.2.1 20, 63, .inl fun _ => 0) := cel_iz Y (by decide +kernel) (by decide +kernel) (by decide) (fun k => m0_z (by decide))
theorem cX_60 (Y : YT) : cel Y 60 (M0 ((60 : Nat) : Int)) = .inl (Y.2.1 20, 63, .inl fun _ => 0) := cel_iz Y (by decide +kernel) (by decide +kernel) (by decide) (fun k => m0_z (by decide))
theorem cX_61 (Y : YT) : cel Y 61 (M0 ((61 : Nat) : Int)) = .inl (Y.2.1 20, 7, .inl fun _ => 0) := cel_iz Y (by decide +kernel) (by decide +kernel) (by decide) (fun k => m0_z (by decide))
theorem cX_62 (Y : YT) : cel Y 62 (M0 ((62 : Nat) : Int)) = .inr (3, [.ref (Y.2.2.1 63), .int 0, .int 0, .ref (Y.2.2.1 64)]) := (cel_o Y (M0 ((62 : Nat) : Int)) (c := 3) (by decide +kernel) (by decide)).trans (congrArg (fun l => (.inr (3, l) : va_E)) (fvz_3 Y 62 (fun k => m0_z (by decide))))
theorem cX_64 (Y : YT) : cel Y 64 (M0 ((64 : Nat) : Int)) = .inl (Y.2.1 20, 2997, .inl fun _ => 0) := cel_iz Y (by decide +kernel) (by decide +kernel) (by decide) (fun k => m0_z (by decide))
theorem cX_65 (Y : YT) : cel Y 65 (M0 ((65 : Nat) : Int)) = .inr (6, [.int 0, .ref (Y.2.2.1 66), .int 0, .ref (Y.2.2.1 67), .int 0]) := (cel_o Y (M0 ((65 : Nat) : Int)) (c := 6) (by decide +kernel) (by decide)).trans (congrArg (fun l => (.inr (6, l) : va_E)) (fvz_6 Y 65 (fun k => m0_z (by decide))))
theorem cX_66 (Y : YT) : cel Y 66 (M0 ((66 : Nat) : Int)) = .inl (Y.2.1 20, 6, .inl fun _ => 0) := cel_iz Y (by decide +kernel) (by decide +kernel) (by decide) (fun k => m0_z (by decide))
theorem cX_67 (Y : YT) : cel Y 67 (M0 ((67 : Nat) : Int)) = .inr (5, [.int 0, .ref (Y.2.2.1 68), .ref (Y.2.2.1 69), .ref (Y.2.2.1 70)]) := (cel_o Y (M0 ((67 : Nat) : Int)) (c := 5) (by decide +kernel) (by decide)).trans (congrArg (fun l => (.inr (5, l) : va_E)) (fvz_5 Y 67 (fun k => m0_z (by decide))))
theorem cX_68 (Y : YT) : cel Y 68 (M0 ((68 : Nat) : Int)) = .inl (Y.2.1 20, 9, .inl fun _ => 0) := cel_iz Y (by decide +kernel) (by decide +kernel) (by decide) (fun k => m0_z (by decide))
theorem cX_69 (Y : YT) : cel Y 69 (M0 ((69 : Nat) : Int)) = .inl (Y.2.1 20, 9, .inl fun _ => 0) := cel_iz Y (by decide +kernel) (by decide +kernel) (by decide) (fun k => m0_z (by decide))
theorem cX_70 (Y : YT) : cel Y 70 (M0 ((70 : Nat) : Int)) = .inl (Y.2.1 20, 9, .inl fun _ => 0) := cel_iz Y (by decide +kernel) (by decide +kernel) (by decide) (fun k => m0_z (by decide))
theorem cX_71 (Y : YT) : cel Y 71 (M0 ((71 : Nat) : Int)) = .inr (6, [.int 0, .ref (Y.2.2.1 72), .int 0, .ref (Y.2.2.1 73), .int 0]) := (cel_o Y (M0 ((71 : Nat) : Int)) (c := 6) (by decide +kernel) (by decide)).trans (congrArg (fun l => (.inr (6, l) : va_E)) (fvz_6 Y 71 (fun k => m0_z (by decide))))
theorem cX_72 (Y : YT) : cel Y 72 (M0 ((72 : Nat) : Int)) = .inl (Y.2.1 20, 6, .inl fun _ => 0) := cel_iz Y (by decide +kernel) (by decide +kernel) (by decide) (fun k => m0_z (by decide))
theorem cX_73 (Y : YT) : cel Y 73 (M0 ((73 : Nat) : Int)) = .inr (5, [.int 0, .ref (Y.2.2.1 74), .ref (Y.2.2.1 75), .ref (Y.2.2.1 76)]) := (cel_o Y (M0 ((73 : Nat) : Int)) (c := 5) (by decide +kernel) (by decide)).trans (congrArg (fun l => (.inr (5, l) : va_E)) (fvz_5 Y 73 (fun k => m0_z (by decide))))
theorem cX_74 (Y : YT) : cel Y 74 (M0 ((74 : Nat) : Int)) = .inl (Y.2.1 20, 9, .inl fun _ => 0) := cel_iz Y (by decide +kernel) (by decide +kernel) (by decide) (fun k => m0_z (by decide))
theorem cX_75 (Y : YT) : cel Y 75 (M0 ((75 : Nat) : Int)) = .inl (Y.2.1 20, 9, .inl fun _ => 0) := cel_iz Y (by decide +kernel) (by decide +kernel) (by decide) (fun k => m0_z (by decide))
theorem cX_76 (Y : YT) : cel Y 76 (M0 ((76 : Nat) : Int)) = .inl (Y.2.1 20, 9, .inl fun _ => 0) := cel_iz Y (by decide +kernel) (by decide +kernel) (by decide) (fun k => m0_z (by decide))
theorem cX_77 (Y : YT) : cel Y 77 (M0 ((77 : Nat) : Int)) = .inr (6, [.int 0, .ref (Y.2.2.1 78), .int 0, .ref (Y.2.2.1 79), .int 0]) := (cel_o Y (M0 ((77 : Nat) : Int)) (c := 6) (by decide +kernel) (by decide)).trans (congrArg (fun l => (.inr (6, l) : va_E)) (fvz_6 Y 77 (fun k => m0_z (by decide))))
theorem cX_78 (Y : YT) : cel Y 78 (M0 ((78 : Nat) : Int)) = .inl (Y.2.1 20, 6, .inl fun _ => 0) := cel_iz Y (by decide +kernel) (by decide +kernel) (by decide) (fun k => m0_z (by decide))
theorem cX_79 (Y : YT) : cel Y 79 (M0 ((79 : Nat) : Int)) = .inr (5, [.int 0, .ref (Y.2.2.1 80), .ref (Y.2.2.1 81), .ref (Y.2.2.1 82)]) := (cel_o Y (M0 ((79 : Nat) : Int)) (c := 5) (by decide +kernel) (by decide)).trans (congrArg (fun l => (.inr (5, l) : va_E)) (fvz_5 Y 79 (fun k => m0_z (by decide))))
theorem cX_80 (Y : YT) : cel Y 80 (M0 ((80 : Nat) : Int)) = .inl (Y.2.1 20, 9, .inl fun _ => 0) := cel_iz Y (by decide +kernel) (by decide +kernel) (by decide) (fun k => m0_z (by decide))
theorem cX_81 (Y : YT) : cel Y 81 (M0 ((81 : Nat) : Int)) = .inl (Y.2.1 20, 9, .inl fun _ => 0) := cel_iz Y (by decide +kernel) (by decide +kernel) (by decide) (fun k => m0_z (by decide))
theorem cX_82 (Y : YT) : cel Y 82 (M0 ((82 : Nat) : Int)) = .inl (Y.2.1 20, 9, .inl fun _ => 0) := cel_iz Y (by decide +kernel) (by decide +kernel) (by decide) (fun k => m0_z (by decide))
theorem cX_83 (Y : YT) : cel Y 83 (M0 ((83 : Nat) : Int)) = .inr (6, [.int 0, .ref (Y.2.2.1 84), .int 0, .ref (Y.2.2.1 85), .int 0]) := (cel_o Y (M0 ((83 : Nat) : Int)) (c := 6) (by decide +kernel) (by decide)).trans (congrArg (fun l => (.inr (6, l) : va_E)) (fvz_6 Y 83 (fun k => m0_z (by decide))))
theorem cX_84 (Y : YT) : cel Y 84 (M0 ((84 : Nat) : Int)) = .inl (Y.2.1 20, 6, .inl fun _ => 0) := cel_iz Y (by decide +kernel) (by decide +kernel) (by decide) (fun k => m0_z (by decide))
theorem cX_85 (Y : YT) : cel Y 85 (M0 ((85 : Nat) : Int)) = .inr (5, [.int 0, .ref (Y.2.2.1 86), .ref (Y.2.2.1 87), .ref (Y.2.2.1 88)]) := (cel_o Y (M0 ((85 : Nat) : Int)) (c := 5) (by decide +kernel) (by decide)).trans (congrArg (fun l => (.inr (5, l) : va_E)) (fvz_5 Y 85 (fun k => m0_z (by decide))))
theorem cX_86 (Y : YT) : cel Y 86 (M0 ((86 : Nat) : Int)) = .inl (Y.2.1 20, 9, .inl fun _ => 0) := cel_iz Y (by decide +kernel) (by decide +kernel) (by decide) (fun k => m0_z (by decide))
theorem cX_87 (Y : YT) : cel Y 87 (M0 ((87 : Nat) : Int)) = .inl (Y.2.1 20, 9, .inl fun _ => 0) := cel_iz Y (by decide +kernel) (by decide +kernel) (by decide) (fun k => m0_z (by decide))
theorem cX_88 (Y : YT) : cel Y 88 (M0 ((88 : Nat) : Int)) = .inl (Y.2.1 20, 9, .inl fun _ => 0) := cel_iz Y (by decide +kernel) (by decide +kernel) (by decide) (fun k => m0_z (by decide))
theorem cX_89 (Y : YT) : cel Y 89 (M0 ((89 : Nat) : Int)) = .inr (6, [.int 0, .ref (Y.2.2.1 90), .int 0, .ref (Y.2.2.1 91), .int 0]) := (cel_o Y (M0 ((89 : Nat) : Int)) (c := 6) (by decide +kernel) (by decide)).trans (congrArg (fun l => (.inr (6, l) : va_E)) (fvz_6 Y 89 (fun k => m0_z (by decide))))
theorem cX_90 (Y : YT) : cel Y 90 (M0 ((90 : Nat) : Int)) = .inl (Y.2.1 20, 6, .inl fun _ => 0) := cel_iz Y (by decide +kernel) (by decide +kernel) (by decide) (fun k => m0_z (by decide))
theorem cX_91 (Y : YT) : cel Y 91 (M0 ((91 : Nat) : Int)) = .inr (5, [.int 0, .ref (Y.2.2.1 92), .ref (Y.2.2.1 93), .ref (Y.2.2.1 94)]) := (cel_o Y (M0 ((91 : Nat) : Int)) (c := 5) (by decide +kernel) (by decide)).trans (congrArg (fun l => (.inr (5, l) : va_E)) (fvz_5 Y 91 (fun k => m0_z (by decide))))
theorem cX_92 (Y : YT) : cel Y 92 (M0 ((92 : Nat) : Int)) = .inl (Y.2.1 20, 9, .inl fun _ => 0) := cel_iz Y (by decide +kernel) (by decide +kernel) (by decide) (fun k => m0_z (by decide))
theorem cX_93 (Y : YT) : cel Y 93 (M0 ((93 : Nat) : Int)) = .inl (Y.2.1 20, 9, .inl fun _ => 0) := cel_iz Y (by decide +kernel) (by decide +kernel) (by decide) (fun k => m0_z (by decide))
theorem cX_94 (Y : YT) : cel Y 94 (M0 ((94 : Nat) : Int)) = .inl (Y.2.1 20, 9, .inl fun _ => 0) := cel_iz Y (by decide +kernel) (by decide +kernel) (by decide) (fun k => m0_z (by decide))
theorem cX_95 (Y : YT) : cel Y 95 (M0 ((95 : Nat) : Int)) = .inr (6, [.int 0, .ref (Y.2.2.1 96), .int 0, .ref (Y.2.2.1 97), .int 0]) := (cel_o Y (M0 ((95 : Nat) : Int)) (c := 6) (by decide +kernel) (by decide)).trans (congrArg (fun l => (.inr (6, l) : va_E)) (fvz_6 Y 95 (fun k => m0_z (by decide))))
theorem cX_96 (Y : YT) : cel Y 96 (M0 ((96 : Nat) : Int)) = .inl (Y.2.1 20, 6, .inl fun _ => 0) := cel_iz Y (by decide +kernel) (by decide +kernel) (by decide) (fun k => m0_z (by decide))
theorem cX_97 (Y : YT) : cel Y 97 (M0 ((97 : Nat) : Int)) = .inr (5, [.int 0, .ref (Y.2.2.1 98), .ref (Y.2.2.1 99), .ref (Y.2.2.1 100)]) := (cel_o Y (M0 ((97 : Nat) : Int)) (c := 5) (by decide +kernel) (by decide)).trans (congrArg (fun l => (.inr (5, l) : va_E)) (fvz_5 Y 97 (fun k => m0_z (by decide))))
theorem cX_98 (Y : YT) : cel Y 98 (M0 ((98 : Nat) : Int)) = .inl (Y.2.1 20, 9, .inl fun _ => 0) := cel_iz Y (by decide +kernel) (by decide +kernel) (by decide) (fun k => m0_z (by decide))
theorem cX_99 (Y : YT) : cel Y 99 (M0 ((99 : Nat) : Int)) = .inl (Y.2.1 20, 9, .inl fun _ => 0) := cel_iz Y (by decide +kernel) (by decide +kernel) (by decide) (fun k => m0_z (by decide))
theorem cX_100 (Y : YT) : cel Y 100 (M0 ((100 : Nat) : Int)) = .inl (Y.2.1 20, 9, .inl fun _ => 0) := cel_iz Y (by decide +kernel) (by decide +kernel) (by decide) (fun k => m0_z (by decide))
theorem cX_101 (Y : YT) : cel Y 101 (M0 ((101 : Nat) : Int)) = .inr (6, [.int 0, .ref (Y.2.2.1 102), .int 0, .ref (Y.2.2.1 103), .int 0]) := (cel_o Y (M0 ((101 : Nat) : Int)) (c := 6) (by decide +kernel) (by decide)).trans (congrArg (fun l => (.inr (6, l) : va_E)) (fvz_6 Y 101 (fun k => m0_z (by decide))))
theorem cX_102 (Y : YT) : cel Y 102 (M0 ((102 : Nat) : Int)) = .inl (Y.2.1 20, 6, .inl fun _ => 0) := cel_iz Y (by decide +kernel) (by decide +kernel) (by decide) (fun k => m0_z (by decide))
theorem cX_103 (Y : YT) : cel Y 103 (M0 ((103 : Nat) : Int)) = .inr (5, [.int 0, .ref (Y.2.2.1 104), .ref (Y.2.2.1 105), .ref (Y.2.2.1 106)]) := (cel_o Y (M0 ((103 : Nat) : Int)) (c := 5) (by decide +kernel) (by decide)).trans (congrArg (fun l => (.inr (5, l) : va_E)) (fvz_5 Y 103 (fun k => m0_z (by decide))))
theorem cX_104 (Y : YT) : cel Y 104 (M0 ((104 : Nat) : Int)) = .inl (Y.2.1 20, 9, .inl fun _ => 0) := cel_iz Y (by decide +kernel) (by decide +kernel) (by decide) (fun k => m0_z (by decide))
theorem cX_105 (Y : YT) : cel Y 105 (M0 ((105 : Nat) : Int)) = .inl (Y.2.1 20, 9, .inl fun _ => 0) := cel_iz Y (by decide +kernel) (by decide +kernel) (by decide) (fun k => m0_z (by decide))
theorem cX_106 (Y : YT) : cel Y 106 (M0 ((106 : Nat) : Int)) = .inl (Y.2.1 20, 9, .inl fun _ => 0) := cel_iz Y (by decide +kernel) (by decide +kernel) (by decide) (fun k => m0_z (by decide))
theorem cX_107 (Y : YT) : cel Y 107 (M0 ((107 : Nat) : Int)) = .inr (6, [.int 0, .ref (Y.2.2.1 108), .int 0, .ref (Y.2.2.1 109), .int 0]) := (cel_o Y (M0 ((107 : Nat) : Int)) (c := 6) (by decide +kernel) (by decide)).trans (congrArg (fun l => (.inr (6, l) : va_E)) (fvz_6 Y 107 (fun k => m0_z (by decide))))
theorem cX_108 (Y : YT) : cel Y 108 (M0 ((108 : Nat) : Int)) = .inl (Y.2.1 20, 6, .inl fun _ => 0) := cel_iz Y (by decide +kernel) (by decide +kernel) (by decide) (fun k => m0_z (by decide))
theorem cX_109 (Y : YT) : cel Y 109 (M0 ((109 : Nat) : Int)) = .inr (5, [.int 0, .ref (Y.2.2.1 110), .ref (Y.2.2.1 111), .ref (Y.2.2.1 112)]) := (cel_o Y (M0 ((109 : Nat) : Int)) (c := 5) (by decide +kernel) (by decide)).trans (congrArg (fun l => (.inr (5, l) : va_E)) (fvz_5 Y 109 (fun k => m0_z (by decide))))
theorem cX_110 (Y : YT) : cel Y 110 (M0 ((110 : Nat) : Int)) = .inl (Y.2.1 20, 9, .inl fun _ => 0) := cel_iz Y (by decide +kernel) (by decide +kernel) (by decide) (fun k => m0_z (by decide))
theorem cX_111 (Y : YT) : cel Y 111 (M0 ((111 : Nat) : Int)) = .inl (Y.2.1 20, 9, .inl fun _ => 0) := cel_iz Y (by decide +kernel) (by decide +kernel) (by decide) (fun k => m0_z (by decide))
theorem cX_112 (Y : YT) : cel Y 112 (M0 ((112 : Nat) : Int)) = .inl (Y.2.1 20, 9, .inl fun _ => 0) := cel_iz Y (by decide +kernel) (by decide +kernel) (by decide) (fun k => m0_z (by decide))
theorem cX_113 (Y : YT) : cel Y 113 (M0 ((113 : Nat) : Int)) = .inr (6, [.int 0, .ref (Y.2.2.1 114), .int 0, .ref (Y.2.2.1 115), .int 0]) := (cel_o Y (M0 ((113 : Nat) : Int)) (c := 6) (by decide +kernel) (by decide)).trans (congrArg (fun l => (.inr (6, l) : va_E)) (fvz_6 Y 113 (fun k => m0_z (by decide))))
theorem cX_114 (Y : YT) : cel Y 114 (M0 ((114 : Nat) : Int)) = .inl (Y.2.1 20, 6, .inl fun _ => 0) := cel_iz Y (by decide +kernel) (by decide +kernel) (by decide) (fun k => m0_z (by decide))
theorem cX_115 (Y : YT) : cel Y 115 (M0 ((115 : Nat) : Int)) = .inr (5, [.int 0, .ref (Y.2.2.1 116), .ref (Y.2.2.1 117), .ref (Y.2.2.1 118)]) := (cel_o Y (M0 ((115 : Nat) : Int)) (c := 5) (by decide +kernel) (by decide)).trans (congrArg (fun l => (.inr (5, l) : va_E)) (fvz_5 Y 115 (fun k => m0_z (by decide))))
theorem cX_116 (Y : YT) : cel Y 116 (M0 ((116 : Nat) : Int)) = .inl (Y.2.1 20, 9, .inl fun _ => 0) := cel_iz Y (by decide +kernel) (by decide +kernel) (by decide) (fun k => m0_z (by decide))
theorem cX_117 (Y : YT) : cel Y 117 (M0 ((117 : Nat) : Int)) = .inl (Y.2.1 20, 9, .inl fun _ => 0) := cel_iz Y (by decide +kernel) (by decide +kernel) (by decide) (fun k => m0_z (by decide))
theorem cX_118 (Y : YT) : cel Y 118 (M0 ((118 : Nat) : Int)) = .inl (Y.2.1 20, 9, .inl fun _ => 0) := cel_iz Y (by decide +kernel) (by decide +kernel) (by decide) (fun k => m0_z (by decide))
theorem cX_119 (Y : YT) : cel Y 119 (M0 ((119 : Nat) : Int)) = .inr (6, [.int 0, .ref (Y.2.2.1 120), .int 0, .ref (Y.2.2.1 121), .int 0]) := (cel_o Y (M0 ((119 : Nat) : Int)) (c := 6) (by decide +kernel) (by decide)).trans (congrArg (fun l => (.inr (6, l) : va_E)) (fvz_6 Y 119 (fun k => m0_z (by decide))))
theorem cX_120 (Y : YT) : cel Y 120 (M0 ((120 : Nat) : Int)) = .inl (Y.2.1 20, 6, .inl fun _ => 0) := cel_iz Y (by decide +kernel) (by decide +kernel) (by decide) (fun k => m0_z (by decide))
theorem cX_121 (Y : YT) : cel Y 121 (M0 ((121 : Nat) : Int)) = .inr (5, [.int 0, .ref (Y.2.2.1 122), .ref (Y.2.2.1 123), .ref (Y.2.2.1 124)]) := (cel_o Y (M0 ((121 : Nat) : Int)) (c := 5) (by decide +kernel) (by decide)).trans (congrArg (fun l => (.inr (5, l) : va_E)) (fvz_5 Y 121 (fun k => m0_z (by decide))))
theorem cX_122 (Y : YT) : cel Y 122 (M0 ((122 : Nat) : Int)) = .inl (Y.2.1 20, 9, .inl fun _ => 0) := cel_iz Y (by decide +kernel) (by decide +kernel) (by decide) (fun k => m0_z (by decide))
theorem cX_123 (Y : YT) : cel Y 123 (M0 ((123 : Nat) : Int)) = .inl (Y.2.1 20, 9, .inl fun _ => 0) := cel_iz Y (by decide +kernel) (by decide +kernel) (by decide) (fun k => m0_z (by decide))
theorem cX_124 (Y : YT) : cel Y 124 (M0 ((124 : Nat) : Int)) = .inl (Y.2.1 20, 9, .inl fun _ => 0) := cel_iz Y (by decide +kernel) (by decide +kernel) (by decide) (fun k => m0_z (by decide))
theorem cX_125 (Y : YT) : cel Y 125 (M0 ((125 : Nat) : Int)) = .inr (6, [.int 0, .ref (Y.2.2.1 126), .int 0, .ref (Y.2.2.1 127), .int 0]) := (cel_o Y (M0 ((125 : Nat) : Int)) (c := 6) (by decide +kernel) (by decide)).trans (congrArg (fun l => (.inr (6, l) : va_E)) (fvz_6 Y 125 (fun k => m0_z (by decide))))
theorem cX_126 (Y : YT) : cel Y 126 (M0 ((126 : Nat) : Int)) = .inl (Y.2.1 20, 6, .inl fun _ => 0) := cel_iz Y (by decide +kernel) (by decide +kernel) (by decide) (fun k => m0_z (by decide))
theorem cX_127 (Y : YT) : cel Y 127 (M0 ((127 : Nat) : Int)) = .inr (5, [.int 0, .ref (Y.2.2.1 128), .ref (Y.2.2.1 129), .ref (Y.2.2.1 130)]) := (cel_o Y (M0 ((127 : Nat) : Int)) (c := 5) (by decide +kernel) (by decide)).trans (congrArg (fun l => (.inr (5, l) : va_E)) (fvz_5 Y 127 (fun k => m0_z (by decide))))
theorem cX_128 (Y : YT) : cel Y 128 (M0 ((128 : Nat) : Int)) = .inl (Y.2.1 20, 9, .inl fun _ => 0) := cel_iz Y (by decide +kernel) (by decide +kernel) (by decide) (fun k => m0_z (by decide))
theorem cX_129 (Y : YT) : cel Y 129 (M0 ((129 : Nat) : Int)) = .inl (Y.2.1 20, 9, .inl fun _ => 0) := cel_iz Y (by decide +kernel) (by decide +kernel) (by decide) (fun k => m0_z (by decide))
theorem cX_130 (Y : YT) : cel Y 130 (M0 ((130 : Nat) : Int)) = .inl (Y.2.1 20, 9, .inl fun _ => 0) := cel_iz Y (by decide +kernel) (by decide +kernel) (by decide) (fun k => m0_z (by decide))
theorem cX_131 (Y : YT) : cel Y 131 (M0 ((131 : Nat) : Int)) = .inr (6, [.int 0, .ref (Y.2.2.1 132), .int 0, .ref (Y.2.2.1 133), .int 0]) := (cel_o Y (M0 ((131 : Nat) : Int)) (c := 6) (by decide +kernel) (by decide)).trans (congrArg (fun l => (.inr (6, l) : va_E)) (fvz_6 Y 131 (fun k => m0_z (by decide))))
theorem cX_132 (Y : YT) : cel Y 132 (M0 ((132 : Nat) : Int)) = .inl (Y.2.1 20, 6, .inl fun _ => 0) := cel_iz Y (by decide +kernel) (by decide +kernel) (by decide) (fun k => m0_z (by decide))
theorem cX_133 (Y : YT) : cel Y 133 (M0 ((133 : Nat) : Int)) = .inr (5, [.int 0, .ref (Y.2.2.1 134), .ref (Y.2.2.1 135), .ref (Y.2.2.1 136)]) := (cel_o Y (M0 ((133 : Nat) : Int)) (c := 5) (by decide +kernel) (by decide)).trans (congrArg (fun l => (.inr (5, l) : va_E)) (fvz_5 Y 133 (fun k => m0_z (by decide))))
theorem cX_134 (Y : YT) : cel Y 134 (M0 ((134 : Nat) : Int)) = .inl (Y.2.1 20, 9, .inl fun _ => 0) := cel_iz Y (by decide +kernel) (by decide +kernel) (by decide) (fun k => m0_z (by decide))
theorem cX_135 (Y : YT) : cel Y 135 (M0 ((135 : Nat) : Int)) = .inl (Y.2.1 20, 9, .inl fun _ => 0) := cel_iz Y (by decide +kernel) (by decide +kernel) (by decide) (fun k => m0_z (by decide))
theorem cX_136 (Y : YT) : cel Y 136 (M0 ((136 : Nat) : Int)) = .inl (Y.2.1 20, 9, .inl fun _ => 0) := cel_iz Y (by decide +kernel) (by decide +kernel) (by decide) (fun k => m0_z (by decide))
theorem cX_137 (Y : YT) : cel Y 137 (M0 ((137 : Nat) : Int)) = .inr (6, [.int 0, .ref (Y.2.2.1 138), .int 0, .ref (Y.2.2.1 139), .int 0]) := (cel_o Y (M0 ((137 : Nat) : Int)) (c := 6) (by decide +kernel) (by decide)).trans (congrArg (fun l => (.inr (6, l) : va_E)) (fvz_6 Y 137 (fun k => m0_z (by decide))))
theorem cX_138 (Y : YT) : cel Y 138 (M0 ((138 : Nat) : Int)) = .inl (Y.2.1 20, 6, .inl fun _ => 0) := cel_iz Y (by decide +kernel) (by decide +kernel) (by decide) (fun k => m0_z (by decide))
theorem cX_139 (Y : YT) : cel Y 139 (M0 ((139 : Nat) : Int)) = .inr (5, [.int 0, .ref (Y.2.2.1 140), .ref (Y.2.2.1 141), .ref (Y.2.2.1 142)]) := (cel_o Y (M0 ((139 : Nat) : Int)) (c := 5) (by decide +kernel) (by decide)).trans (congrArg (fun l => (.inr (5, l) : va_E)) (fvz_5 Y 139 (fun k => m0_z (by decide))))
theorem cX_140 (Y : YT) : cel Y 140 (M0 ((140 : Nat) : Int)) = .inl (Y.2.1 20, 9, .inl fun _ => 0) := cel_iz Y (by decide +kernel) (by decide +kernel) (by decide) (fun k => m0_z (by decide))
theorem cX_141 (Y : YT) : cel Y 141 (M0 ((141 : Nat) : Int)) = .inl (Y.2.1 20, 9, .inl fun _ => 0) := cel_iz Y (by decide +kernel) (by decide +kernel) (by decide) (fun k => m0_z (by decide))
theorem cX_142 (Y : YT) : cel Y 142 (M0 ((142 : Nat) : Int)) = .inl (Y.2.1 20, 9, .inl fun _ => 0) := cel_iz Y (by decide +kernel) (by decide +kernel) (by decide) (fun k => m0_z (by decide))
theorem cX_143 (Y : YT) : cel Y 143 (M0 ((143 : Nat) : Int)) = .inr (6, [.int 0, .ref (Y.2.2.1 144), .int 0, .ref (Y.2.2.1 145), .int 0]) := (cel_o Y (M0 ((143 : Nat) : Int)) (c := 6) (by decide +kernel) (by decide)).trans (congrArg (fun l => (.inr (6, l) : va_E)) (fvz_6 Y 143 (fun k => m0_z (by decide))))
theorem cX_144 (Y : YT) : cel Y 144 (M0 ((144 : Nat) : Int)) = .inl (Y.2.1 20, 6, .inl fun _ => 0) := cel_iz Y (by decide +kernel) (by decide +kernel) (by decide) (fun k => m0_z (by decide))
theorem cX_145 (Y : YT) : cel Y 145 (M0 ((145 : Nat) : Int)) = .inr (5, [.int 0, .ref (Y.2.2.1 146), .ref (Y.2.2.1 147), .ref (Y.2.2.1 148)]) := (cel_o Y (M0 ((145 : Nat) : Int)) (c := 5) (by decide +kernel) (by decide)).trans (congrArg (fun l => (.inr (5, l) : va_E)) (fvz_5 Y 145 (fun k => m0_z (by decide))))
theorem cX_146 (Y : YT) : cel Y 146 (M0 ((146 : Nat) : Int)) = .inl (Y.2.1 20, 9, .inl fun _ => 0) := cel_iz Y (by decide +kernel) (by decide +kernel) (by decide) (fun k => m0_z (by decide))
theorem cX_147 (Y : YT) : cel Y 147 (M0 ((147 : Nat) : Int)) = .inl (Y.2.1 20, 9, .inl fun _ => 0) := cel_iz Y (by decide +kernel) (by decide +kernel) (by decide) (fun k => m0_z (by decide))
theorem cX_148 (Y : YT) : cel Y 148 (M0 ((148 : Nat) : Int)) = .inl (Y.2.1 20, 9, .inl fun _ => 0) := cel_iz Y (by decide +kernel) (by decide +kernel) (by decide) (fun k => m0_z (by decide))
theorem cX_149 (Y : YT) : cel Y 149 (M0 ((149 : Nat) : Int)) = .inr (6, [.int 0, .ref (Y.2.2.1 150), .int 0, .ref (Y.2.2.1 151), .int 0]) := (cel_o Y (M0 ((149 : Nat) : Int)) (c := 6) (by decide +kernel) (by decide)).trans (congrArg (fun l => (.inr (6, l) : va_E)) (fvz_6 Y 149 (fun k => m0_z (by decide))))
theorem cX_150 (Y : YT) : cel Y 150 (M0 ((150 : Nat) : Int)) = .inl (Y.2.1 20, 6, .inl fun _ => 0) := cel_iz Y (by decide +kernel) (by decide +kernel) (by decide) (fun k => m0_z (by decide))
theorem cX_151 (Y : YT) : cel Y 151 (M0 ((151 : Nat) : Int)) = .inr (5, [.int 0, .ref (Y.2.2.1 152), .ref (Y.2.2.1 153), .ref (Y.2.2.1 154)]) := (cel_o Y (M0 ((151 : Nat) : Int)) (c := 5) (by decide +kernel) (by decide)).trans (congrArg (fun l => (.inr (5, l) : va_E)) (fvz_5 Y 151 (fun k => m0_z (by decide))))
theorem cX_152 (Y : YT) : cel Y 152 (M0 ((152 : Nat) : Int)) = .inl (Y.2.1 20, 9, .inl fun _ => 0) := cel_iz Y (by decide +kernel) (by decide +kernel) (by decide) (fun k => m0_z (by decide))
theorem cX_153 (Y : YT) : cel Y 153 (M0 ((153 : Nat) : Int)) = .inl (Y.2.1 20, 9, .inl fun _ => 0) := cel_iz Y (by decide +kernel) (by decide +kernel) (by decide) (fun k => m0_z (by decide))
theorem cX_154 (Y : YT) : cel Y 154 (M0 ((154 : Nat) : Int)) = .inl (Y.2.1 20, 9, .inl fun _ => 0) := cel_iz Y (by decide +kernel) (by decide +kernel) (by decide) (fun k => m0_z (by decide))
theorem cX_155 (Y : YT) : cel Y 155 (M0 ((155 : Nat) : Int)) = .inr (6, [.int 0, .ref (Y.2.2.1 156), .int 0, .ref (Y.2.2.1 157), .int 0]) := (cel_o Y (M0 ((155 : Nat) : Int)) (c := 6) (by decide +kernel) (by decide)).trans (congrArg (fun l => (.inr (6, l) : va_E)) (fvz_6 Y 155 (fun k => m0_z (by decide))))
theorem cX_156 (Y : YT) : cel Y 156 (M0 ((156 : Nat) : Int)) = .inl (Y.2.1 20, 6, .inl fun _ => 0) := cel_iz Y (by decide +kernel) (by decide +kernel) (by decide) (fun k => m0_z (by decide))
theorem cX_157 (Y : YT) : cel Y 157 (M0 ((157 : Nat) : Int)) = .inr (5, [.int 0, .ref (Y.2.2.1 158), .ref (Y.2.2.1 159), .ref (Y.2.2.1 160)]) := (cel_o Y (M0 ((157 : Nat) : Int)) (c := 5) (by decide +kernel) (by decide)).trans (congrArg (fun l => (.inr (5, l) : va_E)) (fvz_5 Y 157 (fun k => m0_z (by decide))))
theorem cX_158 (Y : YT) : cel Y 158 (M0 ((158 : Nat) : Int)) = .inl (Y.2.1 20, 9, .inl fun _ => 0) := cel_iz Y (by decide +kernel) (by decide +kernel) (by decide) (fun k => m0_z (by decide))
theorem cX_159 (Y : YT) : cel Y 159 (M0 ((159 : Nat) : Int)) = .inl (Y.2.1 20, 9, .inl fun _ => 0) := cel_iz Y (by decide +kernel) (by decide +kernel) (by decide) (fun k => m0_z (by decide))
theorem cX_160 (Y : YT) : cel Y 160 (M0 ((160 : Nat) : Int)) = .inl (Y.2.1 20, 9, .inl fun _ => 0) := cel_iz Y (by decide +kernel) (by decide +kernel) (by decide) (fun k => m0_z (by decide))
theorem cX_161 (Y : YT) : cel Y 161 (M0 ((161 : Nat) : Int)) = .inr (6, [.int 0, .ref (Y.2.2.1 162), .int 0, .ref (Y.2.2.1 163), .int 0]) := (cel_o Y (M0 ((161 : Nat) : Int)) (c := 6) (by decide +kernel) (by decide)).trans (congrArg (fun l => (.inr (6, l) : va_E)) (fvz_6 Y 161 (fun k => m0_z (by decide))))
theorem cX_162 (Y : YT) : cel Y 162 (M0 ((162 : Nat) : Int)) = .inl (Y.2.1 20, 6, .inl fun _ => 0) := cel_iz Y (by decide +kernel) (by decide +kernel) (by decide) (fun k => m0_z (by decide))
theorem cX_163 (Y : YT) : cel Y 163 (M0 ((163 : Nat) : Int)) = .inr (5, [.int 0, .ref (Y.2.2.1 164), .ref (Y.2.2.1 165), .ref (Y.2.2.1 166)]) := (cel_o Y (M0 ((163 : Nat) : Int)) (c := 5) (by decide +kernel) (by decide)).trans (congrArg (fun l => (.inr (5, l) : va_E)) (fvz_5 Y 163 (fun k => m0_z (by decide))))
theorem cX_164 (Y : YT) : cel Y 164 (M0 ((164 : Nat) : Int)) = .inl (Y.2.1 20, 9, .inl fun _ => 0) := cel_iz Y (by decide +kernel) (by decide +kernel) (by decide) (fun k => m0_z (by decide))
theorem cX_165 (Y : YT) : cel Y 165 (M0 ((165 : Nat) : Int)) = .inl (Y.2.1 20, 9, .inl fun _ => 0) := cel_iz Y (by decide +kernel) (by decide +kernel) (by decide) (fun k => m0_z (by decide))
theorem cX_166 (Y : YT) : cel Y 166 (M0 ((166 : Nat) : Int)) = .inl (Y.2.1 20, 9, .inl fun _ => 0) := cel_iz Y (by decide +kernel) (by decide +kernel) (by decide) (fun k => m0_z (by decide))
theorem cX_167 (Y : YT) : cel Y 167 (M0 ((167 : Nat) : Int)) = .inr (6, [.int 0, .ref (Y.2.2.1 168), .int 0, .ref (Y.2.2.1 169), .int 0]) := (cel_o Y (M0 ((167 : Nat) : Int)) (c := 6) (by decide +kernel) (by decide)).trans (congrArg (fun l => (.inr (6, l) : va_E)) (fvz_6 Y 167 (fun k => m0_z (by decide))))
theorem cX_168 (Y : YT) : cel Y 168 (M0 ((168 : Nat) : Int)) = .inl (Y.2.1 20, 6, .inl fun _ => 0) := cel_iz Y (by decide +kernel) (by decide +kernel) (by decide) (fun k => m0_z (by decide))
theorem cX_169 (Y : YT) : cel Y 169 (M0 ((169 : Nat) : Int)) = .inr (5, [.int 0, .ref (Y.2.2.1 170), .ref (Y.2.2.1 171), .ref (Y.2.2.1 172)]) := (cel_o Y (M0 ((169 : Nat) : Int)) (c := 5) (by decide +kernel) (by decide)).trans (congrArg (fun l => (.inr (5, l) : va_E)) (fvz_5 Y 169 (fun k => m0_z (by decide))))
theorem cX_170 (Y : YT) : cel Y 170 (M0 ((170 : Nat) : Int)) = .inl (Y.2.1 20, 9, .inl fun _ => 0) := cel_iz Y (by decide +kernel) (by decide +kernel) (by decide) (fun k => m0_z (by decide))
theorem cX_171 (Y : YT) : cel Y 171 (M0 ((171 : Nat) : Int)) = .inl (Y.2.1 20, 9, .inl fun _ => 0) := cel_iz Y (by decide +kernel) (by decide +kernel) (by decide) (fun k => m0_z (by decide))
theorem cX_172 (Y : YT) : cel Y 172 (M0 ((172 : Nat) : Int)) = .inl (Y.2.1 20, 9, .inl fun _ => 0) := cel_iz Y (by decide +kernel) (by decide +kernel) (by decide) (fun k => m0_z (by decide))
theorem cX_173 (Y : YT) : cel Y 173 (M0 ((173 : Nat) : Int)) = .inr (6, [.int 0, .ref (Y.2.2.1 174), .int 0, .ref (Y.2.2.1 175), .int 0]) := (cel_o Y (M0 ((173 : Nat) : Int)) (c := 6) (by decide +kernel) (by decide)).trans (congrArg (fun l => (.inr (6, l) : va_E)) (fvz_6 Y 173 (fun k => m0_z (by decide))))
theorem cX_174 (Y : YT) : cel Y 174 (M0 ((174 : Nat) : Int)) = .inl (Y.2.1 20, 6, .inl fun _ => 0) := cel_iz Y (by decide +kernel) (by decide +kernel) (by decide) (fun k => m0_z (by decide))
theorem cX_175 (Y : YT) : cel Y 175 (M0 ((175 : Nat) : Int)) = .inr (5, [.int 0, .ref (Y.2.2.1 176), .ref (Y.2.2.1 177), .ref (Y.2.2.1 178)]) := (cel_o Y (M0 ((175 : Nat) : Int)) (c := 5) (by decide +kernel) (by decide)).trans (congrArg (fun l => (.inr (5, l) : va_E)) (fvz_5 Y 175 (fun k => m0_z (by decide))))
theorem cX_176 (Y : YT) : cel Y 176 (M0 ((176 : Nat) : Int)) = .inl (Y.2.1 20, 9, .inl fun _ => 0) := cel_iz Y (by decide +kernel) (by decide +kernel) (by decide) (fun k => m0_z (by decide))
theorem cX_177 (Y : YT) : cel Y 177 (M0 ((177 : Nat) : Int)) = .inl (Y.2.1 20, 9, .inl fun _ => 0) := cel_iz Y (by decide +kernel) (by decide +kernel) (by decide) (fun k => m0_z (by decide))
theorem cX_178 (Y : YT) : cel Y 178 (M0 ((178 : Nat) : Int)) = .inl (Y.2.1 20, 9, .inl fun _ => 0) := cel_iz Y (by decide +kernel) (by decide +kernel) (by decide) (fun k => m0_z (by decide))
theorem cX_179 (Y : YT) : cel Y 179 (M0 ((179 : Nat) : Int)) = .inr (6, [.int 0, .ref (Y.2.2.1 180), .int 0, .ref (Y.2.2.1 181), .int 0]) := (cel_o Y (M0 ((179 : Nat) : Int)) (c := 6) (by decide +kernel) (by decide)).trans (congrArg (fun l => (.inr (6, l) : va_E)) (fvz_6 Y 179 (fun k => m0_z (by decide))))
theorem cX_180 (Y : YT) : cel Y 180 (M0 ((180 : Nat) : Int)) = .inl (Y.2.1 20, 6, .inl fun _ => 0) := cel_iz Y (by decide +kernel) (by decide +kernel) (by decide) (fun k => m0_z (by decide))
theorem cX_181 (Y : YT) : cel Y 181 (M0 ((181 : Nat) : Int)) = .inr (5, [.int 0, .ref (Y.2.2.1 182), .ref (Y.2.2.1 183), .ref (Y.2.2.1 184)]) := (cel_o Y (M0 ((181 : Nat) : Int)) (c := 5) (by decide +kernel) (by decide)).trans (congrArg (fun l => (.inr (5, l) : va_E)) (fvz_5 Y 181 (fun k => m0_z (by decide))))
theorem cX_182 (Y : YT) : cel Y 182 (M0 ((182 : Nat) : Int)) = .inl (Y.2.1 20, 9, .inl fun _ => 0) := cel_iz Y (by decide +kernel) (by decide +kernel) (by decide) (fun k => m0_z (by decide))
theorem cX_183 (Y : YT) : cel Y 183 (M0 ((183 : Nat) : Int)) = .inl (Y.2.1 20, 9, .inl fun _ => 0) := cel_iz Y (by decide +kernel) (by decide +kernel) (by decide) (fun k => m0_z (by decide))
theorem cX_184 (Y : YT) : cel Y 184 (M0 ((184 : Nat) : Int)) = .inl (Y.2.1 20, 9, .inl fun _ => 0) := cel_iz Y (by decide +kernel) (by decide +kernel) (by decide) (fun k => m0_z (by decide))
theorem cX_185 (Y : YT) : cel Y 185 (M0 ((185 : Nat) : Int)) = .inr (4, [.ref (Y.2.2.1 186), .int 0]) := (cel_o Y (M0 ((185 : Nat) : Int)) (c := 4) (by decide +kernel) (by decide)).trans (congrArg (fun l => (.inr (4, l) : va_E)) (fvz_4 Y 185 (fun k => m0_z (by decide))))
theorem cX_186 (Y : YT) : cel Y 186 (M0 ((186 : Nat) : Int)) = .inl (Y.2.1 20, 40, .inl fun _ => 0) := cel_iz Y (by decide +kernel) (by decide +kernel) (by decide) (fun k => m0_z (by decide))
theorem cX_187 (Y : YT) : cel Y 187 (M0 ((187 : Nat) : Int)) = .inr (0, [.ref (Y.2.2.1 188), .int 0, .ref (Y.2.2.1 189), .ref (Y.2.2.1 197), .int 0, .int 0, .int 0, .int 0]) := (cel_o Y (M0 ((187 : Nat) : Int)) (c := 0) (by decide +kernel) (by decide)).trans (congrArg (fun l => (.inr (0, l) : va_E)) (fvz_0 Y 187 (fun k => m0_z (by decide))))
theorem cX_188 (Y : YT) : cel Y 188 (M0 ((188 : Nat) : Int)) = .inl (Y.2.1 20, 48, .inl fun _ => 0) := cel_iz Y (by decide +kernel) (by decide +kernel) (by decide) (fun k => m0_z (by decide))
theorem cX_190 (Y : YT) : cel Y 190 (M0 ((190 : Nat) : Int)) = .inl (Y.2.1 20, 56, .inl fun _ => 0) := cel_iz Y (by decide +kernel) (by decide +kernel) (by decide) (fun k => m0_z (by decide))
theorem cX_191 (Y : YT) : cel Y 191 (M0 ((191 : Nat) : Int)) = .inl (Y.2.1 20, 56, .inl fun _ => 0) := cel_iz Y (by decide +kernel) (by decide +kernel) (by decide) (fun k => m0_z (by decide))
theorem cX_192 (Y : YT) : cel Y 192 (M0 ((192 : Nat) : Int)) = .inl (Y.2.1 20, 56, .inl fun _ => 0) := cel_iz Y (by decide +kernel) (by decide +kernel) (by decide) (fun k => m0_z (by decide))
theorem cX_193 (Y : YT) : cel Y 193 (M0 ((193 : Nat) : Int)) = .inl (Y.2.1 20, 56, .inl fun _ => 0) := cel_iz Y (by decide +kernel) (by decide +kernel) (by decide) (fun k => m0_z (by decide))
theorem cX_194 (Y : YT) : cel Y 194 (M0 ((194 : Nat) : Int)) = .inl (Y.2.1 20, 56, .inl fun _ => 0) := cel_iz Y (by decide +kernel) (by decide +kernel) (by decide) (fun k => m0_z (by decide))
theorem cX_195 (Y : YT) : cel Y 195 (M0 ((195 : Nat) : Int)) = .inl (Y.2.1 20, 56, .inl fun _ => 0) := cel_iz Y (by decide +kernel) (by decide +kernel) (by decide) (fun k => m0_z (by decide))
theorem cX_196 (Y : YT) : cel Y 196 (M0 ((196 : Nat) : Int)) = .inl (Y.2.1 20, 56, .inl fun _ => 0) := cel_iz Y (by decide +kernel) (by decide +kernel) (by decide) (fun k => m0_z (by decide))
theorem cX_197 (Y : YT) : cel Y 197 (M0 ((197 : Nat) : Int)) = .inl (Y.2.1 20, 7, .inl fun _ => 0) := cel_iz Y (by decide +kernel) (by decide +kernel) (by decide) (fun k => m0_z (by decide))
theorem cX_198 (Y : YT) : cel Y 198 (M0 ((198 : Nat) : Int)) = .inl (Y.2.1 20, 6, .inl fun _ => 0) := cel_iz Y (by decide +kernel) (by decide +kernel) (by decide) (fun k => m0_z (by decide))
theorem cX_199 (Y : YT) : cel Y 199 (M0 ((199 : Nat) : Int)) = .inr (12, .ref (Y.2.2.1 200) :: vI (0) :: vI (0) :: vI (0) :: vI (0) :: vI (0) :: vI (0) :: vL (0) :: vI (0) :: vI (-1) :: vI (0) :: vI (-1) :: vI (-1) :: vI (0) :: .ref (Y.2.2.1 201) :: .ref (Y.2.2.1 202) :: .ref (Y.2.2.1 203) :: .ref (Y.2.2.1 204) :: .ref (Y.2.2.1 205) :: .ref (Y.2.2.1 206) :: .ref (Y.2.2.1 207) :: .ref (Y.2.2.1 208) :: .ref (Y.2.2.1 209) :: .ref (Y.2.2.1 210) :: .ref (Y.2.2.1 211) :: .ref (Y.2.2.1 212) :: .ref (Y.2.2.1 213) :: .ref (Y.2.2.1 214) :: .ref (Y.2.2.1 215) :: .ref (Y.2.2.1 216) :: .ref (Y.2.2.1 217) :: .ref (Y.2.2.1 218) :: .ref (Y.2.2.1 219) :: vI (0) :: vI (1) :: vI (0) :: .ref (Y.2.2.1 220) :: .ref (Y.2.2.1 221) :: .ref (Y.2.2.1 222) :: .ref (Y.2.2.1 223) :: .ref (Y.2.2.1 224) :: vI (0) :: vI (0) :: .ref (Y.2.2.1 225) :: vI (0) :: vI (0) :: .ref (Y.2.2.1 226) :: .ref (Y.2.2.1 227) :: .ref (Y.2.2.1 228) :: .ref (Y.2.2.1 229) :: .ref (Y.2.2.1 230) :: .ref (Y.2.2.1 231) :: .ref (Y.2.2.1 232) :: .ref (Y.2.2.1 233) :: vI (0) :: vI (0) :: vL (1) :: .ref (Y.2.2.1 234) :: .ref (Y.2.2.1 235) :: .ref (Y.2.2.1 236) :: vI (0) :: .ref (Y.2.2.1 237) :: .ref (Y.2.2.1 238) :: .ref (Y.2.2.1 239) :: .ref (Y.2.2.1 240) :: .ref (Y.2.2.1 241) :: vI (0) :: []) := by
  refine (cel_o Y (M0 ((199 : Nat) : Int)) (c := 12) (by decide +kernel) (by decide)).trans (congrArg (fun l => (.inr (12, l) : va_E)) ?_)
  refine fvk (k1 := 1) rfl (by decide) ?_
  refine fvk (k1 := 2) (congrArg vI (by decide +kernel : M0 ((199 : Nat) : Int) 1 = 0)) (by decide) ?_
  refine fvk (k1 := 3) (congrArg vI (by decide +kernel : M0 ((199 : Nat) : Int) 2 = 0)) (by decide) ?_
  refine fvk (k1 := 4) (congrArg vI (by decide +kernel : M0 ((199 : Nat) : Int) 3 = 0)) (by decide) ?_
  refine fvk (k1 := 5) (congrArg vI (by decide +kernel : M0 ((199 : Nat) : Int) 4 = 0)) (by decide) ?_
  refine fvk (k1 := 6) (congrArg vI (by decide +kernel : M0 ((199 : Nat) : Int) 5 = 0)) (by decide) ?_
  refine fvk (k1 := 7) (congrArg vI (by decide +kernel : M0 ((199 : Nat) : Int) 6 = 0)) (by decide) ?_
  refine fvk (k1 := 8) (congrArg vL (by decide +kernel : M0 ((199 : Nat) : Int) 7 = 0)) (by decide) ?_
  refine fvk (k1 := 9) (congrArg vI (by decide +kernel : M0 ((199 : Nat) : Int) 8 = 0)) (by decide) ?_
  refine fvk (k1 := 10) (congrArg vI (by decide +kernel : M0 ((199 : Nat) : Int) 9 = -1)) (by decide) ?_
  refine fvk (k1 := 11) (congrArg vI (by decide +kernel : M0 ((199 : Nat) : Int) 10 = 0)) (by decide) ?_
  refine fvk (k1 := 12) (congrArg vI (by decide +kernel : M0 ((199 : Nat) : Int) 11 = -1)) (by decide) ?_
  refine fvk (k1 := 13) (congrArg vI (by decide +kernel : M0 ((199 : Nat) : Int) 12 = -1)) (by decide) ?_
  refine fvk (k1 := 14) (congrArg vI (by decide +kernel : M0 ((199 : Nat) : Int) 13 = 0)) (by decide) ?_
  refine fvk (k1 := 15) rfl (by decide) ?_
  refine fvk (k1 := 16) rfl (by decide) ?_
  refine fvk (k1 := 17) rfl (by decide) ?_
  refine fvk (k1 := 18) rfl (by decide) ?_
  refine fvk (k1 := 19) rfl (by decide) ?_
  refine fvk (k1 := 20) rfl (by decide) ?_
  refine fvk (k1 := 21) rfl (by decide) ?_
  refine fvk (k1 := 22) rfl (by decide) ?_
  refine fvk (k1 := 23) rfl (by decide) ?_
  refine fvk (k1 := 24) rfl (by decide) ?_
  refine fvk (k1 := 25) rfl (by decide) ?_
  refine fvk (k1 := 26) rfl (by decide) ?_
  refine fvk (k1 := 27) rfl (by decide) ?_
  refine fvk (k1 := 28) rfl (by decide) ?_
  refine fvk (k1 := 29) rfl (by decide) ?_
  refine fvk (k1 := 30) rfl (by decide) ?_
  refine fvk (k1 := 31) rfl (by decide) ?_
  refine fvk (k1 := 32) rfl (by decide) ?_
  refine fvk (k1 := 33) rfl (by decide) ?_
  refine fvk (k1 := 34) (congrArg vI (by decide +kernel : M0 ((199 : Nat) : Int) 33 = 0)) (by decide) ?_
  refine fvk (k1 := 35) (congrArg vI (by decide +kernel : M0 ((199 : Nat) : Int) 34 = 1)) (by decide) ?_
  refine fvk (k1 := 36) (congrArg vI (by decide +kernel : M0 ((199 : Nat) : Int) 35 = 0)) (by decide) ?_
  refine fvk (k1 := 37) rfl (by decide) ?_
  refine fvk (k1 := 38) rfl (by decide) ?_
  refine fvk (k1 := 39) rfl (by decide) ?_
  refine fvk (k1 := 40) rfl (by decide) ?_
  refine fvk (k1 := 41) rfl (by decide) ?_
  refine fvk (k1 := 42) (congrArg vI (by decide +kernel : M0 ((199 : Nat) : Int) 41 = 0)) (by decide) ?_
  refine fvk (k1 := 43) (congrArg vI (by decide +kernel : M0 ((199 : Nat) : Int) 42 = 0)) (by decide) ?_
  refine fvk (k1 := 44) rfl (by decide) ?_
  refine fvk (k1 := 45) (congrArg vI (by decide +kernel : M0 ((199 : Nat) : Int) 44 = 0)) (by decide) ?_
  refine fvk (k1 := 46) (congrArg vI (by decide +kernel : M0 ((199 : Nat) : Int) 45 = 0)) (by decide) ?_
  refine fvk (k1 := 47) rfl (by decide) ?_
  refine fvk (k1 := 48) rfl (by decide) ?_
  refine fvk (k1 := 49) rfl (by decide) ?_
  refine fvk (k1 := 50) rfl (by decide) ?_
  refine fvk (k1 := 51) rfl (by decide) ?_
  refine fvk (k1 := 52) rfl (by decide) ?_
  refine fvk (k1 := 53) rfl (by decide) ?_
  refine fvk (k1 := 54) rfl (by decide) ?_
  refine fvk (k1 := 55) (congrArg vI (by decide +kernel : M0 ((199 : Nat) : Int) 54 = 0)) (by decide) ?_
  refine fvk (k1 := 56) (congrArg vI (by decide +kernel : M0 ((199 : Nat) : Int) 55 = 0)) (by decide) ?_
  refine fvk (k1 := 57) (congrArg vL (by decide +kernel : M0 ((199 : Nat) : Int) 56 = 1)) (by decide) ?_
  refine fvk (k1 := 58) rfl (by decide) ?_
  refine fvk (k1 := 59) rfl (by decide) ?_
  refine fvk (k1 := 60) rfl (by decide) ?_
  refine fvk (k1 := 61) (congrArg vI (by decide +kernel : M0 ((199 : Nat) : Int) 60 = 0)) (by decide) ?_
  refine fvk (k1 := 62) rfl (by decide) ?_
  refine fvk (k1 := 63) rfl (by decide) ?_
  refine fvk (k1 := 64) rfl (by decide) ?_
  refine fvk (k1 := 65) rfl (by decide) ?_
  refine fvk (k1 := 66) rfl (by decide) ?_
  refine fvk (k1 := 67) (congrArg vI (by decide +kernel : M0 ((199 : Nat) : Int) 66 = 0)) (by decide) ?_
  rfl
theorem cX_200 (Y : YT) : cel Y 200 (M0 ((200 : Nat) : Int)) = .inl (Y.2.1 20, 1800, .inl fun _ => 0) := cel_iz Y (by decide +kernel) (by decide +kernel) (by decide) (fun k => m0_z (by decide))
theorem cX_201 (Y : YT) : cel Y 201 (M0 ((201 : Nat) : Int)) = .inl (Y.2.1 20, 2, .inl fun _ => 0) := cel_iz Y (by decide +kernel) (by decide +kernel) (by decide) (fun k => m0_z (by decide))
theorem cX_202 (Y : YT) : cel Y 202 (M0 ((202 : Nat) : Int)) = .inl (Y.2.1 20, 2, .inl fun _ => 0) := cel_iz Y (by decide +kernel) (by decide +kernel) (by decide) (fun k => m0_z (by decide))
theorem cX_203 (Y : YT) : cel Y 203 (M0 ((203 : Nat) : Int)) = .inl (Y.2.1 20, 98, .inl fun _ => 0) := cel_iz Y (by decide +kernel) (by decide +kernel) (by decide) (fun k => m0_z (by decide))
theorem cX_204 (Y : YT) : cel Y 204 (M0 ((204 : Nat) : Int)) = .inl (Y.2.1 20, 98, .inl fun _ => 0) := cel_iz Y (by decide +kernel) (by decide +kernel) (by decide) (fun k => m0_z (by decide))
theorem cX_205 (Y : YT) : cel Y 205 (M0 ((205 : Nat) : Int)) = .inl (Y.2.1 20, 2, .inl fun _ => 0) := cel_iz Y (by decide +kernel) (by decide +kernel) (by decide) (fun k => m0_z (by decide))
theorem cX_206 (Y : YT) : cel Y 206 (M0 ((206 : Nat) : Int)) = .inl (Y.2.1 20, 12, .inl fun _ => 0) := cel_iz Y (by decide +kernel) (by decide +kernel) (by decide) (fun k => m0_z (by decide))
theorem cX_207 (Y : YT) : cel Y 207 (M0 ((207 : Nat) : Int)) = .inl (Y.2.1 20, 12, .inl fun _ => 0) := cel_iz Y (by decide +kernel) (by decide +kernel) (by decide) (fun k => m0_z (by decide))
theorem cX_208 (Y : YT) : cel Y 208 (M0 ((208 : Nat) : Int)) = .inl (Y.2.1 20, 2, .inl fun _ => 0) := cel_iz Y (by decide +kernel) (by decide +kernel) (by decide) (fun k => m0_z (by decide))
theorem cX_209 (Y : YT) : cel Y 209 (M0 ((209 : Nat) : Int)) = .inl (Y.2.1 20, 2, .inl fun _ => 0) := cel_iz Y (by decide +kernel) (by decide +kernel) (by decide) (fun k => m0_z (by decide))
theorem cX_210 (Y : YT) : cel Y 210 (M0 ((210 : Nat) : Int)) = .inl (Y.2.1 20, 16, .inl fun _ => 0) := cel_iz Y (by decide +kernel) (by decide +kernel) (by decide) (fun k => m0_z (by decide))
theorem cX_211 (Y : YT) : cel Y 211 (M0 ((211 : Nat) : Int)) = .inl (Y.2.1 20, 16, .inl fun _ => 0) := cel_iz Y (by decide +kernel) (by decide +kernel) (by decide) (fun k => m0_z (by decide))
theorem cX_212 (Y : YT) : cel Y 212 (M0 ((212 : Nat) : Int)) = .inl (Y.2.1 20, 16, .inl fun _ => 0) := cel_iz Y (by decide +kernel) (by decide +kernel) (by decide) (fun k => m0_z (by decide))
theorem cX_213 (Y : YT) : cel Y 213 (M0 ((213 : Nat) : Int)) = .inl (Y.2.1 20, 2, .inl fun _ => 0) := cel_iz Y (by decide +kernel) (by decide +kernel) (by decide) (fun k => m0_z (by decide))
theorem cX_215 (Y : YT) : cel Y 215 (M0 ((215 : Nat) : Int)) = .inl (Y.2.1 20, 4, .inl fun _ => 0) := cel_iz Y (by decide +kernel) (by decide +kernel) (by decide) (fun k => m0_z (by decide))
theorem cX_216 (Y : YT) : cel Y 216 (M0 ((216 : Nat) : Int)) = .inl (Y.2.1 20, 3200, .inl fun _ => 0) := cel_iz Y (by decide +kernel) (by decide +kernel) (by decide) (fun k => m0_z (by decide))
theorem cX_217 (Y : YT) : cel Y 217 (M0 ((217 : Nat) : Int)) = .inl (Y.2.1 20, 3200, .inl fun _ => 0) := cel_iz Y (by decide +kernel) (by decide +kernel) (by decide) (fun k => m0_z (by decide))
theorem cX_218 (Y : YT) : cel Y 218 (M0 ((218 : Nat) : Int)) = .inl (Y.2.1 21, 14, .inr (.inl fun _ => 0)) := cel_lz Y (by decide +kernel) (by decide +kernel) (fun k => m0_z (by decide))
theorem cX_219 (Y : YT) : cel Y 219 (M0 ((219 : Nat) : Int)) = .inl (Y.2.1 21, 12, .inr (.inl fun _ => 0)) := cel_lz Y (by decide +kernel) (by decide +kernel) (fun k => m0_z (by decide))
theorem cX_220 (Y : YT) : cel Y 220 (M0 ((220 : Nat) : Int)) = .inl (Y.2.1 20, 20, .inl fun _ => 0) := cel_iz Y (by decide +kernel) (by decide +kernel) (by decide) (fun k => m0_z (by decide))
theorem cX_221 (Y : YT) : cel Y 221 (M0 ((221 : Nat) : Int)) = .inl (Y.2.1 20, 20, .inl fun _ => 0) := cel_iz Y (by decide +kernel) (by decide +kernel) (by decide) (fun k => m0_z (by decide))
theorem cX_222 (Y : YT) : cel Y 222 (M0 ((222 : Nat) : Int)) = .inl (Y.2.1 22, 20, .inl fun _ => 0) := cel_iz Y (by decide +kernel) (by decide +kernel) (by decide) (fun k => m0_z (by decide))
theorem cX_223 (Y : YT) : cel Y 223 (M0 ((223 : Nat) : Int)) = .inl (Y.2.1 20, 20, .inl fun _ => 0) := cel_iz Y (by decide +kernel) (by decide +kernel) (by decide) (fun k => m0_z (by decide))
theorem cX_224 (Y : YT) : cel Y 224 (M0 ((224 : Nat) : Int)) = .inl (Y.2.1 20, 20, .inl fun _ => 0) := cel_iz Y (by decide +kernel) (by decide +kernel) (by decide) (fun k => m0_z (by decide))
theorem cX_225 (Y : YT) : cel Y 225 (M0 ((225 : Nat) : Int)) = .inl (Y.2.1 20, 500, .inl fun _ => 0) := cel_iz Y (by decide +kernel) (by decide +kernel) (by decide) (fun k => m0_z (by decide))
theorem cX_226 (Y : YT) : cel Y 226 (M0 ((226 : Nat) : Int)) = .inl (Y.2.1 20, 6, .inl fun _ => 0) := cel_iz Y (by decide +kernel) (by decide +kernel) (by decide) (fun k => m0_z (by decide))
theorem cX_227 (Y : YT) : cel Y 227 (M0 ((227 : Nat) : Int)) = .inl (Y.2.1 20, 22, .inl fun _ => 0) := cel_iz Y (by decide +kernel) (by decide +kernel) (by decide) (fun k => m0_z (by decide))
theorem cX_228 (Y : YT) : cel Y 228 (M0 ((228 : Nat) : Int)) = .inl (Y.2.1 20, 132, .inl fun _ => 0) := cel_iz Y (by decide +kernel) (by decide +kernel) (by decide) (fun k => m0_z (by decide))
theorem cX_229 (Y : YT) : cel Y 229 (M0 ((229 : Nat) : Int)) = .inl (Y.2.1 20, 22, .inl fun _ => 0) := cel_iz Y (by decide +kernel) (by decide +kernel) (by decide) (fun k => m0_z (by decide))
theorem cX_230 (Y : YT) : cel Y 230 (M0 ((230 : Nat) : Int)) = .inl (Y.2.1 20, 22, .inl fun _ => 0) := cel_iz Y (by decide +kernel) (by decide +kernel) (by decide) (fun k => m0_z (by decide))
theorem cX_231 (Y : YT) : cel Y 231 (M0 ((231 : Nat) : Int)) = .inl (Y.2.1 20, 594, .inl fun _ => 0) := cel_iz Y (by decide +kernel) (by decide +kernel) (by decide) (fun k => m0_z (by decide))
theorem cX_232 (Y : YT) : cel Y 232 (M0 ((232 : Nat) : Int)) = .inl (Y.2.1 20, 22, .inl fun _ => 0) := cel_iz Y (by decide +kernel) (by decide +kernel) (by decide) (fun k => m0_z (by decide))
theorem cX_233 (Y : YT) : cel Y 233 (M0 ((233 : Nat) : Int)) = .inl (Y.2.1 20, 2640, .inl fun _ => 0) := cel_iz Y (by decide +kernel) (by decide +kernel) (by decide) (fun k => m0_z (by decide))
theorem cX_234 (Y : YT) : cel Y 234 (M0 ((234 : Nat) : Int)) = .inl (Y.2.1 21, 500, .inr (.inl fun _ => 0)) := cel_lz Y (by decide +kernel) (by decide +kernel) (fun k => m0_z (by decide))
theorem cX_235 (Y : YT) : cel Y 235 (M0 ((235 : Nat) : Int)) = .inl (Y.2.1 20, 12, .inl fun _ => 0) := cel_iz Y (by decide +kernel) (by decide +kernel) (by decide) (fun k => m0_z (by decide))
theorem cX_236 (Y : YT) : cel Y 236 (M0 ((236 : Nat) : Int)) = .inl (Y.2.1 20, 54, .inl fun _ => 0) := cel_iz Y (by decide +kernel) (by decide +kernel) (by decide) (fun k => m0_z (by decide))
theorem cX_237 (Y : YT) : cel Y 237 (M0 ((237 : Nat) : Int)) = .inl (Y.2.1 20, 16, .inl fun _ => 0) := cel_iz Y (by decide +kernel) (by decide +kernel) (by decide) (fun k => m0_z (by decide))
theorem cX_238 (Y : YT) : cel Y 238 (M0 ((238 : Nat) : Int)) = .inl (Y.2.1 20, 16, .inl fun _ => 0) := cel_iz Y (by decide +kernel) (by decide +kernel) (by decide) (fun k => m0_z (by decide))
theorem cX_239 (Y : YT) : cel Y 239 (M0 ((239 : Nat) : Int)) = .inl (Y.2.1 20, 16, .inl fun _ => 0) := cel_iz Y (by decide +kernel) (by decide +kernel) (by decide) (fun k => m0_z (by decide))
theorem cX_240 (Y : YT) : cel Y 240 (M0 ((240 : Nat) : Int)) = .inl (Y.2.1 20, 441, .inl fun _ => 0) := cel_iz Y (by decide +kernel) (by decide +kernel) (by decide) (fun k => m0_z (by decide))
theorem cX_241 (Y : YT) : cel Y 241 (M0 ((241 : Nat) : Int)) = .inl (Y.2.1 20, 60, .inl fun _ => 0) := cel_iz Y (by decide +kernel) (by decide +kernel) (by decide) (fun k => m0_z (by decide))
