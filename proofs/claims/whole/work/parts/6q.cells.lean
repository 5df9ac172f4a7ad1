/-! the cells behind both constructors are those of M0 -/
theorem vI_z : vI 0 = .int 0 := by decide +kernel
theorem iI_z : iI 0 = 0 := by decide +kernel
theorem iL_z : iL 0 = 0 := by decide +kernel
theorem cel_o (Y : YT) {a c : Nat} (m : Int → Int) (h : kdN a = c) (hc : c < 20) : cel Y a m = .inr (c, fv Y m a 0 (ft c)) := by
  subst h
  unfold cel
  rw [if_pos hc]
theorem cei_ (Y : YT) {a c n : Nat} (m : Int → Int) (h : kdN a = c) (hl : lnN a = n) (hc : c = 20 ∨ c = 22) : cel Y a m = .inl (Y.2.1 c, n, .inl fun j => iI (m j)) := by
  subst h
  subst hl
  unfold cel
  rw [if_neg (by omega), if_neg (by omega), if_neg (by omega), if_neg (by omega)]
theorem cel_iz (Y : YT) {a c n : Nat} {m : Int → Int} (h : kdN a = c) (hl : lnN a = n) (hc : c = 20 ∨ c = 22) (hm : ∀ k, m k = 0) : cel Y a m = .inl (Y.2.1 c, n, .inl fun _ => 0) := by
  rw [cei_ Y m h hl hc]
  have e : (fun j : Nat => iI (m j)) = fun _ => 0 := funext fun j => by rw [hm, iI_z]
  rw [e]
theorem cel_lz (Y : YT) {a n : Nat} {m : Int → Int} (h : kdN a = 21) (hl : lnN a = n) (hm : ∀ k, m k = 0) : cel Y a m = .inl (Y.2.1 21, n, .inr (.inl fun _ => 0)) := by
  subst hl
  unfold cel
  rw [h, if_neg (by decide), if_pos rfl]
  have e : (fun j : Nat => iL (m j)) = fun _ => 0 := funext fun j => by rw [hm, iL_z]
  rw [e]
theorem arrV_ext {c : ClassId} {N : Nat} {f g : Nat → Value} (h : ∀ j, j < N → f j = g j) : arrV c N f = arrV c N g := by
  unfold arrV
  congr 1
  congr 1
  funext j
  exact h j.val j.isLt
theorem fvc_0 (Y : YT) (m : Int → Int) (n : Nat) : fv Y m n 0 (ft 0) = [.ref (Y.2.2.1 (n + 1)), vI (m 1), .ref (Y.2.2.1 (n + 2)), .ref (Y.2.2.1 (n + 10)), vI (m 4), vI (m 5), vI (m 6), vI (m 7)] := by
  have e1 : ((n : Int) + 1).toNat = n + 1 := by omega
  have e2 : ((n : Int) + 2).toNat = n + 2 := by omega
  have e10 : ((n : Int) + 10).toNat = n + 10 := by omega
  show [.ref (Y.2.2.1 ((n : Int) + 1).toNat), vI (m (0 + 1)), .ref (Y.2.2.1 ((n : Int) + 2).toNat), .ref (Y.2.2.1 ((n : Int) + 10).toNat), vI (m (0 + 1 + 1 + 1 + 1)), vI (m (0 + 1 + 1 + 1 + 1 + 1)), vI (m (0 + 1 + 1 + 1 + 1 + 1 + 1)), vI (m (0 + 1 + 1 + 1 + 1 + 1 + 1 + 1))] = _
  rw [e1, e2, e10]
  rfl
theorem fvz_0 (Y : YT) {m : Int → Int} (n : Nat) (hm : ∀ k, m k = 0) : fv Y m n 0 (ft 0) = [.ref (Y.2.2.1 (n + 1)), .int 0, .ref (Y.2.2.1 (n + 2)), .ref (Y.2.2.1 (n + 10)), .int 0, .int 0, .int 0, .int 0] := by
  rw [fvc_0]
  simp only [hm, vI_z]
theorem fvc_1 (Y : YT) (m : Int → Int) (n : Nat) : fv Y m n 0 (ft 1) = [.ref (Y.2.2.1 (n + 1)), .ref (Y.2.2.1 (n + 2)), vI (m 2)] := by
  have e1 : ((n : Int) + 1).toNat = n + 1 := by omega
  have e2 : ((n : Int) + 2).toNat = n + 2 := by omega
  show [.ref (Y.2.2.1 ((n : Int) + 1).toNat), .ref (Y.2.2.1 ((n : Int) + 2).toNat), vI (m (0 + 1 + 1))] = _
  rw [e1, e2]
  rfl
theorem fvz_1 (Y : YT) {m : Int → Int} (n : Nat) (hm : ∀ k, m k = 0) : fv Y m n 0 (ft 1) = [.ref (Y.2.2.1 (n + 1)), .ref (Y.2.2.1 (n + 2)), .int 0] := by
  rw [fvc_1]
  simp only [hm, vI_z]
theorem fvc_3 (Y : YT) (m : Int → Int) (n : Nat) : fv Y m n 0 (ft 3) = [.ref (Y.2.2.1 (n + 1)), vI (m 1), vI (m 2), .ref (Y.2.2.1 (n + 2))] := by
  have e1 : ((n : Int) + 1).toNat = n + 1 := by omega
  have e2 : ((n : Int) + 2).toNat = n + 2 := by omega
  show [.ref (Y.2.2.1 ((n : Int) + 1).toNat), vI (m (0 + 1)), vI (m (0 + 1 + 1)), .ref (Y.2.2.1 ((n : Int) + 2).toNat)] = _
  rw [e1, e2]
  rfl
theorem fvz_3 (Y : YT) {m : Int → Int} (n : Nat) (hm : ∀ k, m k = 0) : fv Y m n 0 (ft 3) = [.ref (Y.2.2.1 (n + 1)), .int 0, .int 0, .ref (Y.2.2.1 (n + 2))] := by
  rw [fvc_3]
  simp only [hm, vI_z]
theorem fvc_4 (Y : YT) (m : Int → Int) (n : Nat) : fv Y m n 0 (ft 4) = [.ref (Y.2.2.1 (n + 1)), vI (m 1)] := by
  have e1 : ((n : Int) + 1).toNat = n + 1 := by omega
  show [.ref (Y.2.2.1 ((n : Int) + 1).toNat), vI (m (0 + 1))] = _
  rw [e1]
  rfl
theorem fvz_4 (Y : YT) {m : Int → Int} (n : Nat) (hm : ∀ k, m k = 0) : fv Y m n 0 (ft 4) = [.ref (Y.2.2.1 (n + 1)), .int 0] := by
  rw [fvc_4]
  simp only [hm, vI_z]
theorem fvc_5 (Y : YT) (m : Int → Int) (n : Nat) : fv Y m n 0 (ft 5) = [vI (m 0), .ref (Y.2.2.1 (n + 1)), .ref (Y.2.2.1 (n + 2)), .ref (Y.2.2.1 (n + 3))] := by
  have e1 : ((n : Int) + 1).toNat = n + 1 := by omega
  have e2 : ((n : Int) + 2).toNat = n + 2 := by omega
  have e3 : ((n : Int) + 3).toNat = n + 3 := by omega
  show [vI (m (0)), .ref (Y.2.2.1 ((n : Int) + 1).toNat), .ref (Y.2.2.1 ((n : Int) + 2).toNat), .ref (Y.2.2.1 ((n : Int) + 3).toNat)] = _
  rw [e1, e2, e3]
  rfl
theorem fvz_5 (Y : YT) {m : Int → Int} (n : Nat) (hm : ∀ k, m k = 0) : fv Y m n 0 (ft 5) = [.int 0, .ref (Y.2.2.1 (n + 1)), .ref (Y.2.2.1 (n + 2)), .ref (Y.2.2.1 (n + 3))] := by
  rw [fvc_5]
  simp only [hm, vI_z]
theorem fvc_6 (Y : YT) (m : Int → Int) (n : Nat) : fv Y m n 0 (ft 6) = [vI (m 0), .ref (Y.2.2.1 (n + 1)), vI (m 2), .ref (Y.2.2.1 (n + 2)), vI (m 4)] := by
  have e1 : ((n : Int) + 1).toNat = n + 1 := by omega
  have e2 : ((n : Int) + 2).toNat = n + 2 := by omega
  show [vI (m (0)), .ref (Y.2.2.1 ((n : Int) + 1).toNat), vI (m (0 + 1 + 1)), .ref (Y.2.2.1 ((n : Int) + 2).toNat), vI (m (0 + 1 + 1 + 1 + 1))] = _
  rw [e1, e2]
  rfl
theorem fvz_6 (Y : YT) {m : Int → Int} (n : Nat) (hm : ∀ k, m k = 0) : fv Y m n 0 (ft 6) = [.int 0, .ref (Y.2.2.1 (n + 1)), .int 0, .ref (Y.2.2.1 (n + 2)), .int 0] := by
  rw [fvc_6]
  simp only [hm, vI_z]
theorem fvc_7 (Y : YT) (m : Int → Int) (n : Nat) : fv Y m n 0 (ft 7) = [.ref (Y.2.2.1 (n + 1)), vI (m 1), vI (m 2), vI (m 3), vI (m 4), vI (m 5), vI (m 6), vI (m 7), .ref (Y.2.2.1 (n + 2)), vI (m 9), vI (m 10)] := by
  have e1 : ((n : Int) + 1).toNat = n + 1 := by omega
  have e2 : ((n : Int) + 2).toNat = n + 2 := by omega
  show [.ref (Y.2.2.1 ((n : Int) + 1).toNat), vI (m (0 + 1)), vI (m (0 + 1 + 1)), vI (m (0 + 1 + 1 + 1)), vI (m (0 + 1 + 1 + 1 + 1)), vI (m (0 + 1 + 1 + 1 + 1 + 1)), vI (m (0 + 1 + 1 + 1 + 1 + 1 + 1)), vI (m (0 + 1 + 1 + 1 + 1 + 1 + 1 + 1)), .ref (Y.2.2.1 ((n : Int) + 2).toNat), vI (m (0 + 1 + 1 + 1 + 1 + 1 + 1 + 1 + 1 + 1)), vI (m (0 + 1 + 1 + 1 + 1 + 1 + 1 + 1 + 1 + 1 + 1))] = _
  rw [e1, e2]
  rfl
theorem fvz_7 (Y : YT) {m : Int → Int} (n : Nat) (hm : ∀ k, m k = 0) : fv Y m n 0 (ft 7) = [.ref (Y.2.2.1 (n + 1)), .int 0, .int 0, .int 0, .int 0, .int 0, .int 0, .int 0, .ref (Y.2.2.1 (n + 2)), .int 0, .int 0] := by
  rw [fvc_7]
  simp only [hm, vI_z]
theorem fvc_8 (Y : YT) (m : Int → Int) (n : Nat) : fv Y m n 0 (ft 8) = [vI (m 0), .ref (Y.2.2.1 (n + 1)), vI (m 2), .ref (Y.2.2.1 (n + 2)), .ref (Y.2.2.1 (n + 3)), vI (m 5), .ref (Y.2.2.1 (n + 4)), .ref (Y.2.2.1 (n + 5)), .ref (Y.2.2.1 (n + 6)), vI (m 9), .ref (Y.2.2.1 (n + 7)), vI (m 11), .ref (Y.2.2.1 (n + 11)), .ref (Y.2.2.1 (n + 14))] := by
  have e1 : ((n : Int) + 1).toNat = n + 1 := by omega
  have e2 : ((n : Int) + 2).toNat = n + 2 := by omega
  have e3 : ((n : Int) + 3).toNat = n + 3 := by omega
  have e4 : ((n : Int) + 4).toNat = n + 4 := by omega
  have e5 : ((n : Int) + 5).toNat = n + 5 := by omega
  have e6 : ((n : Int) + 6).toNat = n + 6 := by omega
  have e7 : ((n : Int) + 7).toNat = n + 7 := by omega
  have e11 : ((n : Int) + 11).toNat = n + 11 := by omega
  have e14 : ((n : Int) + 14).toNat = n + 14 := by omega
  show [vI (m (0)), .ref (Y.2.2.1 ((n : Int) + 1).toNat), vI (m (0 + 1 + 1)), .ref (Y.2.2.1 ((n : Int) + 2).toNat), .ref (Y.2.2.1 ((n : Int) + 3).toNat), vI (m (0 + 1 + 1 + 1 + 1 + 1)), .ref (Y.2.2.1 ((n : Int) + 4).toNat), .ref (Y.2.2.1 ((n : Int) + 5).toNat), .ref (Y.2.2.1 ((n : Int) + 6).toNat), vI (m (0 + 1 + 1 + 1 + 1 + 1 + 1 + 1 + 1 + 1)), .ref (Y.2.2.1 ((n : Int) + 7).toNat), vI (m (0 + 1 + 1 + 1 + 1 + 1 + 1 + 1 + 1 + 1 + 1 + 1)), .ref (Y.2.2.1 ((n : Int) + 11).toNat), .ref (Y.2.2.1 ((n : Int) + 14).toNat)] = _
  rw [e1, e2, e3, e4, e5, e6, e7, e11, e14]
  rfl
theorem fvz_8 (Y : YT) {m : Int → Int} (n : Nat) (hm : ∀ k, m k = 0) : fv Y m n 0 (ft 8) = [.int 0, .ref (Y.2.2.1 (n + 1)), .int 0, .ref (Y.2.2.1 (n + 2)), .ref (Y.2.2.1 (n + 3)), .int 0, .ref (Y.2.2.1 (n + 4)), .ref (Y.2.2.1 (n + 5)), .ref (Y.2.2.1 (n + 6)), .int 0, .ref (Y.2.2.1 (n + 7)), .int 0, .ref (Y.2.2.1 (n + 11)), .ref (Y.2.2.1 (n + 14))] := by
  rw [fvc_8]
  simp only [hm, vI_z]
theorem fvc_10 (Y : YT) (m : Int → Int) (n : Nat) : fv Y m n 0 (ft 10) = [.ref (Y.2.2.1 (n + 1)), .ref (Y.2.2.1 (n + 2)), .ref (Y.2.2.1 (n + 3)), .ref (Y.2.2.1 (n + 4)), rv Y (m 4), rv Y (m 5)] := by
  have e1 : ((n : Int) + 1).toNat = n + 1 := by omega
  have e2 : ((n : Int) + 2).toNat = n + 2 := by omega
  have e3 : ((n : Int) + 3).toNat = n + 3 := by omega
  have e4 : ((n : Int) + 4).toNat = n + 4 := by omega
  show [.ref (Y.2.2.1 ((n : Int) + 1).toNat), .ref (Y.2.2.1 ((n : Int) + 2).toNat), .ref (Y.2.2.1 ((n : Int) + 3).toNat), .ref (Y.2.2.1 ((n : Int) + 4).toNat), rv Y (m (0 + 1 + 1 + 1 + 1)), rv Y (m (0 + 1 + 1 + 1 + 1 + 1))] = _
  rw [e1, e2, e3, e4]
  rfl
theorem fvc_11 (Y : YT) (m : Int → Int) (n : Nat) : fv Y m n 0 (ft 11) = [.ref (Y.2.2.1 (n + 1)), .ref (Y.2.2.1 (n + 4)), rv Y (m 2), rv Y (m 3), .ref (Y.2.2.1 (n + 40)), .ref (Y.2.2.1 (n + 46)), .ref (Y.2.2.1 (n + 52)), .ref (Y.2.2.1 (n + 57)), vI (m 8), .ref (Y.2.2.1 (n + 62)), .ref (Y.2.2.1 (n + 185)), .ref (Y.2.2.1 (n + 187)), .ref (Y.2.2.1 (n + 198)), vI (m 13)] := by
  have e1 : ((n : Int) + 1).toNat = n + 1 := by omega
  have e4 : ((n : Int) + 4).toNat = n + 4 := by omega
  have e40 : ((n : Int) + 40).toNat = n + 40 := by omega
  have e46 : ((n : Int) + 46).toNat = n + 46 := by omega
  have e52 : ((n : Int) + 52).toNat = n + 52 := by omega
  have e57 : ((n : Int) + 57).toNat = n + 57 := by omega
  have e62 : ((n : Int) + 62).toNat = n + 62 := by omega
  have e185 : ((n : Int) + 185).toNat = n + 185 := by omega
  have e187 : ((n : Int) + 187).toNat = n + 187 := by omega
  have e198 : ((n : Int) + 198).toNat = n + 198 := by omega
  show [.ref (Y.2.2.1 ((n : Int) + 1).toNat), .ref (Y.2.2.1 ((n : Int) + 4).toNat), rv Y (m (0 + 1 + 1)), rv Y (m (0 + 1 + 1 + 1)), .ref (Y.2.2.1 ((n : Int) + 40).toNat), .ref (Y.2.2.1 ((n : Int) + 46).toNat), .ref (Y.2.2.1 ((n : Int) + 52).toNat), .ref (Y.2.2.1 ((n : Int) + 57).toNat), vI (m (0 + 1 + 1 + 1 + 1 + 1 + 1 + 1 + 1)), .ref (Y.2.2.1 ((n : Int) + 62).toNat), .ref (Y.2.2.1 ((n : Int) + 185).toNat), .ref (Y.2.2.1 ((n : Int) + 187).toNat), .ref (Y.2.2.1 ((n : Int) + 198).toNat), vI (m (0 + 1 + 1 + 1 + 1 + 1 + 1 + 1 + 1 + 1 + 1 + 1 + 1 + 1))] = _
  rw [e1, e4, e40, e46, e52, e57, e62, e185, e187, e198]
  rfl
theorem fvc_12 (Y : YT) (m : Int → Int) (n : Nat) : fv Y m n 0 (ft 12) = [.ref (Y.2.2.1 (n + 1)), vI (m 1), vI (m 2), vI (m 3), vI (m 4), vI (m 5), vI (m 6), vL (m 7), vI (m 8), vI (m 9), vI (m 10), vI (m 11), vI (m 12), vI (m 13), .ref (Y.2.2.1 (n + 2)), .ref (Y.2.2.1 (n + 3)), .ref (Y.2.2.1 (n + 4)), .ref (Y.2.2.1 (n + 5)), .ref (Y.2.2.1 (n + 6)), .ref (Y.2.2.1 (n + 7)), .ref (Y.2.2.1 (n + 8)), .ref (Y.2.2.1 (n + 9)), .ref (Y.2.2.1 (n + 10)), .ref (Y.2.2.1 (n + 11)), .ref (Y.2.2.1 (n + 12)), .ref (Y.2.2.1 (n + 13)), .ref (Y.2.2.1 (n + 14)), .ref (Y.2.2.1 (n + 15)), .ref (Y.2.2.1 (n + 16)), .ref (Y.2.2.1 (n + 17)), .ref (Y.2.2.1 (n + 18)), .ref (Y.2.2.1 (n + 19)), .ref (Y.2.2.1 (n + 20)), vI (m 33), vI (m 34), vI (m 35), .ref (Y.2.2.1 (n + 21)), .ref (Y.2.2.1 (n + 22)), .ref (Y.2.2.1 (n + 23)), .ref (Y.2.2.1 (n + 24)), .ref (Y.2.2.1 (n + 25)), vI (m 41), vI (m 42), .ref (Y.2.2.1 (n + 26)), vI (m 44), vI (m 45), .ref (Y.2.2.1 (n + 27)), .ref (Y.2.2.1 (n + 28)), .ref (Y.2.2.1 (n + 29)), .ref (Y.2.2.1 (n + 30)), .ref (Y.2.2.1 (n + 31)), .ref (Y.2.2.1 (n + 32)), .ref (Y.2.2.1 (n + 33)), .ref (Y.2.2.1 (n + 34)), vI (m 54), vI (m 55), vL (m 56), .ref (Y.2.2.1 (n + 35)), .ref (Y.2.2.1 (n + 36)), .ref (Y.2.2.1 (n + 37)), vI (m 60), .ref (Y.2.2.1 (n + 38)), .ref (Y.2.2.1 (n + 39)), .ref (Y.2.2.1 (n + 40)), .ref (Y.2.2.1 (n + 41)), .ref (Y.2.2.1 (n + 42)), vI (m 66)] := by
  have e1 : ((n : Int) + 1).toNat = n + 1 := by omega
  have e2 : ((n : Int) + 2).toNat = n + 2 := by omega
  have e3 : ((n : Int) + 3).toNat = n + 3 := by omega
  have e4 : ((n : Int) + 4).toNat = n + 4 := by omega
  have e5 : ((n : Int) + 5).toNat = n + 5 := by omega
  have e6 : ((n : Int) + 6).toNat = n + 6 := by omega
  have e7 : ((n : Int) + 7).toNat = n + 7 := by omega
  have e8 : ((n : Int) + 8).toNat = n + 8 := by omega
  have e9 : ((n : Int) + 9).toNat = n + 9 := by omega
  have e10 : ((n : Int) + 10).toNat = n + 10 := by omega
  have e11 : ((n : Int) + 11).toNat = n + 11 := by omega
  have e12 : ((n : Int) + 12).toNat = n + 12 := by omega
  have e13 : ((n : Int) + 13).toNat = n + 13 := by omega
  have e14 : ((n : Int) + 14).toNat = n + 14 := by omega
  have e15 : ((n : Int) + 15).toNat = n + 15 := by omega
  have e16 : ((n : Int) + 16).toNat = n + 16 := by omega
  have e17 : ((n : Int) + 17).toNat = n + 17 := by omega
  have e18 : ((n : Int) + 18).toNat = n + 18 := by omega
  have e19 : ((n : Int) + 19).toNat = n + 19 := by omega
  have e20 : ((n : Int) + 20).toNat = n + 20 := by omega
  have e21 : ((n : Int) + 21).toNat = n + 21 := by omega
  have e22 : ((n : Int) + 22).toNat = n + 22 := by omega
  have e23 : ((n : Int) + 23).toNat = n + 23 := by omega
  have e24 : ((n : Int) + 24).toNat = n + 24 := by omega
  have e25 : ((n : Int) + 25).toNat = n + 25 := by omega
  have e26 : ((n : Int) + 26).toNat = n + 26 := by omega
  have e27 : ((n : Int) + 27).toNat = n + 27 := by omega
  have e28 : ((n : Int) + 28).toNat = n + 28 := by omega
  have e29 : ((n : Int) + 29).toNat = n + 29 := by omega
  have e30 : ((n : Int) + 30).toNat = n + 30 := by omega
  have e31 : ((n : Int) + 31).toNat = n + 31 := by omega
  have e32 : ((n : Int) + 32).toNat = n + 32 := by omega
  have e33 : ((n : Int) + 33).toNat = n + 33 := by omega
  have e34 : ((n : Int) + 34).toNat = n + 34 := by omega
  have e35 : ((n : Int) + 35).toNat = n + 35 := by omega
  have e36 : ((n : Int) + 36).toNat = n + 36 := by omega
  have e37 : ((n : Int) + 37).toNat = n + 37 := by omega
  have e38 : ((n : Int) + 38).toNat = n + 38 := by omega
  have e39 : ((n : Int) + 39).toNat = n + 39 := by omega
  have e40 : ((n : Int) + 40).toNat = n + 40 := by omega
  have e41 : ((n : Int) + 41).toNat = n + 41 := by omega
  have e42 : ((n : Int) + 42).toNat = n + 42 := by omega
  show [.ref (Y.2.2.1 ((n : Int) + 1).toNat), vI (m (0 + 1)), vI (m (0 + 1 + 1)), vI (m (0 + 1 + 1 + 1)), vI (m (0 + 1 + 1 + 1 + 1)), vI (m (0 + 1 + 1 + 1 + 1 + 1)), vI (m (0 + 1 + 1 + 1 + 1 + 1 + 1)), vL (m (0 + 1 + 1 + 1 + 1 + 1 + 1 + 1)), vI (m (0 + 1 + 1 + 1 + 1 + 1 + 1 + 1 + 1)), vI (m (0 + 1 + 1 + 1 + 1 + 1 + 1 + 1 + 1 + 1)), vI (m (0 + 1 + 1 + 1 + 1 + 1 + 1 + 1 + 1 + 1 + 1)), vI (m (0 + 1 + 1 + 1 + 1 + 1 + 1 + 1 + 1 + 1 + 1 + 1)), vI (m (0 + 1 + 1 + 1 + 1 + 1 + 1 + 1 + 1 + 1 + 1 + 1 + 1)), vI (m (0 + 1 + 1 + 1 + 1 + 1 + 1 + 1 + 1 + 1 + 1 + 1 + 1 + 1)), .ref (Y.2.2.1 ((n : Int) + 2).toNat), .ref (Y.2.2.1 ((n : Int) + 3).toNat), .ref (Y.2.2.1 ((n : Int) + 4).toNat), .ref (Y.2.2.1 ((n : Int) + 5).toNat), .ref (Y.2.2.1 ((n : Int) + 6).toNat), .ref (Y.2.2.1 ((n : Int) + 7).toNat), .ref (Y.2.2.1 ((n : Int) + 8).toNat), .ref (Y.2.2.1 ((n : Int) + 9).toNat), .ref (Y.2.2.1 ((n : Int) + 10).toNat), .ref (Y.2.2.1 ((n : Int) + 11).toNat), .ref (Y.2.2.1 ((n : Int) + 12).toNat), .ref (Y.2.2.1 ((n : Int) + 13).toNat), .ref (Y.2.2.1 ((n : Int) + 14).toNat), .ref (Y.2.2.1 ((n : Int) + 15).toNat), .ref (Y.2.2.1 ((n : Int) + 16).toNat), .ref (Y.2.2.1 ((n : Int) + 17).toNat), .ref (Y.2.2.1 ((n : Int) + 18).toNat), .ref (Y.2.2.1 ((n : Int) + 19).toNat), .ref (Y.2.2.1 ((n : Int) + 20).toNat), vI (m (0 + 1 + 1 + 1 + 1 + 1 + 1 + 1 + 1 + 1 + 1 + 1 + 1 + 1 + 1 + 1 + 1 + 1 + 1 + 1 + 1 + 1 + 1 + 1 + 1 + 1 + 1 + 1 + 1 + 1 + 1 + 1 + 1 + 1)), vI (m (0 + 1 + 1 + 1 + 1 + 1 + 1 + 1 + 1 + 1 + 1 + 1 + 1 + 1 + 1 + 1 + 1 + 1 + 1 + 1 + 1 + 1 + 1 + 1 + 1 + 1 + 1 + 1 + 1 + 1 + 1 + 1 + 1 + 1 + 1)), vI (m (0 + 1 + 1 + 1 + 1 + 1 + 1 + 1 + 1 + 1 + 1 + 1 + 1 + 1 + 1 + 1 + 1 + 1 + 1 + 1 + 1 + 1 + 1 + 1 + 1 + 1 + 1 + 1 + 1 + 1 + 1 + 1 + 1 + 1 + 1 + 1)), .ref (Y.2.2.1 ((n : Int) + 21).toNat), .ref (Y.2.2.1 ((n : Int) + 22).toNat), .ref (Y.2.2.1 ((n : Int) + 23).toNat), .ref (Y.2.2.1 ((n : Int) + 24).toNat), .ref (Y.2.2.1 ((n : Int) + 25).toNat), vI (m (0 + 1 + 1 + 1 + 1 + 1 + 1 + 1 + 1 + 1 + 1 + 1 + 1 + 1 + 1 + 1 + 1 + 1 + 1 + 1 + 1 + 1 + 1 + 1 + 1 + 1 + 1 + 1 + 1 + 1 + 1 + 1 + 1 + 1 + 1 + 1 + 1 + 1 + 1 + 1 + 1 + 1)), vI (m (0 + 1 + 1 + 1 + 1 + 1 + 1 + 1 + 1 + 1 + 1 + 1 + 1 + 1 + 1 + 1 + 1 + 1 + 1 + 1 + 1 + 1 + 1 + 1 + 1 + 1 + 1 + 1 + 1 + 1 + 1 + 1 + 1 + 1 + 1 + 1 + 1 + 1 + 1 + 1 + 1 + 1 + 1)), .ref (Y.2.2.1 ((n : Int) + 26).toNat), vI (m (0 + 1 + 1 + 1 + 1 + 1 + 1 + 1 + 1 + 1 + 1 + 1 + 1 + 1 + 1 + 1 + 1 + 1 + 1 + 1 + 1 + 1 + 1 + 1 + 1 + 1 + 1 + 1 + 1 + 1 + 1 + 1 + 1 + 1 + 1 + 1 + 1 + 1 + 1 + 1 + 1 + 1 + 1 + 1 + 1)), vI (m (0 + 1 + 1 + 1 + 1 + 1 + 1 + 1 + 1 + 1 + 1 + 1 + 1 + 1 + 1 + 1 + 1 + 1 + 1 + 1 + 1 + 1 + 1 + 1 + 1 + 1 + 1 + 1 + 1 + 1 + 1 + 1 + 1 + 1 + 1 + 1 + 1 + 1 + 1 + 1 + 1 + 1 + 1 + 1 + 1 + 1)), .ref (Y.2.2.1 ((n : Int) + 27).toNat), .ref (Y.2.2.1 ((n : Int) + 28).toNat), .ref (Y.2.2.1 ((n : Int) + 29).toNat), .ref (Y.2.2.1 ((n : Int) + 30).toNat), .ref (Y.2.2.1 ((n : Int) + 31).toNat), .ref (Y.2.2.1 ((n : Int) + 32).toNat), .ref (Y.2.2.1 ((n : Int) + 33).toNat), .ref (Y.2.2.1 ((n : Int) + 34).toNat), vI (m (0 + 1 + 1 + 1 + 1 + 1 + 1 + 1 + 1 + 1 + 1 + 1 + 1 + 1 + 1 + 1 + 1 + 1 + 1 + 1 + 1 + 1 + 1 + 1 + 1 + 1 + 1 + 1 + 1 + 1 + 1 + 1 + 1 + 1 + 1 + 1 + 1 + 1 + 1 + 1 + 1 + 1 + 1 + 1 + 1 + 1 + 1 + 1 + 1 + 1 + 1 + 1 + 1 + 1 + 1)), vI (m (0 + 1 + 1 + 1 + 1 + 1 + 1 + 1 + 1 + 1 + 1 + 1 + 1 + 1 + 1 + 1 + 1 + 1 + 1 + 1 + 1 + 1 + 1 + 1 + 1 + 1 + 1 + 1 + 1 + 1 + 1 + 1 + 1 + 1 + 1 + 1 + 1 + 1 + 1 + 1 + 1 + 1 + 1 + 1 + 1 + 1 + 1 + 1 + 1 + 1 + 1 + 1 + 1 + 1 + 1 + 1)), vL (m (0 + 1 + 1 + 1 + 1 + 1 + 1 + 1 + 1 + 1 + 1 + 1 + 1 + 1 + 1 + 1 + 1 + 1 + 1 + 1 + 1 + 1 + 1 + 1 + 1 + 1 + 1 + 1 + 1 + 1 + 1 + 1 + 1 + 1 + 1 + 1 + 1 + 1 + 1 + 1 + 1 + 1 + 1 + 1 + 1 + 1 + 1 + 1 + 1 + 1 + 1 + 1 + 1 + 1 + 1 + 1 + 1)), .ref (Y.2.2.1 ((n : Int) + 35).toNat), .ref (Y.2.2.1 ((n : Int) + 36).toNat), .ref (Y.2.2.1 ((n : Int) + 37).toNat), vI (m (0 + 1 + 1 + 1 + 1 + 1 + 1 + 1 + 1 + 1 + 1 + 1 + 1 + 1 + 1 + 1 + 1 + 1 + 1 + 1 + 1 + 1 + 1 + 1 + 1 + 1 + 1 + 1 + 1 + 1 + 1 + 1 + 1 + 1 + 1 + 1 + 1 + 1 + 1 + 1 + 1 + 1 + 1 + 1 + 1 + 1 + 1 + 1 + 1 + 1 + 1 + 1 + 1 + 1 + 1 + 1 + 1 + 1 + 1 + 1 + 1)), .ref (Y.2.2.1 ((n : Int) + 38).toNat), .ref (Y.2.2.1 ((n : Int) + 39).toNat), .ref (Y.2.2.1 ((n : Int) + 40).toNat), .ref (Y.2.2.1 ((n : Int) + 41).toNat), .ref (Y.2.2.1 ((n : Int) + 42).toNat), vI (m (0 + 1 + 1 + 1 + 1 + 1 + 1 + 1 + 1 + 1 + 1 + 1 + 1 + 1 + 1 + 1 + 1 + 1 + 1 + 1 + 1 + 1 + 1 + 1 + 1 + 1 + 1 + 1 + 1 + 1 + 1 + 1 + 1 + 1 + 1 + 1 + 1 + 1 + 1 + 1 + 1 + 1 + 1 + 1 + 1 + 1 + 1 + 1 + 1 + 1 + 1 + 1 + 1 + 1 + 1 + 1 + 1 + 1 + 1 + 1 + 1 + 1 + 1 + 1 + 1 + 1 + 1))] = _
  rw [e1, e2, e3, e4, e5, e6, e7, e8, e9, e10, e11, e12, e13, e14, e15, e16, e17, e18, e19, e20, e21, e22, e23, e24, e25, e26, e27, e28, e29, e30, e31, e32, e33, e34, e35, e36, e37, e38, e39, e40, e41, e42]
  rfl
theorem cX_0 (Y : YT) : cel Y 0 (M0 ((0 : Nat) : Int)) = .inr (11, [.ref (Y.2.2.1 1), .ref (Y.2.2.1 4), .ref (Y.2.2.1 6), .ref (Y.2.2.1 23), .ref (Y.2.2.1 40), .ref (Y.2.2.1 46), .ref (Y.2.2.1 52), .ref (Y.2.2.1 57), .int 0, .ref (Y.2.2.1 62), .ref (Y.2.2.1 185), .ref (Y.2.2.1 187), .ref (Y.2.2.1 198), vI (1)]) := by
  refine (cel_o Y (M0 ((0 : Nat) : Int)) (c := 11) (by decide +kernel) (by decide)).trans (congrArg (fun l => (.inr (11, l) : va_E)) ?_)
  have v2 : M0 ((0 : Nat) : Int) 2 = 6 := by decide +kernel
  have v3 : M0 ((0 : Nat) : Int) 3 = 23 := by decide +kernel
  have v8 : M0 ((0 : Nat) : Int) 8 = 0 := by decide +kernel
  have v13 : M0 ((0 : Nat) : Int) 13 = 1 := by decide +kernel
  rw [fvc_11]
  rw [v2, v3, v8, v13]
  try rw [show rv Y 6 = .ref (Y.2.2.1 6) from rv_pos (by decide)]
  try rw [show rv Y 23 = .ref (Y.2.2.1 23) from rv_pos (by decide)]
  try rw [vI_z]
  try rfl
theorem cX_1 (Y : YT) : cel Y 1 (M0 ((1 : Nat) : Int)) = .inr (7, [.ref (Y.2.2.1 2), .int 0, .int 0, .int 0, .int 0, .int 0, .int 0, vI (-1), .ref (Y.2.2.1 3), .int 0, .int 0]) := by
  refine (cel_o Y (M0 ((1 : Nat) : Int)) (c := 7) (by decide +kernel) (by decide)).trans (congrArg (fun l => (.inr (7, l) : va_E)) ?_)
  have v1 : M0 ((1 : Nat) : Int) 1 = 0 := by decide +kernel
  have v2 : M0 ((1 : Nat) : Int) 2 = 0 := by decide +kernel
  have v3 : M0 ((1 : Nat) : Int) 3 = 0 := by decide +kernel
  have v4 : M0 ((1 : Nat) : Int) 4 = 0 := by decide +kernel
  have v5 : M0 ((1 : Nat) : Int) 5 = 0 := by decide +kernel
  have v6 : M0 ((1 : Nat) : Int) 6 = 0 := by decide +kernel
  have v7 : M0 ((1 : Nat) : Int) 7 = -1 := by decide +kernel
  have v9 : M0 ((1 : Nat) : Int) 9 = 0 := by decide +kernel
  have v10 : M0 ((1 : Nat) : Int) 10 = 0 := by decide +kernel
  rw [fvc_7]
  rw [v1, v2, v3, v4, v5, v6, v7, v9, v10]
  try rw [vI_z]
  try rfl
theorem cX_2 (Y : YT) : cel Y 2 (M0 ((2 : Nat) : Int)) = .inl (Y.2.1 20, 1600, .inl fun _ => 0) := cel_iz Y (by decide +kernel) (by decide +kernel) (by decide) (fun k => m0_z (by decide))
theorem cX_4 (Y : YT) : cel Y 4 (M0 ((4 : Nat) : Int)) = .inr (9, [.ref (Y.2.2.1 1), .ref (Y.2.2.1 5), .null, .int 0]) := by
  refine (cel_o Y (M0 ((4 : Nat) : Int)) (c := 9) (by decide +kernel) (by decide)).trans (congrArg (fun l => (.inr (9, l) : va_E)) ?_)
  have v2 : M0 ((4 : Nat) : Int) 2 = -1 := by decide +kernel
  have v3 : M0 ((4 : Nat) : Int) 3 = 0 := by decide +kernel
  show [.ref (Y.2.2.1 1), .ref (Y.2.2.1 5), rv Y (M0 ((4 : Nat) : Int) 2), vI (M0 ((4 : Nat) : Int) 3)] = _
  rw [v2, v3]
  try rw [show rv Y (-1) = .null from if_pos (by decide)]
  try rw [vI_z]
  try rfl
theorem cX_5 (Y : YT) : cel Y 5 (M0 ((5 : Nat) : Int)) = .inr (2, [.ref (Y.2.2.1 1), .null, .int 0]) := by
  refine (cel_o Y (M0 ((5 : Nat) : Int)) (c := 2) (by decide +kernel) (by decide)).trans (congrArg (fun l => (.inr (2, l) : va_E)) ?_)
  have v1 : M0 ((5 : Nat) : Int) 1 = -1 := by decide +kernel
  have v2 : M0 ((5 : Nat) : Int) 2 = 0 := by decide +kernel
  show [.ref (Y.2.2.1 1), rv Y (M0 ((5 : Nat) : Int) 1), vI (M0 ((5 : Nat) : Int) 2)] = _
  rw [v1, v2]
  try rw [show rv Y (-1) = .null from if_pos (by decide)]
  try rw [vI_z]
  try rfl
theorem cX_6 (Y : YT) : cel Y 6 (M0 ((6 : Nat) : Int)) = .inr (8, [.int 0, .ref (Y.2.2.1 7), .int 0, .ref (Y.2.2.1 8), .ref (Y.2.2.1 9), .int 0, .ref (Y.2.2.1 10), .ref (Y.2.2.1 11), .ref (Y.2.2.1 12), .int 0, .ref (Y.2.2.1 13), .int 0, .ref (Y.2.2.1 17), .ref (Y.2.2.1 20)]) := (cel_o Y (M0 ((6 : Nat) : Int)) (c := 8) (by decide +kernel) (by decide)).trans (congrArg (fun l => (.inr (8, l) : va_E)) (fvz_8 Y 6 (fun k => m0_z (by decide))))
theorem cX_7 (Y : YT) : cel Y 7 (M0 ((7 : Nat) : Int)) = .inl (Y.2.1 20, 7, .inl fun _ => 0) := cel_iz Y (by decide +kernel) (by decide +kernel) (by decide) (fun k => m0_z (by decide))
theorem cX_8 (Y : YT) : cel Y 8 (M0 ((8 : Nat) : Int)) = .inl (Y.2.1 20, 7, .inl fun _ => 0) := cel_iz Y (by decide +kernel) (by decide +kernel) (by decide) (fun k => m0_z (by decide))
theorem cX_9 (Y : YT) : cel Y 9 (M0 ((9 : Nat) : Int)) = .inl (Y.2.1 20, 49, .inl fun _ => 0) := cel_iz Y (by decide +kernel) (by decide +kernel) (by decide) (fun k => m0_z (by decide))
theorem cX_10 (Y : YT) : cel Y 10 (M0 ((10 : Nat) : Int)) = .inl (Y.2.1 20, 6, .inl fun _ => 0) := cel_iz Y (by decide +kernel) (by decide +kernel) (by decide) (fun k => m0_z (by decide))
theorem cX_11 (Y : YT) : cel Y 11 (M0 ((11 : Nat) : Int)) = .inl (Y.2.1 20, 6, .inl fun _ => 0) := cel_iz Y (by decide +kernel) (by decide +kernel) (by decide) (fun k => m0_z (by decide))
theorem cX_12 (Y : YT) : cel Y 12 (M0 ((12 : Nat) : Int)) = .inl (Y.2.1 20, 6, .inl fun _ => 0) := cel_iz Y (by decide +kernel) (by decide +kernel) (by decide) (fun k => m0_z (by decide))
theorem cX_13 (Y : YT) : cel Y 13 (M0 ((13 : Nat) : Int)) = .inr (5, [.int 0, .ref (Y.2.2.1 14), .ref (Y.2.2.1 15), .ref (Y.2.2.1 16)]) := (cel_o Y (M0 ((13 : Nat) : Int)) (c := 5) (by decide +kernel) (by decide)).trans (congrArg (fun l => (.inr (5, l) : va_E)) (fvz_5 Y 13 (fun k => m0_z (by decide))))
theorem cX_14 (Y : YT) : cel Y 14 (M0 ((14 : Nat) : Int)) = .inl (Y.2.1 20, 9, .inl fun _ => 0) := cel_iz Y (by decide +kernel) (by decide +kernel) (by decide) (fun k => m0_z (by decide))
theorem cX_15 (Y : YT) : cel Y 15 (M0 ((15 : Nat) : Int)) = .inl (Y.2.1 20, 9, .inl fun _ => 0) := cel_iz Y (by decide +kernel) (by decide +kernel) (by decide) (fun k => m0_z (by decide))
theorem cX_16 (Y : YT) : cel Y 16 (M0 ((16 : Nat) : Int)) = .inl (Y.2.1 20, 9, .inl fun _ => 0) := cel_iz Y (by decide +kernel) (by decide +kernel) (by decide) (fun k => m0_z (by decide))
theorem cX_17 (Y : YT) : cel Y 17 (M0 ((17 : Nat) : Int)) = .inr (1, [.ref (Y.2.2.1 18), .ref (Y.2.2.1 19), .int 0]) := (cel_o Y (M0 ((17 : Nat) : Int)) (c := 1) (by decide +kernel) (by decide)).trans (congrArg (fun l => (.inr (1, l) : va_E)) (fvz_1 Y 17 (fun k => m0_z (by decide))))
theorem cX_18 (Y : YT) : cel Y 18 (M0 ((18 : Nat) : Int)) = .inl (Y.2.1 20, 1600, .inl fun _ => 0) := cel_iz Y (by decide +kernel) (by decide +kernel) (by decide) (fun k => m0_z (by decide))
theorem cX_19 (Y : YT) : cel Y 19 (M0 ((19 : Nat) : Int)) = .inl (Y.2.1 20, 64, .inl fun _ => 0) := cel_iz Y (by decide +kernel) (by decide +kernel) (by decide) (fun k => m0_z (by decide))
theorem cX_20 (Y : YT) : cel Y 20 (M0 ((20 : Nat) : Int)) = .inr (1, [.ref (Y.2.2.1 21), .ref (Y.2.2.1 22), .int 0]) := (cel_o Y (M0 ((20 : Nat) : Int)) (c := 1) (by decide +kernel) (by decide)).trans (congrArg (fun l => (.inr (1, l) : va_E)) (fvz_1 Y 20 (fun k => m0_z (by decide))))
theorem cX_21 (Y : YT) : cel Y 21 (M0 ((21 : Nat) : Int)) = .inl (Y.2.1 20, 1600, .inl fun _ => 0) := cel_iz Y (by decide +kernel) (by decide +kernel) (by decide) (fun k => m0_z (by decide))
theorem cX_22 (Y : YT) : cel Y 22 (M0 ((22 : Nat) : Int)) = .inl (Y.2.1 20, 64, .inl fun _ => 0) := cel_iz Y (by decide +kernel) (by decide +kernel) (by decide) (fun k => m0_z (by decide))
theorem cX_23 (Y : YT) : cel Y 23 (M0 ((23 : Nat) : Int)) = .inr (8, [.int 0, .ref (Y.2.2.1 24), .int 0, .ref (Y.2.2.1 25), .ref (Y.2.2.1 26), .int 0, .ref (Y.2.2.1 27), .ref (Y.2.2.1 28), .ref (Y.2.2.1 29), .int 0, .ref (Y.2.2.1 30), .int 0, .ref (Y.2.2.1 34), .ref (Y.2.2.1 37)]) := (cel_o Y (M0 ((23 : Nat) : Int)) (c := 8) (by decide +kernel) (by decide)).trans (congrArg (fun l => (.inr (8, l) : va_E)) (fvz_8 Y 23 (fun k => m0_z (by decide))))
theorem cX_24 (Y : YT) : cel Y 24 (M0 ((24 : Nat) : Int)) = .inl (Y.2.1 20, 7, .inl fun _ => 0) := cel_iz Y (by decide +kernel) (by decide +kernel) (by decide) (fun k => m0_z (by decide))
theorem cX_25 (Y : YT) : cel Y 25 (M0 ((25 : Nat) : Int)) = .inl (Y.2.1 20, 7, .inl fun _ => 0) := cel_iz Y (by decide +kernel) (by decide +kernel) (by decide) (fun k => m0_z (by decide))
theorem cX_26 (Y : YT) : cel Y 26 (M0 ((26 : Nat) : Int)) = .inl (Y.2.1 20, 49, .inl fun _ => 0) := cel_iz Y (by decide +kernel) (by decide +kernel) (by decide) (fun k => m0_z (by decide))
theorem cX_27 (Y : YT) : cel Y 27 (M0 ((27 : Nat) : Int)) = .inl (Y.2.1 20, 6, .inl fun _ => 0) := cel_iz Y (by decide +kernel) (by decide +kernel) (by decide) (fun k => m0_z (by decide))
theorem cX_28 (Y : YT) : cel Y 28 (M0 ((28 : Nat) : Int)) = .inl (Y.2.1 20, 6, .inl fun _ => 0) := cel_iz Y (by decide +kernel) (by decide +kernel) (by decide) (fun k => m0_z (by decide))
theorem cX_29 (Y : YT) : cel Y 29 (M0 ((29 : Nat) : Int)) = .inl (Y.2.1 20, 6, .inl fun _ => 0) := cel_iz Y (by decide +kernel) (by decide +kernel) (by decide) (fun k => m0_z (by decide))
theorem cX_30 (Y : YT) : cel Y 30 (M0 ((30 : Nat) : Int)) = .inr (5, [.int 0, .ref (Y.2.2.1 31), .ref (Y.2.2.1 32), .ref (Y.2.2.1 33)]) := (cel_o Y (M0 ((30 : Nat) : Int)) (c := 5) (by decide +kernel) (by decide)).trans (congrArg (fun l => (.inr (5, l) : va_E)) (fvz_5 Y 30 (fun k => m0_z (by decide))))
theorem cX_31 (Y : YT) : cel Y 31 (M0 ((31 : Nat) : Int)) = .inl (Y.2.1 20, 9, .inl fun _ => 0) := cel_iz Y (by decide +kernel) (by decide +kernel) (by decide) (fun k => m0_z (by decide))
theorem cX_32 (Y : YT) : cel Y 32 (M0 ((32 : Nat) : Int)) = .inl (Y.2.1 20, 9, .inl fun _ => 0) := cel_iz Y (by decide +kernel) (by decide +kernel) (by decide) (fun k => m0_z (by decide))
theorem cX_33 (Y : YT) : cel Y 33 (M0 ((33 : Nat) : Int)) = .inl (Y.2.1 20, 9, .inl fun _ => 0) := cel_iz Y (by decide +kernel) (by decide +kernel) (by decide) (fun k => m0_z (by decide))
theorem cX_34 (Y : YT) : cel Y 34 (M0 ((34 : Nat) : Int)) = .inr (1, [.ref (Y.2.2.1 35), .ref (Y.2.2.1 36), .int 0]) := (cel_o Y (M0 ((34 : Nat) : Int)) (c := 1) (by decide +kernel) (by decide)).trans (congrArg (fun l => (.inr (1, l) : va_E)) (fvz_1 Y 34 (fun k => m0_z (by decide))))
theorem cX_35 (Y : YT) : cel Y 35 (M0 ((35 : Nat) : Int)) = .inl (Y.2.1 20, 1600, .inl fun _ => 0) := cel_iz Y (by decide +kernel) (by decide +kernel) (by decide) (fun k => m0_z (by decide))
theorem cX_36 (Y : YT) : cel Y 36 (M0 ((36 : Nat) : Int)) = .inl (Y.2.1 20, 64, .inl fun _ => 0) := cel_iz Y (by decide +kernel) (by decide +kernel) (by decide) (fun k => m0_z (by decide))
theorem cX_37 (Y : YT) : cel Y 37 (M0 ((37 : Nat) : Int)) = .inr (1, [.ref (Y.2.2.1 38), .ref (Y.2.2.1 39), .int 0]) := (cel_o Y (M0 ((37 : Nat) : Int)) (c := 1) (by decide +kernel) (by decide)).trans (congrArg (fun l => (.inr (1, l) : va_E)) (fvz_1 Y 37 (fun k => m0_z (by decide))))
theorem cX_38 (Y : YT) : cel Y 38 (M0 ((38 : Nat) : Int)) = .inl (Y.2.1 20, 1600, .inl fun _ => 0) := cel_iz Y (by decide +kernel) (by decide +kernel) (by decide) (fun k => m0_z (by decide))
theorem cX_39 (Y : YT) : cel Y 39 (M0 ((39 : Nat) : Int)) = .inl (Y.2.1 20, 64, .inl fun _ => 0) := cel_iz Y (by decide +kernel) (by decide +kernel) (by decide) (fun k => m0_z (by decide))
theorem cX_40 (Y : YT) : cel Y 40 (M0 ((40 : Nat) : Int)) = .inr (6, [.int 0, .ref (Y.2.2.1 41), .int 0, .ref (Y.2.2.1 42), .int 0]) := (cel_o Y (M0 ((40 : Nat) : Int)) (c := 6) (by decide +kernel) (by decide)).trans (congrArg (fun l => (.inr (6, l) : va_E)) (fvz_6 Y 40 (fun k => m0_z (by decide))))
theorem cX_41 (Y : YT) : cel Y 41 (M0 ((41 : Nat) : Int)) = .inl (Y.2.1 20, 6, .inl fun _ => 0) := cel_iz Y (by decide +kernel) (by decide +kernel) (by decide) (fun k => m0_z (by decide))
theorem cX_42 (Y : YT) : cel Y 42 (M0 ((42 : Nat) : Int)) = .inr (5, [.int 0, .ref (Y.2.2.1 43), .ref (Y.2.2.1 44), .ref (Y.2.2.1 45)]) := (cel_o Y (M0 ((42 : Nat) : Int)) (c := 5) (by decide +kernel) (by decide)).trans (congrArg (fun l => (.inr (5, l) : va_E)) (fvz_5 Y 42 (fun k => m0_z (by decide))))
theorem cX_43 (Y : YT) : cel Y 43 (M0 ((43 : Nat) : Int)) = .inl (Y.2.1 20, 9, .inl fun _ => 0) := cel_iz Y (by decide +kernel) (by decide +kernel) (by decide) (fun k => m0_z (by decide))
theorem cX_44 (Y : YT) : cel Y 44 (M0 ((44 : Nat) : Int)) = .inl (Y.2.1 20, 9, .inl fun _ => 0) := cel_iz Y (by decide +kernel) (by decide +kernel) (by decide) (fun k => m0_z (by decide))
theorem cX_45 (Y : YT) : cel Y 45 (M0 ((45 : Nat) : Int)) = .inl (Y.2.1 20, 9, .inl fun _ => 0) := cel_iz Y (by decide +kernel) (by decide +kernel) (by decide) (fun k => m0_z (by decide))
theorem cX_46 (Y : YT) : cel Y 46 (M0 ((46 : Nat) : Int)) = .inr (6, [.int 0, .ref (Y.2.2.1 47), .int 0, .ref (Y.2.2.1 48), .int 0]) := (cel_o Y (M0 ((46 : Nat) : Int)) (c := 6) (by decide +kernel) (by decide)).trans (congrArg (fun l => (.inr (6, l) : va_E)) (fvz_6 Y 46 (fun k => m0_z (by decide))))
theorem cX_47 (Y : YT) : cel Y 47 (M0 ((47 : Nat) : Int)) = .inl (Y.2.1 20, 6, .inl fun _ => 0) := cel_iz Y (by decide +kernel) (by decide +kernel) (by decide) (fun k => m0_z (by decide))
theorem cX_48 (Y : YT) : cel Y 48 (M0 ((48 : Nat) : Int)) = .inr (5, [.int 0, .ref (Y.2.2.1 49), .ref (Y.2.2.1 50), .ref (Y.2.2.1 51)]) := (cel_o Y (M0 ((48 : Nat) : Int)) (c := 5) (by decide +kernel) (by decide)).trans (congrArg (fun l => (.inr (5, l) : va_E)) (fvz_5 Y 48 (fun k => m0_z (by decide))))
theorem cX_49 (Y : YT) : cel Y 49 (M0 ((49 : Nat) : Int)) = .inl (Y.2.1 20, 9, .inl fun _ => 0) := cel_iz Y (by decide +kernel) (by decide +kernel) (by decide) (fun k => m0_z (by decide))
theorem cX_50 (Y : YT) : cel Y 50 (M0 ((50 : Nat) : Int)) = .inl (Y.2.1 20, 9, .inl fun _ => 0) := cel_iz Y (by decide +kernel) (by decide +kernel) (by decide) (fun k => m0_z (by decide))
theorem cX_51 (Y : YT) : cel Y 51 (M0 ((51 : Nat) : Int)) = .inl (Y.2.1 20, 9, .inl fun _ => 0) := cel_iz Y (by decide +kernel) (by decide +kernel) (by decide) (fun k => m0_z (by decide))
theorem cX_52 (Y : YT) : cel Y 52 (M0 ((52 : Nat) : Int)) = .inr (10, [.ref (Y.2.2.1 53), .ref (Y.2.2.1 54), .ref (Y.2.2.1 55), .ref (Y.2.2.1 56), .null, .null]) := by
  refine (cel_o Y (M0 ((52 : Nat) : Int)) (c := 10) (by decide +kernel) (by decide)).trans (congrArg (fun l => (.inr (10, l) : va_E)) ?_)
  have v4 : M0 ((52 : Nat) : Int) 4 = -1 := by decide +kernel
  have v5 : M0 ((52 : Nat) : Int) 5 = -1 := by decide +kernel
  rw [fvc_10]
  rw [v4, v5]
  try rw [show rv Y (-1) = .null from if_pos (by decide)]
  try rw [show rv Y (-1) = .null from if_pos (by decide)]
  try rw [vI_z]
  try rfl
theorem cX_53 (Y : YT) : cel Y 53 (M0 ((53 : Nat) : Int)) = .inl (Y.2.1 20, 54, .inl fun _ => 0) := cel_iz Y (by decide +kernel) (by decide +kernel) (by decide) (fun k => m0_z (by decide))
theorem cX_54 (Y : YT) : cel Y 54 (M0 ((54 : Nat) : Int)) = .inl (Y.2.1 20, 63, .inl fun _ => 0) := cel_iz Y (by decide +kernel) (by decide +kernel) (by decide) (fun k => m0_z (by decide))
theorem cX_55 (Y : YT) : cel Y 55 (M0 ((55 : Nat) : Int)) = .inl (Y.2.1 20, 63, .inl fun _ => 0) := cel_iz Y (by decide +kernel) (by decide +kernel) (by decide) (fun k => m0_z (by decide))
theorem cX_56 (Y : YT) : cel Y 56 (M0 ((56 : Nat) : Int)) = .inl (Y.2.1 20, 7, .inl fun _ => 0) := cel_iz Y (by decide +kernel) (by decide +kernel) (by decide) (fun k => m0_z (by decide))
theorem cX_57 (Y : YT) : cel Y 57 (M0 ((57 : Nat) : Int)) = .inr (10, [.ref (Y.2.2.1 58), .ref (Y.2.2.1 59), .ref (Y.2.2.1 60), .ref (Y.2.2.1 61), .null, .null]) := by
  refine (cel_o Y (M0 ((57 : Nat) : Int)) (c := 10) (by decide +kernel) (by decide)).trans (congrArg (fun l => (.inr (10, l) : va_E)) ?_)
  have v4 : M0 ((57 : Nat) : Int) 4 = -1 := by decide +kernel
  have v5 : M0 ((57 : Nat) : Int) 5 = -1 := by decide +kernel
  rw [fvc_10]
  rw [v4, v5]
  try rw [show rv Y (-1) = .null from if_pos (by decide)]
  try rw [show rv Y (-1) = .null from if_pos (by decide)]
  try rw [vI_z]
  try rfl
theorem cX_58 (Y : YT) : cel Y 58 (M0 ((58 : Nat) : Int)) = .inl (Y.2.1 20, 54, .inl fun _ => 0) := cel_iz Y (by decide +kernel) (by decide +kernel) (by decide) (fun k => m0_z (by decide))
theorem cX_59 (Y : YT) : cel Y 59 (M0 ((59 : Nat) : Int)) = .inl (Y.2.1 20, 63, .inl fun _ => 0) := cel_iz Y (by decide +kernel) (by decide +kernel) (by decide) (fun k => m0_z (by decide))
theorem cX_60 (Y : YT) : cel Y 60 (M0 ((60 : Nat) : Int)) = .inl (Y.2.1 20, 63, .inl fun _ => 0) := cel_iz Y (by decide +kernel) (by decide +kernel) (by decide) (fun k => m0_z (by decide))
theorem cX_61 (Y : YT) : cel Y 61 (M0 ((61 : Nat) : Int)) = .inl (Y.2.1 20, 7, .inl fun _ => 0) := cel_iz Y (by decide +kernel) (by decide +kernel) (by decide) (fun k => m0_z (by decide))
theorem cX_62 (Y : YT) : cel Y 62 (M0 ((62 : Nat) : Int)) = .inr (3, [.ref (Y.2.2.1 63), .int 0, .int 0, .ref (Y.2.2.1 64)]) := (cel_o Y (M0 ((62 : Nat) : Int)) (c := 3) (by decide +kernel) (by decide)).trans (congrArg (fun l => (.inr (3, l) : va_E)) (fvz_3 Y 62 (fun k => m0_z (by decide))))
theorem cX_64 (Y : YT) : cel Y 64 (M0 ((64 : Nat) : Int)) = .inl (Y.2.1 20, 2997, .inl fun _ => 0) := cel_iz Y (by decide +kernel) (by decide +kernel) (by decide) (fun k => m0_z (by decide))
theorem cX_65 (Y : YT) : cel Y 65 (M0 ((65 : Nat) : Int)) = .inr (6, [.int 0, .ref (Y.2.2.1 66), .int 0, .ref (Y.2.2.1 67), .int 0]) := (cel_o Y (M0 ((65 : Nat) : Int)) (c := 6) (by decide +kernel) (by decide)).trans (congrArg (fun l => (.inr (6, l) : va_E)) (fvz_6 Y 65 (fun k => m0_z (by decide))))
theorem cX_66 (Y : YT) : cel Y 66 (M0 ((66 : Nat) : Int)) = .inl (Y.2.1 20, 6, .inl fun _ => 0) := cel_iz Y (by decide +kernel) (by decide +kernel) (by decide) (fun k => m0_z (by decide))
theorem cX_67 (Y : YT) : cel Y 67 (M0 ((67 : Nat) : Int)) = .inr (5, [.int 0, .ref (Y.2.2.1 68), .ref (Y.2.2.1 69), .ref (Y.2.2.1 70)]) := (cel_o Y (M0 ((67 : Nat) : Int)) (c := 5) (by decide +kernel) (by decide)).trans (congrArg (fun l => (.inr (5, l) : va_E)) (fvz_5 Y 67 (fun k => m0_z (by decide))))
theorem cX_68 (Y : YT) : cel Y 68 (M0 ((68 : Nat) : Int)) = .inl (Y.2.1 20, 9, .inl fun _ => 0) := cel_iz Y (by decide +kernel) (by decide +kernel) (by decide) (fun k => m0_z (by decide))
theorem cX_69 (Y : YT) : cel Y 69 (M0 ((69 : Nat) : Int)) = .inl (Y.2.1 20, 9, .inl fun _ => 0) := cel_iz Y (by decide +kernel) (by decide +kernel) (by decide) (fun k => m0_z (by decide))
theorem cX_70 (Y : YT) : cel Y 70 (M0 ((70 : Nat) : Int)) = .inl (Y.2.1 20, 9, .inl fun _ => 0) := cel_iz Y (by decide +kernel) (by decide +kernel) (by decide) (fun k => m0_z (by decide))
theorem cX_71 (Y : YT) : cel Y 71 (M0 ((71 : Nat) : Int)) = .inr (6, [.int 0, .ref (Y.2.2.1 72), .int 0, .ref (Y.2.2.1 73), .int 0]) := (cel_o Y (M0 ((71 : Nat) : Int)) (c := 6) (by decide +kernel) (by decide)).trans (congrArg (fun l => (.inr (6, l) : va_E)) (fvz_6 Y 71 (fun k => m0_z (by decide))))
theorem cX_72 (Y : YT) : cel Y 72 (M0 ((72 : Nat) : Int)) = .inl (Y.2.1 20, 6, .inl fun _ => 0) := cel_iz Y (by decide +kernel) (by decide +kernel) (by decide) (fun k => m0_z (by decide))
theorem cX_73 (Y : YT) : cel Y 73 (M0 ((73 : Nat) : Int)) = .inr (5, [.int 0, .ref (Y.2.2.1 74), .ref (Y.2.2.1 75), .ref (Y.2.2.1 76)]) := (cel_o Y (M0 ((73 : Nat) : Int)) (c := 5) (by decide +kernel) (by decide)).trans (congrArg (fun l => (.inr (5, l) : va_E)) (fvz_5 Y 73 (fun k => m0_z (by decide))))
theorem cX_74 (Y : YT) : cel Y 74 (M0 ((74 : Nat) : Int)) = .inl (Y.2.1 20, 9, .inl fun _ => 0) := cel_iz Y (by decide +kernel) (by decide +kernel) (by decide) (fun k => m0_z (by decide))
theorem cX_75 (Y : YT) : cel Y 75 (M0 ((75 : Nat) : Int)) = .inl (Y.2.1 20, 9, .inl fun _ => 0) := cel_iz Y (by decide +kernel) (by decide +kernel) (by decide) (fun k => m0_z (by decide))
theorem cX_76 (Y : YT) : cel Y 76 (M0 ((76 : Nat) : Int)) = .inl (Y.2.1 20, 9, .inl fun _ => 0) := cel_iz Y (by decide +kernel) (by decide +kernel) (by decide) (fun k => m0_z (by decide))
theorem cX_77 (Y : YT) : cel Y 77 (M0 ((77 : Nat) : Int)) = .inr (6, [.int 0, .ref (Y.2.2.1 78), .int 0, .ref (Y.2.2.1 79), .int 0]) := (cel_o Y (M0 ((77 : Nat) : Int)) (c := 6) (by decide +kernel) (by decide)).trans (congrArg (fun l => (.inr (6, l) : va_E)) (fvz_6 Y 77 (fun k => m0_z (by decide))))
theorem cX_78 (Y : YT) : cel Y 78 (M0 ((78 : Nat) : Int)) = .inl (Y.2.1 20, 6, .inl fun _ => 0) := cel_iz Y (by decide +kernel) (by decide +kernel) (by decide) (fun k => m0_z (by decide))
theorem cX_79 (Y : YT) : cel Y 79 (M0 ((79 : Nat) : Int)) = .inr (5, [.int 0, .ref (Y.2.2.1 80), .ref (Y.2.2.1 81), .ref (Y.2.2.1 82)]) := (cel_o Y (M0 ((79 : Nat) : Int)) (c := 5) (by decide +kernel) (by decide)).trans (congrArg (fun l => (.inr (5, l) : va_E)) (fvz_5 Y 79 (fun k => m0_z (by decide))))
theorem cX_80 (Y : YT) : cel Y 80 (M0 ((80 : Nat) : Int)) = .inl (Y.2.1 20, 9, .inl fun _ => 0) := cel_iz Y (by decide +kernel) (by decide +kernel) (by decide) (fun k => m0_z (by decide))
theorem cX_81 (Y : YT) : cel Y 81 (M0 ((81 : Nat) : Int)) = .inl (Y.2.1 20, 9, .inl fun _ => 0) := cel_iz Y (by decide +kernel) (by decide +kernel) (by decide) (fun k => m0_z (by decide))
theorem cX_82 (Y : YT) : cel Y 82 (M0 ((82 : Nat) : Int)) = .inl (Y.2.1 20, 9, .inl fun _ => 0) := cel_iz Y (by decide +kernel) (by decide +kernel) (by decide) (fun k => m0_z (by decide))
theorem cX_83 (Y : YT) : cel Y 83 (M0 ((83 : Nat) : Int)) = .inr (6, [.int 0, .ref (Y.2.2.1 84), .int 0, .ref (Y.2.2.1 85), .int 0]) := (cel_o Y (M0 ((83 : Nat) : Int)) (c := 6) (by decide +kernel) (by decide)).trans (congrArg (fun l => (.inr (6, l) : va_E)) (fvz_6 Y 83 (fun k => m0_z (by decide))))
theorem cX_84 (Y : YT) : cel Y 84 (M0 ((84 : Nat) : Int)) = .inl (Y.2.1 20, 6, .inl fun _ => 0) := cel_iz Y (by decide +kernel) (by decide +kernel) (by decide) (fun k => m0_z (by decide))
theorem cX_85 (Y : YT) : cel Y 85 (M0 ((85 : Nat) : Int)) = .inr (5, [.int 0, .ref (Y.2.2.1 86), .ref (Y.2.2.1 87), .ref (Y.2.2.1 88)]) := (cel_o Y (M0 ((85 : Nat) : Int)) (c := 5) (by decide +kernel) (by decide)).trans (congrArg (fun l => (.inr (5, l) : va_E)) (fvz_5 Y 85 (fun k => m0_z (by decide))))
theorem cX_86 (Y : YT) : cel Y 86 (M0 ((86 : Nat) : Int)) = .inl (Y.2.1 20, 9, .inl fun _ => 0) := cel_iz Y (by decide +kernel) (by decide +kernel) (by decide) (fun k => m0_z (by decide))
theorem cX_87 (Y : YT) : cel Y 87 (M0 ((87 : Nat) : Int)) = .inl (Y.2.1 20, 9, .inl fun _ => 0) := cel_iz Y (by decide +kernel) (by decide +kernel) (by decide) (fun k => m0_z (by decide))
theorem cX_88 (Y : YT) : cel Y 88 (M0 ((88 : Nat) : Int)) = .inl (Y.2.1 20, 9, .inl fun _ => 0) := cel_iz Y (by decide +kernel) (by decide +kernel) (by decide) (fun k => m0_z (by decide))
theorem cX_89 (Y : YT) : cel Y 89 (M0 ((89 : Nat) : Int)) = .inr (6, [.int 0, .ref (Y.2.2.1 90), .int 0, .ref (Y.2.2.1 91), .int 0]) := (cel_o Y (M0 ((89 : Nat) : Int)) (c := 6) (by decide +kernel) (by decide)).trans (congrArg (fun l => (.inr (6, l) : va_E)) (fvz_6 Y 89 (fun k => m0_z (by decide))))
theorem cX_90 (Y : YT) : cel Y 90 (M0 ((90 : Nat) : Int)) = .inl (Y.2.1 20, 6, .inl fun _ => 0) := cel_iz Y (by decide +kernel) (by decide +kernel) (by decide) (fun k => m0_z (by decide))
theorem cX_91 (Y : YT) : cel Y 91 (M0 ((91 : Nat) : Int)) = .inr (5, [.int 0, .ref (Y.2.2.1 92), .ref (Y.2.2.1 93), .ref (Y.2.2.1 94)]) := (cel_o Y (M0 ((91 : Nat) : Int)) (c := 5) (by decide +kernel) (by decide)).trans (congrArg (fun l => (.inr (5, l) : va_E)) (fvz_5 Y 91 (fun k => m0_z (by decide))))
theorem cX_92 (Y : YT) : cel Y 92 (M0 ((92 : Nat) : Int)) = .inl (Y.2.1 20, 9, .inl fun _ => 0) := cel_iz Y (by decide +kernel) (by decide +kernel) (by decide) (fun k => m0_z (by decide))
theorem cX_93 (Y : YT) : cel Y 93 (M0 ((93 : Nat) : Int)) = .inl (Y.2.1 20, 9, .inl fun _ => 0) := cel_iz Y (by decide +kernel) (by decide +kernel) (by decide) (fun k => m0_z (by decide))
theorem cX_94 (Y : YT) : cel Y 94 (M0 ((94 : Nat) : Int)) = .inl (Y.2.1 20, 9, .inl fun _ => 0) := cel_iz Y (by decide +kernel) (by decide +kernel) (by decide) (fun k => m0_z (by decide))
theorem cX_95 (Y : YT) : cel Y 95 (M0 ((95 : Nat) : Int)) = .inr (6, [.int 0, .ref (Y.2.2.1 96), .int 0, .ref (Y.2.2.1 97), .int 0]) := (cel_o Y (M0 ((95 : Nat) : Int)) (c := 6) (by decide +kernel) (by decide)).trans (congrArg (fun l => (.inr (6, l) : va_E)) (fvz_6 Y 95 (fun k => m0_z (by decide))))
theorem cX_96 (Y : YT) : cel Y 96 (M0 ((96 : Nat) : Int)) = .inl (Y.2.1 20, 6, .inl fun _ => 0) := cel_iz Y (by decide +kernel) (by decide +kernel) (by decide) (fun k => m0_z (by decide))
theorem cX_97 (Y : YT) : cel Y 97 (M0 ((97 : Nat) : Int)) = .inr (5, [.int 0, .ref (Y.2.2.1 98), .ref (Y.2.2.1 99), .ref (Y.2.2.1 100)]) := (cel_o Y (M0 ((97 : Nat) : Int)) (c := 5) (by decide +kernel) (by decide)).trans (congrArg (fun l => (.inr (5, l) : va_E)) (fvz_5 Y 97 (fun k => m0_z (by decide))))
theorem cX_98 (Y : YT) : cel Y 98 (M0 ((98 : Nat) : Int)) = .inl (Y.2.1 20, 9, .inl fun _ => 0) := cel_iz Y (by decide +kernel) (by decide +kernel) (by decide) (fun k => m0_z (by decide))
theorem cX_99 (Y : YT) : cel Y 99 (M0 ((99 : Nat) : Int)) = .inl (Y.2.1 20, 9, .inl fun _ => 0) := cel_iz Y (by decide +kernel) (by decide +kernel) (by decide) (fun k => m0_z (by decide))
theorem cX_100 (Y : YT) : cel Y 100 (M0 ((100 : Nat) : Int)) = .inl (Y.2.1 20, 9, .inl fun _ => 0) := cel_iz Y (by decide +kernel) (by decide +kernel) (by decide) (fun k => m0_z (by decide))
theorem cX_101 (Y : YT) : cel Y 101 (M0 ((101 : Nat) : Int)) = .inr (6, [.int 0, .ref (Y.2.2.1 102), .int 0, .ref (Y.2.2.1 103), .int 0]) := (cel_o Y (M0 ((101 : Nat) : Int)) (c := 6) (by decide +kernel) (by decide)).trans (congrArg (fun l => (.inr (6, l) : va_E)) (fvz_6 Y 101 (fun k => m0_z (by decide))))
theorem cX_102 (Y : YT) : cel Y 102 (M0 ((102 : Nat) : Int)) = .inl (Y.2.1 20, 6, .inl fun _ => 0) := cel_iz Y (by decide +kernel) (by decide +kernel) (by decide) (fun k => m0_z (by decide))
theorem cX_103 (Y : YT) : cel Y 103 (M0 ((103 : Nat) : Int)) = .inr (5, [.int 0, .ref (Y.2.2.1 104), .ref (Y.2.2.1 105), .ref (Y.2.2.1 106)]) := (cel_o Y (M0 ((103 : Nat) : Int)) (c := 5) (by decide +kernel) (by decide)).trans (congrArg (fun l => (.inr (5, l) : va_E)) (fvz_5 Y 103 (fun k => m0_z (by decide))))
theorem cX_104 (Y : YT) : cel Y 104 (M0 ((104 : Nat) : Int)) = .inl (Y.2.1 20, 9, .inl fun _ => 0) := cel_iz Y (by decide +kernel) (by decide +kernel) (by decide) (fun k => m0_z (by decide))
theorem cX_105 (Y : YT) : cel Y 105 (M0 ((105 : Nat) : Int)) = .inl (Y.2.1 20, 9, .inl fun _ => 0) := cel_iz Y (by decide +kernel) (by decide +kernel) (by decide) (fun k => m0_z (by decide))
theorem cX_106 (Y : YT) : cel Y 106 (M0 ((106 : Nat) : Int)) = .inl (Y.2.1 20, 9, .inl fun _ => 0) := cel_iz Y (by decide +kernel) (by decide +kernel) (by decide) (fun k => m0_z (by decide))
theorem cX_107 (Y : YT) : cel Y 107 (M0 ((107 : Nat) : Int)) = .inr (6, [.int 0, .ref (Y.2.2.1 108), .int 0, .ref (Y.2.2.1 109), .int 0]) := (cel_o Y (M0 ((107 : Nat) : Int)) (c := 6) (by decide +kernel) (by decide)).trans (congrArg (fun l => (.inr (6, l) : va_E)) (fvz_6 Y 107 (fun k => m0_z (by decide))))
theorem cX_108 (Y : YT) : cel Y 108 (M0 ((108 : Nat) : Int)) = .inl (Y.2.1 20, 6, .inl fun _ => 0) := cel_iz Y (by decide +kernel) (by decide +kernel) (by decide) (fun k => m0_z (by decide))
theorem cX_109 (Y : YT) : cel Y 109 (M0 ((109 : Nat) : Int)) = .inr (5, [.int 0, .ref (Y.2.2.1 110), .ref (Y.2.2.1 111), .ref (Y.2.2.1 112)]) := (cel_o Y (M0 ((109 : Nat) : Int)) (c := 5) (by decide +kernel) (by decide)).trans (congrArg (fun l => (.inr (5, l) : va_E)) (fvz_5 Y 109 (fun k => m0_z (by decide))))
theorem cX_110 (Y : YT) : cel Y 110 (M0 ((110 : Nat) : Int)) = .inl (Y.2.1 20, 9, .inl fun _ => 0) := cel_iz Y (by decide +kernel) (by decide +kernel) (by decide) (fun k => m0_z (by decide))
theorem cX_111 (Y : YT) : cel Y 111 (M0 ((111 : Nat) : Int)) = .inl (Y.2.1 20, 9, .inl fun _ => 0) := cel_iz Y (by decide +kernel) (by decide +kernel) (by decide) (fun k => m0_z (by decide))
theorem cX_112 (Y : YT) : cel Y 112 (M0 ((112 : Nat) : Int)) = .inl (Y.2.1 20, 9, .inl fun _ => 0) := cel_iz Y (by decide +kernel) (by decide +kernel) (by decide) (fun k => m0_z (by decide))
theorem cX_113 (Y : YT) : cel Y 113 (M0 ((113 : Nat) : Int)) = .inr (6, [.int 0, .ref (Y.2.2.1 114), .int 0, .ref (Y.2.2.1 115), .int 0]) := (cel_o Y (M0 ((113 : Nat) : Int)) (c := 6) (by decide +kernel) (by decide)).trans (congrArg (fun l => (.inr (6, l) : va_E)) (fvz_6 Y 113 (fun k => m0_z (by decide))))
theorem cX_114 (Y : YT) : cel Y 114 (M0 ((114 : Nat) : Int)) = .inl (Y.2.1 20, 6, .inl fun _ => 0) := cel_iz Y (by decide +kernel) (by decide +kernel) (by decide) (fun k => m0_z (by decide))
theorem cX_115 (Y : YT) : cel Y 115 (M0 ((115 : Nat) : Int)) = .inr (5, [.int 0, .ref (Y.2.2.1 116), .ref (Y.2.2.1 117), .ref (Y.2.2.1 118)]) := (cel_o Y (M0 ((115 : Nat) : Int)) (c := 5) (by decide +kernel) (by decide)).trans (congrArg (fun l => (.inr (5, l) : va_E)) (fvz_5 Y 115 (fun k => m0_z (by decide))))
theorem cX_116 (Y : YT) : cel Y 116 (M0 ((116 : Nat) : Int)) = .inl (Y.2.1 20, 9, .inl fun _ => 0) := cel_iz Y (by decide +kernel) (by decide +kernel) (by decide) (fun k => m0_z (by decide))
theorem cX_117 (Y : YT) : cel Y 117 (M0 ((117 : Nat) : Int)) = .inl (Y.2.1 20, 9, .inl fun _ => 0) := cel_iz Y (by decide +kernel) (by decide +kernel) (by decide) (fun k => m0_z (by decide))
theorem cX_118 (Y : YT) : cel Y 118 (M0 ((118 : Nat) : Int)) = .inl (Y.2.1 20, 9, .inl fun _ => 0) := cel_iz Y (by decide +kernel) (by decide +kernel) (by decide) (fun k => m0_z (by decide))
theorem cX_119 (Y : YT) : cel Y 119 (M0 ((119 : Nat) : Int)) = .inr (6, [.int 0, .ref (Y.2.2.1 120), .int 0, .ref (Y.2.2.1 121), .int 0]) := (cel_o Y (M0 ((119 : Nat) : Int)) (c := 6) (by decide +kernel) (by decide)).trans (congrArg (fun l => (.inr (6, l) : va_E)) (fvz_6 Y 119 (fun k => m0_z (by decide))))
theorem cX_120 (Y : YT) : cel Y 120 (M0 ((120 : Nat) : Int)) = .inl (Y.2.1 20, 6, .inl fun _ => 0) := cel_iz Y (by decide +kernel) (by decide +kernel) (by decide) (fun k => m0_z (by decide))
theorem cX_121 (Y : YT) : cel Y 121 (M0 ((121 : Nat) : Int)) = .inr (5, [.int 0, .ref (Y.2.2.1 122), .ref (Y.2.2.1 123), .ref (Y.2.2.1 124)]) := (cel_o Y (M0 ((121 : Nat) : Int)) (c := 5) (by decide +kernel) (by decide)).trans (congrArg (fun l => (.inr (5, l) : va_E)) (fvz_5 Y 121 (fun k => m0_z (by decide))))
theorem cX_122 (Y : YT) : cel Y 122 (M0 ((122 : Nat) : Int)) = .inl (Y.2.1 20, 9, .inl fun _ => 0) := cel_iz Y (by decide +kernel) (by decide +kernel) (by decide) (fun k => m0_z (by decide))
theorem cX_123 (Y : YT) : cel Y 123 (M0 ((123 : Nat) : Int)) = .inl (Y.2.1 20, 9, .inl fun _ => 0) := cel_iz Y (by decide +kernel) (by decide +kernel) (by decide) (fun k => m0_z (by decide))
theorem cX_124 (Y : YT) : cel Y 124 (M0 ((124 : Nat) : Int)) = .inl (Y.2.1 20, 9, .inl fun _ => 0) := cel_iz Y (by decide +kernel) (by decide +kernel) (by decide) (fun k => m0_z (by decide))
theorem cX_125 (Y : YT) : cel Y 125 (M0 ((125 : Nat) : Int)) = .inr (6, [.int 0, .ref (Y.2.2.1 126), .int 0, .ref (Y.2.2.1 127), .int 0]) := (cel_o Y (M0 ((125 : Nat) : Int)) (c := 6) (by decide +kernel) (by decide)).trans (congrArg (fun l => (.inr (6, l) : va_E)) (fvz_6 Y 125 (fun k => m0_z (by decide))))
theorem cX_126 (Y : YT) : cel Y 126 (M0 ((126 : Nat) : Int)) = .inl (Y.2.1 20, 6, .inl fun _ => 0) := cel_iz Y (by decide +kernel) (by decide +kernel) (by decide) (fun k => m0_z (by decide))
theorem cX_127 (Y : YT) : cel Y 127 (M0 ((127 : Nat) : Int)) = .inr (5, [.int 0, .ref (Y.2.2.1 128), .ref (Y.2.2.1 129), .ref (Y.2.2.1 130)]) := (cel_o Y (M0 ((127 : Nat) : Int)) (c := 5) (by decide +kernel) (by decide)).trans (congrArg (fun l => (.inr (5, l) : va_E)) (fvz_5 Y 127 (fun k => m0_z (by decide))))
theorem cX_128 (Y : YT) : cel Y 128 (M0 ((128 : Nat) : Int)) = .inl (Y.2.1 20, 9, .inl fun _ => 0) := cel_iz Y (by decide +kernel) (by decide +kernel) (by decide) (fun k => m0_z (by decide))
theorem cX_129 (Y : YT) : cel Y 129 (M0 ((129 : Nat) : Int)) = .inl (Y.2.1 20, 9, .inl fun _ => 0) := cel_iz Y (by decide +kernel) (by decide +kernel) (by decide) (fun k => m0_z (by decide))
theorem cX_130 (Y : YT) : cel Y 130 (M0 ((130 : Nat) : Int)) = .inl (Y.2.1 20, 9, .inl fun _ => 0) := cel_iz Y (by decide +kernel) (by decide +kernel) (by decide) (fun k => m0_z (by decide))
theorem cX_131 (Y : YT) : cel Y 131 (M0 ((131 : Nat) : Int)) = .inr (6, [.int 0, .ref (Y.2.2.1 132), .int 0, .ref (Y.2.2.1 133), .int 0]) := (cel_o Y (M0 ((131 : Nat) : Int)) (c := 6) (by decide +kernel) (by decide)).trans (congrArg (fun l => (.inr (6, l) : va_E)) (fvz_6 Y 131 (fun k => m0_z (by decide))))
theorem cX_132 (Y : YT) : cel Y 132 (M0 ((132 : Nat) : Int)) = .inl (Y.2.1 20, 6, .inl fun _ => 0) := cel_iz Y (by decide +kernel) (by decide +kernel) (by decide) (fun k => m0_z (by decide))
theorem cX_133 (Y : YT) : cel Y 133 (M0 ((133 : Nat) : Int)) = .inr (5, [.int 0, .ref (Y.2.2.1 134), .ref (Y.2.2.1 135), .ref (Y.2.2.1 136)]) := (cel_o Y (M0 ((133 : Nat) : Int)) (c := 5) (by decide +kernel) (by decide)).trans (congrArg (fun l => (.inr (5, l) : va_E)) (fvz_5 Y 133 (fun k => m0_z (by decide))))
theorem cX_134 (Y : YT) : cel Y 134 (M0 ((134 : Nat) : Int)) = .inl (Y.2.1 20, 9, .inl fun _ => 0) := cel_iz Y (by decide +kernel) (by decide +kernel) (by decide) (fun k => m0_z (by decide))
theorem cX_135 (Y : YT) : cel Y 135 (M0 ((135 : Nat) : Int)) = .inl (Y.2.1 20, 9, .inl fun _ => 0) := cel_iz Y (by decide +kernel) (by decide +kernel) (by decide) (fun k => m0_z (by decide))
theorem cX_136 (Y : YT) : cel Y 136 (M0 ((136 : Nat) : Int)) = .inl (Y.2.1 20, 9, .inl fun _ => 0) := cel_iz Y (by decide +kernel) (by decide +kernel) (by decide) (fun k => m0_z (by decide))
theorem cX_137 (Y : YT) : cel Y 137 (M0 ((137 : Nat) : Int)) = .inr (6, [.int 0, .ref (Y.2.2.1 138), .int 0, .ref (Y.2.2.1 139), .int 0]) := (cel_o Y (M0 ((137 : Nat) : Int)) (c := 6) (by decide +kernel) (by decide)).trans (congrArg (fun l => (.inr (6, l) : va_E)) (fvz_6 Y 137 (fun k => m0_z (by decide))))
theorem cX_138 (Y : YT) : cel Y 138 (M0 ((138 : Nat) : Int)) = .inl (Y.2.1 20, 6, .inl fun _ => 0) := cel_iz Y (by decide +kernel) (by decide +kernel) (by decide) (fun k => m0_z (by decide))
theorem cX_139 (Y : YT) : cel Y 139 (M0 ((139 : Nat) : Int)) = .inr (5, [.int 0, .ref (Y.2.2.1 140), .ref (Y.2.2.1 141), .ref (Y.2.2.1 142)]) := (cel_o Y (M0 ((139 : Nat) : Int)) (c := 5) (by decide +kernel) (by decide)).trans (congrArg (fun l => (.inr (5, l) : va_E)) (fvz_5 Y 139 (fun k => m0_z (by decide))))
theorem cX_140 (Y : YT) : cel Y 140 (M0 ((140 : Nat) : Int)) = .inl (Y.2.1 20, 9, .inl fun _ => 0) := cel_iz Y (by decide +kernel) (by decide +kernel) (by decide) (fun k => m0_z (by decide))
theorem cX_141 (Y : YT) : cel Y 141 (M0 ((141 : Nat) : Int)) = .inl (Y.2.1 20, 9, .inl fun _ => 0) := cel_iz Y (by decide +kernel) (by decide +kernel) (by decide) (fun k => m0_z (by decide))
theorem cX_142 (Y : YT) : cel Y 142 (M0 ((142 : Nat) : Int)) = .inl (Y.2.1 20, 9, .inl fun _ => 0) := cel_iz Y (by decide +kernel) (by decide +kernel) (by decide) (fun k => m0_z (by decide))
theorem cX_143 (Y : YT) : cel Y 143 (M0 ((143 : Nat) : Int)) = .inr (6, [.int 0, .ref (Y.2.2.1 144), .int 0, .ref (Y.2.2.1 145), .int 0]) := (cel_o Y (M0 ((143 : Nat) : Int)) (c := 6) (by decide +kernel) (by decide)).trans (congrArg (fun l => (.inr (6, l) : va_E)) (fvz_6 Y 143 (fun k => m0_z (by decide))))
theorem cX_144 (Y : YT) : cel Y 144 (M0 ((144 : Nat) : Int)) = .inl (Y.2.1 20, 6, .inl fun _ => 0) := cel_iz Y (by decide +kernel) (by decide +kernel) (by decide) (fun k => m0_z (by decide))
theorem cX_145 (Y : YT) : cel Y 145 (M0 ((145 : Nat) : Int)) = .inr (5, [.int 0, .ref (Y.2.2.1 146), .ref (Y.2.2.1 147), .ref (Y.2.2.1 148)]) := (cel_o Y (M0 ((145 : Nat) : Int)) (c := 5) (by decide +kernel) (by decide)).trans (congrArg (fun l => (.inr (5, l) : va_E)) (fvz_5 Y 145 (fun k => m0_z (by decide))))
theorem cX_146 (Y : YT) : cel Y 146 (M0 ((146 : Nat) : Int)) = .inl (Y.2.1 20, 9, .inl fun _ => 0) := cel_iz Y (by decide +kernel) (by decide +kernel) (by decide) (fun k => m0_z (by decide))
theorem cX_147 (Y : YT) : cel Y 147 (M0 ((147 : Nat) : Int)) = .inl (Y.2.1 20, 9, .inl fun _ => 0) := cel_iz Y (by decide +kernel) (by decide +kernel) (by decide) (fun k => m0_z (by decide))
theorem cX_148 (Y : YT) : cel Y 148 (M0 ((148 : Nat) : Int)) = .inl (Y.2.1 20, 9, .inl fun _ => 0) := cel_iz Y (by decide +kernel) (by decide +kernel) (by decide) (fun k => m0_z (by decide))
theorem cX_149 (Y : YT) : cel Y 149 (M0 ((149 : Nat) : Int)) = .inr (6, [.int 0, .ref (Y.2.2.1 150), .int 0, .ref (Y.2.2.1 151), .int 0]) := (cel_o Y (M0 ((149 : Nat) : Int)) (c := 6) (by decide +kernel) (by decide)).trans (congrArg (fun l => (.inr (6, l) : va_E)) (fvz_6 Y 149 (fun k => m0_z (by decide))))
theorem cX_150 (Y : YT) : cel Y 150 (M0 ((150 : Nat) : Int)) = .inl (Y.2.1 20, 6, .inl fun _ => 0) := cel_iz Y (by decide +kernel) (by decide +kernel) (by decide) (fun k => m0_z (by decide))
theorem cX_151 (Y : YT) : cel Y 151 (M0 ((151 : Nat) : Int)) = .inr (5, [.int 0, .ref (Y.2.2.1 152), .ref (Y.2.2.1 153), .ref (Y.2.2.1 154)]) := (cel_o Y (M0 ((151 : Nat) : Int)) (c := 5) (by decide +kernel) (by decide)).trans (congrArg (fun l => (.inr (5, l) : va_E)) (fvz_5 Y 151 (fun k => m0_z (by decide))))
theorem cX_152 (Y : YT) : cel Y 152 (M0 ((152 : Nat) : Int)) = .inl (Y.2.1 20, 9, .inl fun _ => 0) := cel_iz Y (by decide +kernel) (by decide +kernel) (by decide) (fun k => m0_z (by decide))
theorem cX_153 (Y : YT) : cel Y 153 (M0 ((153 : Nat) : Int)) = .inl (Y.2.1 20, 9, .inl fun _ => 0) := cel_iz Y (by decide +kernel) (by decide +kernel) (by decide) (fun k => m0_z (by decide))
theorem cX_154 (Y : YT) : cel Y 154 (M0 ((154 : Nat) : Int)) = .inl (Y.2.1 20, 9, .inl fun _ => 0) := cel_iz Y (by decide +kernel) (by decide +kernel) (by decide) (fun k => m0_z (by decide))
theorem cX_155 (Y : YT) : cel Y 155 (M0 ((155 : Nat) : Int)) = .inr (6, [.int 0, .ref (Y.2.2.1 156), .int 0, .ref (Y.2.2.1 157), .int 0]) := (cel_o Y (M0 ((155 : Nat) : Int)) (c := 6) (by decide +kernel) (by decide)).trans (congrArg (fun l => (.inr (6, l) : va_E)) (fvz_6 Y 155 (fun k => m0_z (by decide))))
theorem cX_156 (Y : YT) : cel Y 156 (M0 ((156 : Nat) : Int)) = .inl (Y.2.1 20, 6, .inl fun _ => 0) := cel_iz Y (by decide +kernel) (by decide +kernel) (by decide) (fun k => m0_z (by decide))
theorem cX_157 (Y : YT) : cel Y 157 (M0 ((157 : Nat) : Int)) = .inr (5, [.int 0, .ref (Y.2.2.1 158), .ref (Y.2.2.1 159), .ref (Y.2.2.1 160)]) := (cel_o Y (M0 ((157 : Nat) : Int)) (c := 5) (by decide +kernel) (by decide)).trans (congrArg (fun l => (.inr (5, l) : va_E)) (fvz_5 Y 157 (fun k => m0_z (by decide))))
theorem cX_158 (Y : YT) : cel Y 158 (M0 ((158 : Nat) : Int)) = .inl (Y.2.1 20, 9, .inl fun _ => 0) := cel_iz Y (by decide +kernel) (by decide +kernel) (by decide) (fun k => m0_z (by decide))
theorem cX_159 (Y : YT) : cel Y 159 (M0 ((159 : Nat) : Int)) = .inl (Y.2.1 20, 9, .inl fun _ => 0) := cel_iz Y (by decide +kernel) (by decide +kernel) (by decide) (fun k => m0_z (by decide))
theorem cX_160 (Y : YT) : cel Y 160 (M0 ((160 : Nat) : Int)) = .inl (Y.2.1 20, 9, .inl fun _ => 0) := cel_iz Y (by decide +kernel) (by decide +kernel) (by decide) (fun k => m0_z (by decide))
theorem cX_161 (Y : YT) : cel Y 161 (M0 ((161 : Nat) : Int)) = .inr (6, [.int 0, .ref (Y.2.2.1 162), .int 0, .ref (Y.2.2.1 163), .int 0]) := (cel_o Y (M0 ((161 : Nat) : Int)) (c := 6) (by decide +kernel) (by decide)).trans (congrArg (fun l => (.inr (6, l) : va_E)) (fvz_6 Y 161 (fun k => m0_z (by decide))))
theorem cX_162 (Y : YT) : cel Y 162 (M0 ((162 : Nat) : Int)) = .inl (Y.2.1 20, 6, .inl fun _ => 0) := cel_iz Y (by decide +kernel) (by decide +kernel) (by decide) (fun k => m0_z (by decide))
theorem cX_163 (Y : YT) : cel Y 163 (M0 ((163 : Nat) : Int)) = .inr (5, [.int 0, .ref (Y.2.2.1 164), .ref (Y.2.2.1 165), .ref (Y.2.2.1 166)]) := (cel_o Y (M0 ((163 : Nat) : Int)) (c := 5) (by decide +kernel) (by decide)).trans (congrArg (fun l => (.inr (5, l) : va_E)) (fvz_5 Y 163 (fun k => m0_z (by decide))))
theorem cX_164 (Y : YT) : cel Y 164 (M0 ((164 : Nat) : Int)) = .inl (Y.2.1 20, 9, .inl fun _ => 0) := cel_iz Y (by decide +kernel) (by decide +kernel) (by decide) (fun k => m0_z (by decide))
theorem cX_165 (Y : YT) : cel Y 165 (M0 ((165 : Nat) : Int)) = .inl (Y.2.1 20, 9, .inl fun _ => 0) := cel_iz Y (by decide +kernel) (by decide +kernel) (by decide) (fun k => m0_z (by decide))
theorem cX_166 (Y : YT) : cel Y 166 (M0 ((166 : Nat) : Int)) = .inl (Y.2.1 20, 9, .inl fun _ => 0) := cel_iz Y (by decide +kernel) (by decide +kernel) (by decide) (fun k => m0_z (by decide))
theorem cX_167 (Y : YT) : cel Y 167 (M0 ((167 : Nat) : Int)) = .inr (6, [.int 0, .ref (Y.2.2.1 168), .int 0, .ref (Y.2.2.1 169), .int 0]) := (cel_o Y (M0 ((167 : Nat) : Int)) (c := 6) (by decide +kernel) (by decide)).trans (congrArg (fun l => (.inr (6, l) : va_E)) (fvz_6 Y 167 (fun k => m0_z (by decide))))
theorem cX_168 (Y : YT) : cel Y 168 (M0 ((168 : Nat) : Int)) = .inl (Y.2.1 20, 6, .inl fun _ => 0) := cel_iz Y (by decide +kernel) (by decide +kernel) (by decide) (fun k => m0_z (by decide))
theorem cX_169 (Y : YT) : cel Y 169 (M0 ((169 : Nat) : Int)) = .inr (5, [.int 0, .ref (Y.2.2.1 170), .ref (Y.2.2.1 171), .ref (Y.2.2.1 172)]) := (cel_o Y (M0 ((169 : Nat) : Int)) (c := 5) (by decide +kernel) (by decide)).trans (congrArg (fun l => (.inr (5, l) : va_E)) (fvz_5 Y 169 (fun k => m0_z (by decide))))
theorem cX_170 (Y : YT) : cel Y 170 (M0 ((170 : Nat) : Int)) = .inl (Y.2.1 20, 9, .inl fun _ => 0) := cel_iz Y (by decide +kernel) (by decide +kernel) (by decide) (fun k => m0_z (by decide))
theorem cX_171 (Y : YT) : cel Y 171 (M0 ((171 : Nat) : Int)) = .inl (Y.2.1 20, 9, .inl fun _ => 0) := cel_iz Y (by decide +kernel) (by decide +kernel) (by decide) (fun k => m0_z (by decide))
theorem cX_172 (Y : YT) : cel Y 172 (M0 ((172 : Nat) : Int)) = .inl (Y.2.1 20, 9, .inl fun _ => 0) := cel_iz Y (by decide +kernel) (by decide +kernel) (by decide) (fun k => m0_z (by decide))
theorem cX_173 (Y : YT) : cel Y 173 (M0 ((173 : Nat) : Int)) = .inr (6, [.int 0, .ref (Y.2.2.1 174), .int 0, .ref (Y.2.2.1 175), .int 0]) := (cel_o Y (M0 ((173 : Nat) : Int)) (c := 6) (by decide +kernel) (by decide)).trans (congrArg (fun l => (.inr (6, l) : va_E)) (fvz_6 Y 173 (fun k => m0_z (by decide))))
theorem cX_174 (Y : YT) : cel Y 174 (M0 ((174 : Nat) : Int)) = .inl (Y.2.1 20, 6, .inl fun _ => 0) := cel_iz Y (by decide +kernel) (by decide +kernel) (by decide) (fun k => m0_z (by decide))
theorem cX_175 (Y : YT) : cel Y 175 (M0 ((175 : Nat) : Int)) = .inr (5, [.int 0, .ref (Y.2.2.1 176), .ref (Y.2.2.1 177), .ref (Y.2.2.1 178)]) := (cel_o Y (M0 ((175 : Nat) : Int)) (c := 5) (by decide +kernel) (by decide)).trans (congrArg (fun l => (.inr (5, l) : va_E)) (fvz_5 Y 175 (fun k => m0_z (by decide))))
theorem cX_176 (Y : YT) : cel Y 176 (M0 ((176 : Nat) : Int)) = .inl (Y.2.1 20, 9, .inl fun _ => 0) := cel_iz Y (by decide +kernel) (by decide +kernel) (by decide) (fun k => m0_z (by decide))
theorem cX_177 (Y : YT) : cel Y 177 (M0 ((177 : Nat) : Int)) = .inl (Y.2.1 20, 9, .inl fun _ => 0) := cel_iz Y (by decide +kernel) (by decide +kernel) (by decide) (fun k => m0_z (by decide))
theorem cX_178 (Y : YT) : cel Y 178 (M0 ((178 : Nat) : Int)) = .inl (Y.2.1 20, 9, .inl fun _ => 0) := cel_iz Y (by decide +kernel) (by decide +kernel) (by decide) (fun k => m0_z (by decide))
theorem cX_179 (Y : YT) : cel Y 179 (M0 ((179 : Nat) : Int)) = .inr (6, [.int 0, .ref (Y.2.2.1 180), .int 0, .ref (Y.2.2.1 181), .int 0]) := (cel_o Y (M0 ((179 : Nat) : Int)) (c := 6) (by decide +kernel) (by decide)).trans (congrArg (fun l => (.inr (6, l) : va_E)) (fvz_6 Y 179 (fun k => m0_z (by decide))))
theorem cX_180 (Y : YT) : cel Y 180 (M0 ((180 : Nat) : Int)) = .inl (Y.2.1 20, 6, .inl fun _ => 0) := cel_iz Y (by decide +kernel) (by decide +kernel) (by decide) (fun k => m0_z (by decide))
theorem cX_181 (Y : YT) : cel Y 181 (M0 ((181 : Nat) : Int)) = .inr (5, [.int 0, .ref (Y.2.2.1 182), .ref (Y.2.2.1 183), .ref (Y.2.2.1 184)]) := (cel_o Y (M0 ((181 : Nat) : Int)) (c := 5) (by decide +kernel) (by decide)).trans (congrArg (fun l => (.inr (5, l) : va_E)) (fvz_5 Y 181 (fun k => m0_z (by decide))))
theorem cX_182 (Y : YT) : cel Y 182 (M0 ((182 : Nat) : Int)) = .inl (Y.2.1 20, 9, .inl fun _ => 0) := cel_iz Y (by decide +kernel) (by decide +kernel) (by decide) (fun k => m0_z (by decide))
theorem cX_183 (Y : YT) : cel Y 183 (M0 ((183 : Nat) : Int)) = .inl (Y.2.1 20, 9, .inl fun _ => 0) := cel_iz Y (by decide +kernel) (by decide +kernel) (by decide) (fun k => m0_z (by decide))
theorem cX_184 (Y : YT) : cel Y 184 (M0 ((184 : Nat) : Int)) = .inl (Y.2.1 20, 9, .inl fun _ => 0) := cel_iz Y (by decide +kernel) (by decide +kernel) (by decide) (fun k => m0_z (by decide))
theorem cX_185 (Y : YT) : cel Y 185 (M0 ((185 : Nat) : Int)) = .inr (4, [.ref (Y.2.2.1 186), .int 0]) := (cel_o Y (M0 ((185 : Nat) : Int)) (c := 4) (by decide +kernel) (by decide)).trans (congrArg (fun l => (.inr (4, l) : va_E)) (fvz_4 Y 185 (fun k => m0_z (by decide))))
theorem cX_186 (Y : YT) : cel Y 186 (M0 ((186 : Nat) : Int)) = .inl (Y.2.1 20, 40, .inl fun _ => 0) := cel_iz Y (by decide +kernel) (by decide +kernel) (by decide) (fun k => m0_z (by decide))
theorem cX_187 (Y : YT) : cel Y 187 (M0 ((187 : Nat) : Int)) = .inr (0, [.ref (Y.2.2.1 188), .int 0, .ref (Y.2.2.1 189), .ref (Y.2.2.1 197), .int 0, .int 0, .int 0, .int 0]) := (cel_o Y (M0 ((187 : Nat) : Int)) (c := 0) (by decide +kernel) (by decide)).trans (congrArg (fun l => (.inr (0, l) : va_E)) (fvz_0 Y 187 (fun k => m0_z (by decide))))
theorem cX_188 (Y : YT) : cel Y 188 (M0 ((188 : Nat) : Int)) = .inl (Y.2.1 20, 48, .inl fun _ => 0) := cel_iz Y (by decide +kernel) (by decide +kernel) (by decide) (fun k => m0_z (by decide))
theorem cX_190 (Y : YT) : cel Y 190 (M0 ((190 : Nat) : Int)) = .inl (Y.2.1 20, 56, .inl fun _ => 0) := cel_iz Y (by decide +kernel) (by decide +kernel) (by decide) (fun k => m0_z (by decide))
theorem cX_191 (Y : YT) : cel Y 191 (M0 ((191 : Nat) : Int)) = .inl (Y.2.1 20, 56, .inl fun _ => 0) := cel_iz Y (by decide +kernel) (by decide +kernel) (by decide) (fun k => m0_z (by decide))
theorem cX_192 (Y : YT) : cel Y 192 (M0 ((192 : Nat) : Int)) = .inl (Y.2.1 20, 56, .inl fun _ => 0) := cel_iz Y (by decide +kernel) (by decide +kernel) (by decide) (fun k => m0_z (by decide))
theorem cX_193 (Y : YT) : cel Y 193 (M0 ((193 : Nat) : Int)) = .inl (Y.2.1 20, 56, .inl fun _ => 0) := cel_iz Y (by decide +kernel) (by decide +kernel) (by decide) (fun k => m0_z (by decide))
theorem cX_194 (Y : YT) : cel Y 194 (M0 ((194 : Nat) : Int)) = .inl (Y.2.1 20, 56, .inl fun _ => 0) := cel_iz Y (by decide +kernel) (by decide +kernel) (by decide) (fun k => m0_z (by decide))
theorem cX_195 (Y : YT) : cel Y 195 (M0 ((195 : Nat) : Int)) = .inl (Y.2.1 20, 56, .inl fun _ => 0) := cel_iz Y (by decide +kernel) (by decide +kernel) (by decide) (fun k => m0_z (by decide))
theorem cX_196 (Y : YT) : cel Y 196 (M0 ((196 : Nat) : Int)) = .inl (Y.2.1 20, 56, .inl fun _ => 0) := cel_iz Y (by decide +kernel) (by decide +kernel) (by decide) (fun k => m0_z (by decide))
theorem cX_197 (Y : YT) : cel Y 197 (M0 ((197 : Nat) : Int)) = .inl (Y.2.1 20, 7, .inl fun _ => 0) := cel_iz Y (by decide +kernel) (by decide +kernel) (by decide) (fun k => m0_z (by decide))
theorem cX_198 (Y : YT) : cel Y 198 (M0 ((198 : Nat) : Int)) = .inl (Y.2.1 20, 6, .inl fun _ => 0) := cel_iz Y (by decide +kernel) (by decide +kernel) (by decide) (fun k => m0_z (by decide))
theorem cX_199 (Y : YT) : cel Y 199 (M0 ((199 : Nat) : Int)) = .inr (12, [.ref (Y.2.2.1 200), vI (0), vI (0), vI (0), vI (0), vI (0), vI (0), vL (0), vI (0), vI (-1), vI (0), vI (-1), vI (-1), vI (0), .ref (Y.2.2.1 201), .ref (Y.2.2.1 202), .ref (Y.2.2.1 203), .ref (Y.2.2.1 204), .ref (Y.2.2.1 205), .ref (Y.2.2.1 206), .ref (Y.2.2.1 207), .ref (Y.2.2.1 208), .ref (Y.2.2.1 209), .ref (Y.2.2.1 210), .ref (Y.2.2.1 211), .ref (Y.2.2.1 212), .ref (Y.2.2.1 213), .ref (Y.2.2.1 214), .ref (Y.2.2.1 215), .ref (Y.2.2.1 216), .ref (Y.2.2.1 217), .ref (Y.2.2.1 218), .ref (Y.2.2.1 219), vI (0), vI (1), vI (0), .ref (Y.2.2.1 220), .ref (Y.2.2.1 221), .ref (Y.2.2.1 222), .ref (Y.2.2.1 223), .ref (Y.2.2.1 224), vI (0), vI (0), .ref (Y.2.2.1 225), vI (0), vI (0), .ref (Y.2.2.1 226), .ref (Y.2.2.1 227), .ref (Y.2.2.1 228), .ref (Y.2.2.1 229), .ref (Y.2.2.1 230), .ref (Y.2.2.1 231), .ref (Y.2.2.1 232), .ref (Y.2.2.1 233), vI (0), vI (0), vL (1), .ref (Y.2.2.1 234), .ref (Y.2.2.1 235), .ref (Y.2.2.1 236), vI (0), .ref (Y.2.2.1 237), .ref (Y.2.2.1 238), .ref (Y.2.2.1 239), .ref (Y.2.2.1 240), .ref (Y.2.2.1 241), vI (0)]) := by
  refine (cel_o Y (M0 ((199 : Nat) : Int)) (c := 12) (by decide +kernel) (by decide)).trans (congrArg (fun l => (.inr (12, l) : va_E)) ?_)
  have v1 : M0 ((199 : Nat) : Int) 1 = 0 := by decide +kernel
  have v2 : M0 ((199 : Nat) : Int) 2 = 0 := by decide +kernel
  have v3 : M0 ((199 : Nat) : Int) 3 = 0 := by decide +kernel
  have v4 : M0 ((199 : Nat) : Int) 4 = 0 := by decide +kernel
  have v5 : M0 ((199 : Nat) : Int) 5 = 0 := by decide +kernel
  have v6 : M0 ((199 : Nat) : Int) 6 = 0 := by decide +kernel
  have v7 : M0 ((199 : Nat) : Int) 7 = 0 := by decide +kernel
  have v8 : M0 ((199 : Nat) : Int) 8 = 0 := by decide +kernel
  have v9 : M0 ((199 : Nat) : Int) 9 = -1 := by decide +kernel
  have v10 : M0 ((199 : Nat) : Int) 10 = 0 := by decide +kernel
  have v11 : M0 ((199 : Nat) : Int) 11 = -1 := by decide +kernel
  have v12 : M0 ((199 : Nat) : Int) 12 = -1 := by decide +kernel
  have v13 : M0 ((199 : Nat) : Int) 13 = 0 := by decide +kernel
  have v33 : M0 ((199 : Nat) : Int) 33 = 0 := by decide +kernel
  have v34 : M0 ((199 : Nat) : Int) 34 = 1 := by decide +kernel
  have v35 : M0 ((199 : Nat) : Int) 35 = 0 := by decide +kernel
  have v41 : M0 ((199 : Nat) : Int) 41 = 0 := by decide +kernel
  have v42 : M0 ((199 : Nat) : Int) 42 = 0 := by decide +kernel
  have v44 : M0 ((199 : Nat) : Int) 44 = 0 := by decide +kernel
  have v45 : M0 ((199 : Nat) : Int) 45 = 0 := by decide +kernel
  have v54 : M0 ((199 : Nat) : Int) 54 = 0 := by decide +kernel
  have v55 : M0 ((199 : Nat) : Int) 55 = 0 := by decide +kernel
  have v56 : M0 ((199 : Nat) : Int) 56 = 1 := by decide +kernel
  have v60 : M0 ((199 : Nat) : Int) 60 = 0 := by decide +kernel
  have v66 : M0 ((199 : Nat) : Int) 66 = 0 := by decide +kernel
  rw [fvc_12]
  rw [v1, v2, v3, v4, v5, v6, v7, v8, v9, v10, v11, v12, v13, v33, v34, v35, v41, v42, v44, v45, v54, v55, v56, v60, v66]
  try rfl
theorem cX_200 (Y : YT) : cel Y 200 (M0 ((200 : Nat) : Int)) = .inl (Y.2.1 20, 1800, .inl fun _ => 0) := cel_iz Y (by decide +kernel) (by decide +kernel) (by decide) (fun k => m0_z (by decide))
theorem cX_201 (Y : YT) : cel Y 201 (M0 ((201 : Nat) : Int)) = .inl (Y.2.1 20, 2, .inl fun _ => 0) := cel_iz Y (by decide +kernel) (by decide +kernel) (by decide) (fun k => m0_z (by decide))
theorem cX_202 (Y : YT) : cel Y 202 (M0 ((202 : Nat) : Int)) = .inl (Y.2.1 20, 2, .inl fun _ => 0) := cel_iz Y (by decide +kernel) (by decide +kernel) (by decide) (fun k => m0_z (by decide))
theorem cX_203 (Y : YT) : cel Y 203 (M0 ((203 : Nat) : Int)) = .inl (Y.2.1 20, 98, .inl fun _ => 0) := cel_iz Y (by decide +kernel) (by decide +kernel) (by decide) (fun k => m0_z (by decide))
theorem cX_204 (Y : YT) : cel Y 204 (M0 ((204 : Nat) : Int)) = .inl (Y.2.1 20, 98, .inl fun _ => 0) := cel_iz Y (by decide +kernel) (by decide +kernel) (by decide) (fun k => m0_z (by decide))
theorem cX_205 (Y : YT) : cel Y 205 (M0 ((205 : Nat) : Int)) = .inl (Y.2.1 20, 2, .inl fun _ => 0) := cel_iz Y (by decide +kernel) (by decide +kernel) (by decide) (fun k => m0_z (by decide))
theorem cX_206 (Y : YT) : cel Y 206 (M0 ((206 : Nat) : Int)) = .inl (Y.2.1 20, 12, .inl fun _ => 0) := cel_iz Y (by decide +kernel) (by decide +kernel) (by decide) (fun k => m0_z (by decide))
theorem cX_207 (Y : YT) : cel Y 207 (M0 ((207 : Nat) : Int)) = .inl (Y.2.1 20, 12, .inl fun _ => 0) := cel_iz Y (by decide +kernel) (by decide +kernel) (by decide) (fun k => m0_z (by decide))
theorem cX_208 (Y : YT) : cel Y 208 (M0 ((208 : Nat) : Int)) = .inl (Y.2.1 20, 2, .inl fun _ => 0) := cel_iz Y (by decide +kernel) (by decide +kernel) (by decide) (fun k => m0_z (by decide))
theorem cX_209 (Y : YT) : cel Y 209 (M0 ((209 : Nat) : Int)) = .inl (Y.2.1 20, 2, .inl fun _ => 0) := cel_iz Y (by decide +kernel) (by decide +kernel) (by decide) (fun k => m0_z (by decide))
theorem cX_210 (Y : YT) : cel Y 210 (M0 ((210 : Nat) : Int)) = .inl (Y.2.1 20, 16, .inl fun _ => 0) := cel_iz Y (by decide +kernel) (by decide +kernel) (by decide) (fun k => m0_z (by decide))
theorem cX_211 (Y : YT) : cel Y 211 (M0 ((211 : Nat) : Int)) = .inl (Y.2.1 20, 16, .inl fun _ => 0) := cel_iz Y (by decide +kernel) (by decide +kernel) (by decide) (fun k => m0_z (by decide))
theorem cX_212 (Y : YT) : cel Y 212 (M0 ((212 : Nat) : Int)) = .inl (Y.2.1 20, 16, .inl fun _ => 0) := cel_iz Y (by decide +kernel) (by decide +kernel) (by decide) (fun k => m0_z (by decide))
theorem cX_213 (Y : YT) : cel Y 213 (M0 ((213 : Nat) : Int)) = .inl (Y.2.1 20, 2, .inl fun _ => 0) := cel_iz Y (by decide +kernel) (by decide +kernel) (by decide) (fun k => m0_z (by decide))
theorem cX_215 (Y : YT) : cel Y 215 (M0 ((215 : Nat) : Int)) = .inl (Y.2.1 20, 4, .inl fun _ => 0) := cel_iz Y (by decide +kernel) (by decide +kernel) (by decide) (fun k => m0_z (by decide))
theorem cX_216 (Y : YT) : cel Y 216 (M0 ((216 : Nat) : Int)) = .inl (Y.2.1 20, 3200, .inl fun _ => 0) := cel_iz Y (by decide +kernel) (by decide +kernel) (by decide) (fun k => m0_z (by decide))
theorem cX_217 (Y : YT) : cel Y 217 (M0 ((217 : Nat) : Int)) = .inl (Y.2.1 20, 3200, .inl fun _ => 0) := cel_iz Y (by decide +kernel) (by decide +kernel) (by decide) (fun k => m0_z (by decide))
theorem cX_218 (Y : YT) : cel Y 218 (M0 ((218 : Nat) : Int)) = .inl (Y.2.1 21, 14, .inr (.inl fun _ => 0)) := cel_lz Y (by decide +kernel) (by decide +kernel) (fun k => m0_z (by decide))
theorem cX_219 (Y : YT) : cel Y 219 (M0 ((219 : Nat) : Int)) = .inl (Y.2.1 21, 12, .inr (.inl fun _ => 0)) := cel_lz Y (by decide +kernel) (by decide +kernel) (fun k => m0_z (by decide))
theorem cX_220 (Y : YT) : cel Y 220 (M0 ((220 : Nat) : Int)) = .inl (Y.2.1 20, 20, .inl fun _ => 0) := cel_iz Y (by decide +kernel) (by decide +kernel) (by decide) (fun k => m0_z (by decide))
theorem cX_221 (Y : YT) : cel Y 221 (M0 ((221 : Nat) : Int)) = .inl (Y.2.1 20, 20, .inl fun _ => 0) := cel_iz Y (by decide +kernel) (by decide +kernel) (by decide) (fun k => m0_z (by decide))
theorem cX_222 (Y : YT) : cel Y 222 (M0 ((222 : Nat) : Int)) = .inl (Y.2.1 22, 20, .inl fun _ => 0) := cel_iz Y (by decide +kernel) (by decide +kernel) (by decide) (fun k => m0_z (by decide))
theorem cX_223 (Y : YT) : cel Y 223 (M0 ((223 : Nat) : Int)) = .inl (Y.2.1 20, 20, .inl fun _ => 0) := cel_iz Y (by decide +kernel) (by decide +kernel) (by decide) (fun k => m0_z (by decide))
theorem cX_224 (Y : YT) : cel Y 224 (M0 ((224 : Nat) : Int)) = .inl (Y.2.1 20, 20, .inl fun _ => 0) := cel_iz Y (by decide +kernel) (by decide +kernel) (by decide) (fun k => m0_z (by decide))
theorem cX_225 (Y : YT) : cel Y 225 (M0 ((225 : Nat) : Int)) = .inl (Y.2.1 20, 500, .inl fun _ => 0) := cel_iz Y (by decide +kernel) (by decide +kernel) (by decide) (fun k => m0_z (by decide))
theorem cX_226 (Y : YT) : cel Y 226 (M0 ((226 : Nat) : Int)) = .inl (Y.2.1 20, 6, .inl fun _ => 0) := cel_iz Y (by decide +kernel) (by decide +kernel) (by decide) (fun k => m0_z (by decide))
theorem cX_227 (Y : YT) : cel Y 227 (M0 ((227 : Nat) : Int)) = .inl (Y.2.1 20, 22, .inl fun _ => 0) := cel_iz Y (by decide +kernel) (by decide +kernel) (by decide) (fun k => m0_z (by decide))
theorem cX_228 (Y : YT) : cel Y 228 (M0 ((228 : Nat) : Int)) = .inl (Y.2.1 20, 132, .inl fun _ => 0) := cel_iz Y (by decide +kernel) (by decide +kernel) (by decide) (fun k => m0_z (by decide))
theorem cX_229 (Y : YT) : cel Y 229 (M0 ((229 : Nat) : Int)) = .inl (Y.2.1 20, 22, .inl fun _ => 0) := cel_iz Y (by decide +kernel) (by decide +kernel) (by decide) (fun k => m0_z (by decide))
theorem cX_230 (Y : YT) : cel Y 230 (M0 ((230 : Nat) : Int)) = .inl (Y.2.1 20, 22, .inl fun _ => 0) := cel_iz Y (by decide +kernel) (by decide +kernel) (by decide) (fun k => m0_z (by decide))
theorem cX_231 (Y : YT) : cel Y 231 (M0 ((231 : Nat) : Int)) = .inl (Y.2.1 20, 594, .inl fun _ => 0) := cel_iz Y (by decide +kernel) (by decide +kernel) (by decide) (fun k => m0_z (by decide))
theorem cX_232 (Y : YT) : cel Y 232 (M0 ((232 : Nat) : Int)) = .inl (Y.2.1 20, 22, .inl fun _ => 0) := cel_iz Y (by decide +kernel) (by decide +kernel) (by decide) (fun k => m0_z (by decide))
theorem cX_233 (Y : YT) : cel Y 233 (M0 ((233 : Nat) : Int)) = .inl (Y.2.1 20, 2640, .inl fun _ => 0) := cel_iz Y (by decide +kernel) (by decide +kernel) (by decide) (fun k => m0_z (by decide))
theorem cX_234 (Y : YT) : cel Y 234 (M0 ((234 : Nat) : Int)) = .inl (Y.2.1 21, 500, .inr (.inl fun _ => 0)) := cel_lz Y (by decide +kernel) (by decide +kernel) (fun k => m0_z (by decide))
theorem cX_235 (Y : YT) : cel Y 235 (M0 ((235 : Nat) : Int)) = .inl (Y.2.1 20, 12, .inl fun _ => 0) := cel_iz Y (by decide +kernel) (by decide +kernel) (by decide) (fun k => m0_z (by decide))
theorem cX_236 (Y : YT) : cel Y 236 (M0 ((236 : Nat) : Int)) = .inl (Y.2.1 20, 54, .inl fun _ => 0) := cel_iz Y (by decide +kernel) (by decide +kernel) (by decide) (fun k => m0_z (by decide))
theorem cX_237 (Y : YT) : cel Y 237 (M0 ((237 : Nat) : Int)) = .inl (Y.2.1 20, 16, .inl fun _ => 0) := cel_iz Y (by decide +kernel) (by decide +kernel) (by decide) (fun k => m0_z (by decide))
theorem cX_238 (Y : YT) : cel Y 238 (M0 ((238 : Nat) : Int)) = .inl (Y.2.1 20, 16, .inl fun _ => 0) := cel_iz Y (by decide +kernel) (by decide +kernel) (by decide) (fun k => m0_z (by decide))
theorem cX_239 (Y : YT) : cel Y 239 (M0 ((239 : Nat) : Int)) = .inl (Y.2.1 20, 16, .inl fun _ => 0) := cel_iz Y (by decide +kernel) (by decide +kernel) (by decide) (fun k => m0_z (by decide))
theorem cX_240 (Y : YT) : cel Y 240 (M0 ((240 : Nat) : Int)) = .inl (Y.2.1 20, 441, .inl fun _ => 0) := cel_iz Y (by decide +kernel) (by decide +kernel) (by decide) (fun k => m0_z (by decide))
theorem cX_241 (Y : YT) : cel Y 241 (M0 ((241 : Nat) : Int)) = .inl (Y.2.1 20, 60, .inl fun _ => 0) := cel_iz Y (by decide +kernel) (by decide +kernel) (by decide) (fun k => m0_z (by decide))
def wA (Y : YT) (qx : Nat) (u : SX11_) (qm : Nat) (v : Nat → Nat) : va_W := bX11 Y qx u ++ bX12 Y qm v
theorem wa_0 (Y : YT) (qx : Nat) (u : SX11_) (qm : Nat) (v : Nat → Nat) : (wA Y qx u qm v)[0]? = some (qx, .inr (11, [.ref (u.1), .ref (u.2.2.1), .ref (u.2.2.2.2.1), .ref (u.2.2.2.2.2.2.1), .ref (u.2.2.2.2.2.2.2.2.1), .ref (u.2.2.2.2.2.2.2.2.2.2.1), .ref (u.2.2.2.2.2.2.2.2.2.2.2.2.1), .ref (u.2.2.2.2.2.2.2.2.2.2.2.2.2.2.1), .int 0, .ref (u.2.2.2.2.2.2.2.2.2.2.2.2.2.2.2.2.1), .ref (u.2.2.2.2.2.2.2.2.2.2.2.2.2.2.2.2.2.2.1), .ref (u.2.2.2.2.2.2.2.2.2.2.2.2.2.2.2.2.2.2.2.2.1), .ref (u.2.2.2.2.2.2.2.2.2.2.2.2.2.2.2.2.2.2.2.2.2.2), vI (1)])) := rfl
theorem wa_1 (Y : YT) (qx : Nat) (u : SX11_) (qm : Nat) (v : Nat → Nat) : (wA Y qx u qm v)[1]? = some (u.1, .inr (7, [.ref (u.2.1.1), .int 0, .int 0, .int 0, .int 0, .int 0, .int 0, vI (-1), .ref (u.2.1.2), .int 0, .int 0])) := rfl
theorem wa_2 (Y : YT) (qx : Nat) (u : SX11_) (qm : Nat) (v : Nat → Nat) : (wA Y qx u qm v)[2]? = some (u.2.1.1, .inl (Y.2.1 20, 1600, .inl fun _ => 0)) := rfl
theorem wa_3 (Y : YT) (qx : Nat) (u : SX11_) (qm : Nat) (v : Nat → Nat) : (wA Y qx u qm v)[3]? = some (u.2.1.2, .inl (Y.2.1 20, 24, .inl fun j => if j < 24 then iI (pkv j 6) else 0)) := rfl
theorem wa_4 (Y : YT) (qx : Nat) (u : SX11_) (qm : Nat) (v : Nat → Nat) : (wA Y qx u qm v)[4]? = some (u.2.2.1, .inr (9, [.ref (u.1), .ref (u.2.2.2.1.1), .null, .int 0])) := rfl
theorem wa_5 (Y : YT) (qx : Nat) (u : SX11_) (qm : Nat) (v : Nat → Nat) : (wA Y qx u qm v)[5]? = some (u.2.2.2.1.1, .inr (2, [.ref (u.1), .null, .int 0])) := rfl
theorem wa_6 (Y : YT) (qx : Nat) (u : SX11_) (qm : Nat) (v : Nat → Nat) : (wA Y qx u qm v)[6]? = some (u.2.2.2.2.1, .inr (8, [.int 0, .ref (u.2.2.2.2.2.1.1), .int 0, .ref (u.2.2.2.2.2.1.2.1), .ref (u.2.2.2.2.2.1.2.2.1), .int 0, .ref (u.2.2.2.2.2.1.2.2.2.1), .ref (u.2.2.2.2.2.1.2.2.2.2.1), .ref (u.2.2.2.2.2.1.2.2.2.2.2.1), .int 0, .ref (u.2.2.2.2.2.1.2.2.2.2.2.2.1), .int 0, .ref (u.2.2.2.2.2.1.2.2.2.2.2.2.2.2.1), .ref (u.2.2.2.2.2.1.2.2.2.2.2.2.2.2.2.2.1)])) := rfl
theorem wa_7 (Y : YT) (qx : Nat) (u : SX11_) (qm : Nat) (v : Nat → Nat) : (wA Y qx u qm v)[7]? = some (u.2.2.2.2.2.1.1, .inl (Y.2.1 20, 7, .inl fun _ => 0)) := rfl
theorem wa_8 (Y : YT) (qx : Nat) (u : SX11_) (qm : Nat) (v : Nat → Nat) : (wA Y qx u qm v)[8]? = some (u.2.2.2.2.2.1.2.1, .inl (Y.2.1 20, 7, .inl fun _ => 0)) := rfl
theorem wa_9 (Y : YT) (qx : Nat) (u : SX11_) (qm : Nat) (v : Nat → Nat) : (wA Y qx u qm v)[9]? = some (u.2.2.2.2.2.1.2.2.1, .inl (Y.2.1 20, 49, .inl fun _ => 0)) := rfl
theorem wa_10 (Y : YT) (qx : Nat) (u : SX11_) (qm : Nat) (v : Nat → Nat) : (wA Y qx u qm v)[10]? = some (u.2.2.2.2.2.1.2.2.2.1, .inl (Y.2.1 20, 6, .inl fun _ => 0)) := rfl
theorem wa_11 (Y : YT) (qx : Nat) (u : SX11_) (qm : Nat) (v : Nat → Nat) : (wA Y qx u qm v)[11]? = some (u.2.2.2.2.2.1.2.2.2.2.1, .inl (Y.2.1 20, 6, .inl fun _ => 0)) := rfl
theorem wa_12 (Y : YT) (qx : Nat) (u : SX11_) (qm : Nat) (v : Nat → Nat) : (wA Y qx u qm v)[12]? = some (u.2.2.2.2.2.1.2.2.2.2.2.1, .inl (Y.2.1 20, 6, .inl fun _ => 0)) := rfl
theorem wa_13 (Y : YT) (qx : Nat) (u : SX11_) (qm : Nat) (v : Nat → Nat) : (wA Y qx u qm v)[13]? = some (u.2.2.2.2.2.1.2.2.2.2.2.2.1, .inr (5, [.int 0, .ref (u.2.2.2.2.2.1.2.2.2.2.2.2.2.1.1), .ref (u.2.2.2.2.2.1.2.2.2.2.2.2.2.1.2.1), .ref (u.2.2.2.2.2.1.2.2.2.2.2.2.2.1.2.2)])) := rfl
theorem wa_14 (Y : YT) (qx : Nat) (u : SX11_) (qm : Nat) (v : Nat → Nat) : (wA Y qx u qm v)[14]? = some (u.2.2.2.2.2.1.2.2.2.2.2.2.2.1.1, .inl (Y.2.1 20, 9, .inl fun _ => 0)) := rfl
theorem wa_15 (Y : YT) (qx : Nat) (u : SX11_) (qm : Nat) (v : Nat → Nat) : (wA Y qx u qm v)[15]? = some (u.2.2.2.2.2.1.2.2.2.2.2.2.2.1.2.1, .inl (Y.2.1 20, 9, .inl fun _ => 0)) := rfl
theorem wa_16 (Y : YT) (qx : Nat) (u : SX11_) (qm : Nat) (v : Nat → Nat) : (wA Y qx u qm v)[16]? = some (u.2.2.2.2.2.1.2.2.2.2.2.2.2.1.2.2, .inl (Y.2.1 20, 9, .inl fun _ => 0)) := rfl
theorem wa_17 (Y : YT) (qx : Nat) (u : SX11_) (qm : Nat) (v : Nat → Nat) : (wA Y qx u qm v)[17]? = some (u.2.2.2.2.2.1.2.2.2.2.2.2.2.2.1, .inr (1, [.ref (u.2.2.2.2.2.1.2.2.2.2.2.2.2.2.2.1.1), .ref (u.2.2.2.2.2.1.2.2.2.2.2.2.2.2.2.1.2), .int 0])) := rfl
theorem wa_18 (Y : YT) (qx : Nat) (u : SX11_) (qm : Nat) (v : Nat → Nat) : (wA Y qx u qm v)[18]? = some (u.2.2.2.2.2.1.2.2.2.2.2.2.2.2.2.1.1, .inl (Y.2.1 20, 1600, .inl fun _ => 0)) := rfl
theorem wa_19 (Y : YT) (qx : Nat) (u : SX11_) (qm : Nat) (v : Nat → Nat) : (wA Y qx u qm v)[19]? = some (u.2.2.2.2.2.1.2.2.2.2.2.2.2.2.2.1.2, .inl (Y.2.1 20, 64, .inl fun _ => 0)) := rfl
theorem wa_20 (Y : YT) (qx : Nat) (u : SX11_) (qm : Nat) (v : Nat → Nat) : (wA Y qx u qm v)[20]? = some (u.2.2.2.2.2.1.2.2.2.2.2.2.2.2.2.2.1, .inr (1, [.ref (u.2.2.2.2.2.1.2.2.2.2.2.2.2.2.2.2.2.1), .ref (u.2.2.2.2.2.1.2.2.2.2.2.2.2.2.2.2.2.2), .int 0])) := rfl
theorem wa_21 (Y : YT) (qx : Nat) (u : SX11_) (qm : Nat) (v : Nat → Nat) : (wA Y qx u qm v)[21]? = some (u.2.2.2.2.2.1.2.2.2.2.2.2.2.2.2.2.2.1, .inl (Y.2.1 20, 1600, .inl fun _ => 0)) := rfl
theorem wa_22 (Y : YT) (qx : Nat) (u : SX11_) (qm : Nat) (v : Nat → Nat) : (wA Y qx u qm v)[22]? = some (u.2.2.2.2.2.1.2.2.2.2.2.2.2.2.2.2.2.2, .inl (Y.2.1 20, 64, .inl fun _ => 0)) := rfl
theorem wa_23 (Y : YT) (qx : Nat) (u : SX11_) (qm : Nat) (v : Nat → Nat) : (wA Y qx u qm v)[23]? = some (u.2.2.2.2.2.2.1, .inr (8, [.int 0, .ref (u.2.2.2.2.2.2.2.1.1), .int 0, .ref (u.2.2.2.2.2.2.2.1.2.1), .ref (u.2.2.2.2.2.2.2.1.2.2.1), .int 0, .ref (u.2.2.2.2.2.2.2.1.2.2.2.1), .ref (u.2.2.2.2.2.2.2.1.2.2.2.2.1), .ref (u.2.2.2.2.2.2.2.1.2.2.2.2.2.1), .int 0, .ref (u.2.2.2.2.2.2.2.1.2.2.2.2.2.2.1), .int 0, .ref (u.2.2.2.2.2.2.2.1.2.2.2.2.2.2.2.2.1), .ref (u.2.2.2.2.2.2.2.1.2.2.2.2.2.2.2.2.2.2.1)])) := rfl
theorem wa_24 (Y : YT) (qx : Nat) (u : SX11_) (qm : Nat) (v : Nat → Nat) : (wA Y qx u qm v)[24]? = some (u.2.2.2.2.2.2.2.1.1, .inl (Y.2.1 20, 7, .inl fun _ => 0)) := rfl
theorem wa_25 (Y : YT) (qx : Nat) (u : SX11_) (qm : Nat) (v : Nat → Nat) : (wA Y qx u qm v)[25]? = some (u.2.2.2.2.2.2.2.1.2.1, .inl (Y.2.1 20, 7, .inl fun _ => 0)) := rfl
theorem wa_26 (Y : YT) (qx : Nat) (u : SX11_) (qm : Nat) (v : Nat → Nat) : (wA Y qx u qm v)[26]? = some (u.2.2.2.2.2.2.2.1.2.2.1, .inl (Y.2.1 20, 49, .inl fun _ => 0)) := rfl
theorem wa_27 (Y : YT) (qx : Nat) (u : SX11_) (qm : Nat) (v : Nat → Nat) : (wA Y qx u qm v)[27]? = some (u.2.2.2.2.2.2.2.1.2.2.2.1, .inl (Y.2.1 20, 6, .inl fun _ => 0)) := rfl
theorem wa_28 (Y : YT) (qx : Nat) (u : SX11_) (qm : Nat) (v : Nat → Nat) : (wA Y qx u qm v)[28]? = some (u.2.2.2.2.2.2.2.1.2.2.2.2.1, .inl (Y.2.1 20, 6, .inl fun _ => 0)) := rfl
theorem wa_29 (Y : YT) (qx : Nat) (u : SX11_) (qm : Nat) (v : Nat → Nat) : (wA Y qx u qm v)[29]? = some (u.2.2.2.2.2.2.2.1.2.2.2.2.2.1, .inl (Y.2.1 20, 6, .inl fun _ => 0)) := rfl
theorem wa_30 (Y : YT) (qx : Nat) (u : SX11_) (qm : Nat) (v : Nat → Nat) : (wA Y qx u qm v)[30]? = some (u.2.2.2.2.2.2.2.1.2.2.2.2.2.2.1, .inr (5, [.int 0, .ref (u.2.2.2.2.2.2.2.1.2.2.2.2.2.2.2.1.1), .ref (u.2.2.2.2.2.2.2.1.2.2.2.2.2.2.2.1.2.1), .ref (u.2.2.2.2.2.2.2.1.2.2.2.2.2.2.2.1.2.2)])) := rfl
theorem wa_31 (Y : YT) (qx : Nat) (u : SX11_) (qm : Nat) (v : Nat → Nat) : (wA Y qx u qm v)[31]? = some (u.2.2.2.2.2.2.2.1.2.2.2.2.2.2.2.1.1, .inl (Y.2.1 20, 9, .inl fun _ => 0)) := rfl
theorem wa_32 (Y : YT) (qx : Nat) (u : SX11_) (qm : Nat) (v : Nat → Nat) : (wA Y qx u qm v)[32]? = some (u.2.2.2.2.2.2.2.1.2.2.2.2.2.2.2.1.2.1, .inl (Y.2.1 20, 9, .inl fun _ => 0)) := rfl
theorem wa_33 (Y : YT) (qx : Nat) (u : SX11_) (qm : Nat) (v : Nat → Nat) : (wA Y qx u qm v)[33]? = some (u.2.2.2.2.2.2.2.1.2.2.2.2.2.2.2.1.2.2, .inl (Y.2.1 20, 9, .inl fun _ => 0)) := rfl
theorem wa_34 (Y : YT) (qx : Nat) (u : SX11_) (qm : Nat) (v : Nat → Nat) : (wA Y qx u qm v)[34]? = some (u.2.2.2.2.2.2.2.1.2.2.2.2.2.2.2.2.1, .inr (1, [.ref (u.2.2.2.2.2.2.2.1.2.2.2.2.2.2.2.2.2.1.1), .ref (u.2.2.2.2.2.2.2.1.2.2.2.2.2.2.2.2.2.1.2), .int 0])) := rfl
theorem wa_35 (Y : YT) (qx : Nat) (u : SX11_) (qm : Nat) (v : Nat → Nat) : (wA Y qx u qm v)[35]? = some (u.2.2.2.2.2.2.2.1.2.2.2.2.2.2.2.2.2.1.1, .inl (Y.2.1 20, 1600, .inl fun _ => 0)) := rfl
theorem wa_36 (Y : YT) (qx : Nat) (u : SX11_) (qm : Nat) (v : Nat → Nat) : (wA Y qx u qm v)[36]? = some (u.2.2.2.2.2.2.2.1.2.2.2.2.2.2.2.2.2.1.2, .inl (Y.2.1 20, 64, .inl fun _ => 0)) := rfl
theorem wa_37 (Y : YT) (qx : Nat) (u : SX11_) (qm : Nat) (v : Nat → Nat) : (wA Y qx u qm v)[37]? = some (u.2.2.2.2.2.2.2.1.2.2.2.2.2.2.2.2.2.2.1, .inr (1, [.ref (u.2.2.2.2.2.2.2.1.2.2.2.2.2.2.2.2.2.2.2.1), .ref (u.2.2.2.2.2.2.2.1.2.2.2.2.2.2.2.2.2.2.2.2), .int 0])) := rfl
theorem wa_38 (Y : YT) (qx : Nat) (u : SX11_) (qm : Nat) (v : Nat → Nat) : (wA Y qx u qm v)[38]? = some (u.2.2.2.2.2.2.2.1.2.2.2.2.2.2.2.2.2.2.2.1, .inl (Y.2.1 20, 1600, .inl fun _ => 0)) := rfl
theorem wa_39 (Y : YT) (qx : Nat) (u : SX11_) (qm : Nat) (v : Nat → Nat) : (wA Y qx u qm v)[39]? = some (u.2.2.2.2.2.2.2.1.2.2.2.2.2.2.2.2.2.2.2.2, .inl (Y.2.1 20, 64, .inl fun _ => 0)) := rfl
theorem wa_40 (Y : YT) (qx : Nat) (u : SX11_) (qm : Nat) (v : Nat → Nat) : (wA Y qx u qm v)[40]? = some (u.2.2.2.2.2.2.2.2.1, .inr (6, [.int 0, .ref (u.2.2.2.2.2.2.2.2.2.1.1), .int 0, .ref (u.2.2.2.2.2.2.2.2.2.1.2.1), .int 0])) := rfl
theorem wa_41 (Y : YT) (qx : Nat) (u : SX11_) (qm : Nat) (v : Nat → Nat) : (wA Y qx u qm v)[41]? = some (u.2.2.2.2.2.2.2.2.2.1.1, .inl (Y.2.1 20, 6, .inl fun _ => 0)) := rfl
theorem wa_42 (Y : YT) (qx : Nat) (u : SX11_) (qm : Nat) (v : Nat → Nat) : (wA Y qx u qm v)[42]? = some (u.2.2.2.2.2.2.2.2.2.1.2.1, .inr (5, [.int 0, .ref (u.2.2.2.2.2.2.2.2.2.1.2.2.1), .ref (u.2.2.2.2.2.2.2.2.2.1.2.2.2.1), .ref (u.2.2.2.2.2.2.2.2.2.1.2.2.2.2)])) := rfl
theorem wa_43 (Y : YT) (qx : Nat) (u : SX11_) (qm : Nat) (v : Nat → Nat) : (wA Y qx u qm v)[43]? = some (u.2.2.2.2.2.2.2.2.2.1.2.2.1, .inl (Y.2.1 20, 9, .inl fun _ => 0)) := rfl
theorem wa_44 (Y : YT) (qx : Nat) (u : SX11_) (qm : Nat) (v : Nat → Nat) : (wA Y qx u qm v)[44]? = some (u.2.2.2.2.2.2.2.2.2.1.2.2.2.1, .inl (Y.2.1 20, 9, .inl fun _ => 0)) := rfl
theorem wa_45 (Y : YT) (qx : Nat) (u : SX11_) (qm : Nat) (v : Nat → Nat) : (wA Y qx u qm v)[45]? = some (u.2.2.2.2.2.2.2.2.2.1.2.2.2.2, .inl (Y.2.1 20, 9, .inl fun _ => 0)) := rfl
theorem wa_46 (Y : YT) (qx : Nat) (u : SX11_) (qm : Nat) (v : Nat → Nat) : (wA Y qx u qm v)[46]? = some (u.2.2.2.2.2.2.2.2.2.2.1, .inr (6, [.int 0, .ref (u.2.2.2.2.2.2.2.2.2.2.2.1.1), .int 0, .ref (u.2.2.2.2.2.2.2.2.2.2.2.1.2.1), .int 0])) := rfl
theorem wa_47 (Y : YT) (qx : Nat) (u : SX11_) (qm : Nat) (v : Nat → Nat) : (wA Y qx u qm v)[47]? = some (u.2.2.2.2.2.2.2.2.2.2.2.1.1, .inl (Y.2.1 20, 6, .inl fun _ => 0)) := rfl
theorem wa_48 (Y : YT) (qx : Nat) (u : SX11_) (qm : Nat) (v : Nat → Nat) : (wA Y qx u qm v)[48]? = some (u.2.2.2.2.2.2.2.2.2.2.2.1.2.1, .inr (5, [.int 0, .ref (u.2.2.2.2.2.2.2.2.2.2.2.1.2.2.1), .ref (u.2.2.2.2.2.2.2.2.2.2.2.1.2.2.2.1), .ref (u.2.2.2.2.2.2.2.2.2.2.2.1.2.2.2.2)])) := rfl
theorem wa_49 (Y : YT) (qx : Nat) (u : SX11_) (qm : Nat) (v : Nat → Nat) : (wA Y qx u qm v)[49]? = some (u.2.2.2.2.2.2.2.2.2.2.2.1.2.2.1, .inl (Y.2.1 20, 9, .inl fun _ => 0)) := rfl
theorem wa_50 (Y : YT) (qx : Nat) (u : SX11_) (qm : Nat) (v : Nat → Nat) : (wA Y qx u qm v)[50]? = some (u.2.2.2.2.2.2.2.2.2.2.2.1.2.2.2.1, .inl (Y.2.1 20, 9, .inl fun _ => 0)) := rfl
theorem wa_51 (Y : YT) (qx : Nat) (u : SX11_) (qm : Nat) (v : Nat → Nat) : (wA Y qx u qm v)[51]? = some (u.2.2.2.2.2.2.2.2.2.2.2.1.2.2.2.2, .inl (Y.2.1 20, 9, .inl fun _ => 0)) := rfl
theorem wa_52 (Y : YT) (qx : Nat) (u : SX11_) (qm : Nat) (v : Nat → Nat) : (wA Y qx u qm v)[52]? = some (u.2.2.2.2.2.2.2.2.2.2.2.2.1, .inr (10, [.ref (u.2.2.2.2.2.2.2.2.2.2.2.2.2.1.1), .ref (u.2.2.2.2.2.2.2.2.2.2.2.2.2.1.2.1), .ref (u.2.2.2.2.2.2.2.2.2.2.2.2.2.1.2.2.1), .ref (u.2.2.2.2.2.2.2.2.2.2.2.2.2.1.2.2.2), .null, .null])) := rfl
theorem wa_53 (Y : YT) (qx : Nat) (u : SX11_) (qm : Nat) (v : Nat → Nat) : (wA Y qx u qm v)[53]? = some (u.2.2.2.2.2.2.2.2.2.2.2.2.2.1.1, .inl (Y.2.1 20, 54, .inl fun _ => 0)) := rfl
theorem wa_54 (Y : YT) (qx : Nat) (u : SX11_) (qm : Nat) (v : Nat → Nat) : (wA Y qx u qm v)[54]? = some (u.2.2.2.2.2.2.2.2.2.2.2.2.2.1.2.1, .inl (Y.2.1 20, 63, .inl fun _ => 0)) := rfl
theorem wa_55 (Y : YT) (qx : Nat) (u : SX11_) (qm : Nat) (v : Nat → Nat) : (wA Y qx u qm v)[55]? = some (u.2.2.2.2.2.2.2.2.2.2.2.2.2.1.2.2.1, .inl (Y.2.1 20, 63, .inl fun _ => 0)) := rfl
theorem wa_56 (Y : YT) (qx : Nat) (u : SX11_) (qm : Nat) (v : Nat → Nat) : (wA Y qx u qm v)[56]? = some (u.2.2.2.2.2.2.2.2.2.2.2.2.2.1.2.2.2, .inl (Y.2.1 20, 7, .inl fun _ => 0)) := rfl
theorem wa_57 (Y : YT) (qx : Nat) (u : SX11_) (qm : Nat) (v : Nat → Nat) : (wA Y qx u qm v)[57]? = some (u.2.2.2.2.2.2.2.2.2.2.2.2.2.2.1, .inr (10, [.ref (u.2.2.2.2.2.2.2.2.2.2.2.2.2.2.2.1.1), .ref (u.2.2.2.2.2.2.2.2.2.2.2.2.2.2.2.1.2.1), .ref (u.2.2.2.2.2.2.2.2.2.2.2.2.2.2.2.1.2.2.1), .ref (u.2.2.2.2.2.2.2.2.2.2.2.2.2.2.2.1.2.2.2), .null, .null])) := rfl
theorem wa_58 (Y : YT) (qx : Nat) (u : SX11_) (qm : Nat) (v : Nat → Nat) : (wA Y qx u qm v)[58]? = some (u.2.2.2.2.2.2.2.2.2.2.2.2.2.2.2.1.1, .inl (Y.2.1 20, 54, .inl fun _ => 0)) := rfl
theorem wa_59 (Y : YT) (qx : Nat) (u : SX11_) (qm : Nat) (v : Nat → Nat) : (wA Y qx u qm v)[59]? = some (u.2.2.2.2.2.2.2.2.2.2.2.2.2.2.2.1.2.1, .inl (Y.2.1 20, 63, .inl fun _ => 0)) := rfl
theorem wa_60 (Y : YT) (qx : Nat) (u : SX11_) (qm : Nat) (v : Nat → Nat) : (wA Y qx u qm v)[60]? = some (u.2.2.2.2.2.2.2.2.2.2.2.2.2.2.2.1.2.2.1, .inl (Y.2.1 20, 63, .inl fun _ => 0)) := rfl
theorem wa_61 (Y : YT) (qx : Nat) (u : SX11_) (qm : Nat) (v : Nat → Nat) : (wA Y qx u qm v)[61]? = some (u.2.2.2.2.2.2.2.2.2.2.2.2.2.2.2.1.2.2.2, .inl (Y.2.1 20, 7, .inl fun _ => 0)) := rfl
theorem wa_62 (Y : YT) (qx : Nat) (u : SX11_) (qm : Nat) (v : Nat → Nat) : (wA Y qx u qm v)[62]? = some (u.2.2.2.2.2.2.2.2.2.2.2.2.2.2.2.2.1, .inr (3, [.ref (u.2.2.2.2.2.2.2.2.2.2.2.2.2.2.2.2.2.1.1), .int 0, .int 0, .ref (u.2.2.2.2.2.2.2.2.2.2.2.2.2.2.2.2.2.1.2.1)])) := rfl
theorem wa_63 (Y : YT) (qx : Nat) (u : SX11_) (qm : Nat) (v : Nat → Nat) : (wA Y qx u qm v)[63]? = some (u.2.2.2.2.2.2.2.2.2.2.2.2.2.2.2.2.2.1.1, .inl (Y.2.1 23, 20, .inr (.inr (.inr (.inr fun j => if j < 20 then some (u.2.2.2.2.2.2.2.2.2.2.2.2.2.2.2.2.2.1.2.2 j).1 else none))))) := rfl
theorem wa_64 (Y : YT) (qx : Nat) (u : SX11_) (qm : Nat) (v : Nat → Nat) : (wA Y qx u qm v)[64]? = some (u.2.2.2.2.2.2.2.2.2.2.2.2.2.2.2.2.2.1.2.1, .inl (Y.2.1 20, 2997, .inl fun _ => 0)) := rfl
theorem wa_65 (Y : YT) (qx : Nat) (u : SX11_) (qm : Nat) (v : Nat → Nat) : (wA Y qx u qm v)[65]? = some ((u.2.2.2.2.2.2.2.2.2.2.2.2.2.2.2.2.2.1.2.2 0).1, .inr (6, [.int 0, .ref (u.2.2.2.2.2.2.2.2.2.2.2.2.2.2.2.2.2.1.2.2 0).2.1, .int 0, .ref (u.2.2.2.2.2.2.2.2.2.2.2.2.2.2.2.2.2.1.2.2 0).2.2.1, .int 0])) := rfl
theorem wa_66 (Y : YT) (qx : Nat) (u : SX11_) (qm : Nat) (v : Nat → Nat) : (wA Y qx u qm v)[66]? = some ((u.2.2.2.2.2.2.2.2.2.2.2.2.2.2.2.2.2.1.2.2 0).2.1, .inl (Y.2.1 20, 6, .inl fun _ => 0)) := rfl
theorem wa_67 (Y : YT) (qx : Nat) (u : SX11_) (qm : Nat) (v : Nat → Nat) : (wA Y qx u qm v)[67]? = some ((u.2.2.2.2.2.2.2.2.2.2.2.2.2.2.2.2.2.1.2.2 0).2.2.1, .inr (5, [.int 0, .ref (u.2.2.2.2.2.2.2.2.2.2.2.2.2.2.2.2.2.1.2.2 0).2.2.2.1, .ref (u.2.2.2.2.2.2.2.2.2.2.2.2.2.2.2.2.2.1.2.2 0).2.2.2.2.1, .ref (u.2.2.2.2.2.2.2.2.2.2.2.2.2.2.2.2.2.1.2.2 0).2.2.2.2.2])) := rfl
theorem wa_68 (Y : YT) (qx : Nat) (u : SX11_) (qm : Nat) (v : Nat → Nat) : (wA Y qx u qm v)[68]? = some ((u.2.2.2.2.2.2.2.2.2.2.2.2.2.2.2.2.2.1.2.2 0).2.2.2.1, .inl (Y.2.1 20, 9, .inl fun _ => 0)) := rfl
theorem wa_69 (Y : YT) (qx : Nat) (u : SX11_) (qm : Nat) (v : Nat → Nat) : (wA Y qx u qm v)[69]? = some ((u.2.2.2.2.2.2.2.2.2.2.2.2.2.2.2.2.2.1.2.2 0).2.2.2.2.1, .inl (Y.2.1 20, 9, .inl fun _ => 0)) := rfl
theorem wa_70 (Y : YT) (qx : Nat) (u : SX11_) (qm : Nat) (v : Nat → Nat) : (wA Y qx u qm v)[70]? = some ((u.2.2.2.2.2.2.2.2.2.2.2.2.2.2.2.2.2.1.2.2 0).2.2.2.2.2, .inl (Y.2.1 20, 9, .inl fun _ => 0)) := rfl
theorem wa_71 (Y : YT) (qx : Nat) (u : SX11_) (qm : Nat) (v : Nat → Nat) : (wA Y qx u qm v)[71]? = some ((u.2.2.2.2.2.2.2.2.2.2.2.2.2.2.2.2.2.1.2.2 1).1, .inr (6, [.int 0, .ref (u.2.2.2.2.2.2.2.2.2.2.2.2.2.2.2.2.2.1.2.2 1).2.1, .int 0, .ref (u.2.2.2.2.2.2.2.2.2.2.2.2.2.2.2.2.2.1.2.2 1).2.2.1, .int 0])) := rfl
theorem wa_72 (Y : YT) (qx : Nat) (u : SX11_) (qm : Nat) (v : Nat → Nat) : (wA Y qx u qm v)[72]? = some ((u.2.2.2.2.2.2.2.2.2.2.2.2.2.2.2.2.2.1.2.2 1).2.1, .inl (Y.2.1 20, 6, .inl fun _ => 0)) := rfl
theorem wa_73 (Y : YT) (qx : Nat) (u : SX11_) (qm : Nat) (v : Nat → Nat) : (wA Y qx u qm v)[73]? = some ((u.2.2.2.2.2.2.2.2.2.2.2.2.2.2.2.2.2.1.2.2 1).2.2.1, .inr (5, [.int 0, .ref (u.2.2.2.2.2.2.2.2.2.2.2.2.2.2.2.2.2.1.2.2 1).2.2.2.1, .ref (u.2.2.2.2.2.2.2.2.2.2.2.2.2.2.2.2.2.1.2.2 1).2.2.2.2.1, .ref (u.2.2.2.2.2.2.2.2.2.2.2.2.2.2.2.2.2.1.2.2 1).2.2.2.2.2])) := rfl
theorem wa_74 (Y : YT) (qx : Nat) (u : SX11_) (qm : Nat) (v : Nat → Nat) : (wA Y qx u qm v)[74]? = some ((u.2.2.2.2.2.2.2.2.2.2.2.2.2.2.2.2.2.1.2.2 1).2.2.2.1, .inl (Y.2.1 20, 9, .inl fun _ => 0)) := rfl
theorem wa_75 (Y : YT) (qx : Nat) (u : SX11_) (qm : Nat) (v : Nat → Nat) : (wA Y qx u qm v)[75]? = some ((u.2.2.2.2.2.2.2.2.2.2.2.2.2.2.2.2.2.1.2.2 1).2.2.2.2.1, .inl (Y.2.1 20, 9, .inl fun _ => 0)) := rfl
theorem wa_76 (Y : YT) (qx : Nat) (u : SX11_) (qm : Nat) (v : Nat → Nat) : (wA Y qx u qm v)[76]? = some ((u.2.2.2.2.2.2.2.2.2.2.2.2.2.2.2.2.2.1.2.2 1).2.2.2.2.2, .inl (Y.2.1 20, 9, .inl fun _ => 0)) := rfl
theorem wa_77 (Y : YT) (qx : Nat) (u : SX11_) (qm : Nat) (v : Nat → Nat) : (wA Y qx u qm v)[77]? = some ((u.2.2.2.2.2.2.2.2.2.2.2.2.2.2.2.2.2.1.2.2 2).1, .inr (6, [.int 0, .ref (u.2.2.2.2.2.2.2.2.2.2.2.2.2.2.2.2.2.1.2.2 2).2.1, .int 0, .ref (u.2.2.2.2.2.2.2.2.2.2.2.2.2.2.2.2.2.1.2.2 2).2.2.1, .int 0])) := rfl
theorem wa_78 (Y : YT) (qx : Nat) (u : SX11_) (qm : Nat) (v : Nat → Nat) : (wA Y qx u qm v)[78]? = some ((u.2.2.2.2.2.2.2.2.2.2.2.2.2.2.2.2.2.1.2.2 2).2.1, .inl (Y.2.1 20, 6, .inl fun _ => 0)) := rfl
theorem wa_79 (Y : YT) (qx : Nat) (u : SX11_) (qm : Nat) (v : Nat → Nat) : (wA Y qx u qm v)[79]? = some ((u.2.2.2.2.2.2.2.2.2.2.2.2.2.2.2.2.2.1.2.2 2).2.2.1, .inr (5, [.int 0, .ref (u.2.2.2.2.2.2.2.2.2.2.2.2.2.2.2.2.2.1.2.2 2).2.2.2.1, .ref (u.2.2.2.2.2.2.2.2.2.2.2.2.2.2.2.2.2.1.2.2 2).2.2.2.2.1, .ref (u.2.2.2.2.2.2.2.2.2.2.2.2.2.2.2.2.2.1.2.2 2).2.2.2.2.2])) := rfl
theorem wa_80 (Y : YT) (qx : Nat) (u : SX11_) (qm : Nat) (v : Nat → Nat) : (wA Y qx u qm v)[80]? = some ((u.2.2.2.2.2.2.2.2.2.2.2.2.2.2.2.2.2.1.2.2 2).2.2.2.1, .inl (Y.2.1 20, 9, .inl fun _ => 0)) := rfl
theorem wa_81 (Y : YT) (qx : Nat) (u : SX11_) (qm : Nat) (v : Nat → Nat) : (wA Y qx u qm v)[81]? = some ((u.2.2.2.2.2.2.2.2.2.2.2.2.2.2.2.2.2.1.2.2 2).2.2.2.2.1, .inl (Y.2.1 20, 9, .inl fun _ => 0)) := rfl
theorem wa_82 (Y : YT) (qx : Nat) (u : SX11_) (qm : Nat) (v : Nat → Nat) : (wA Y qx u qm v)[82]? = some ((u.2.2.2.2.2.2.2.2.2.2.2.2.2.2.2.2.2.1.2.2 2).2.2.2.2.2, .inl (Y.2.1 20, 9, .inl fun _ => 0)) := rfl
theorem wa_83 (Y : YT) (qx : Nat) (u : SX11_) (qm : Nat) (v : Nat → Nat) : (wA Y qx u qm v)[83]? = some ((u.2.2.2.2.2.2.2.2.2.2.2.2.2.2.2.2.2.1.2.2 3).1, .inr (6, [.int 0, .ref (u.2.2.2.2.2.2.2.2.2.2.2.2.2.2.2.2.2.1.2.2 3).2.1, .int 0, .ref (u.2.2.2.2.2.2.2.2.2.2.2.2.2.2.2.2.2.1.2.2 3).2.2.1, .int 0])) := rfl
theorem wa_84 (Y : YT) (qx : Nat) (u : SX11_) (qm : Nat) (v : Nat → Nat) : (wA Y qx u qm v)[84]? = some ((u.2.2.2.2.2.2.2.2.2.2.2.2.2.2.2.2.2.1.2.2 3).2.1, .inl (Y.2.1 20, 6, .inl fun _ => 0)) := rfl
theorem wa_85 (Y : YT) (qx : Nat) (u : SX11_) (qm : Nat) (v : Nat → Nat) : (wA Y qx u qm v)[85]? = some ((u.2.2.2.2.2.2.2.2.2.2.2.2.2.2.2.2.2.1.2.2 3).2.2.1, .inr (5, [.int 0, .ref (u.2.2.2.2.2.2.2.2.2.2.2.2.2.2.2.2.2.1.2.2 3).2.2.2.1, .ref (u.2.2.2.2.2.2.2.2.2.2.2.2.2.2.2.2.2.1.2.2 3).2.2.2.2.1, .ref (u.2.2.2.2.2.2.2.2.2.2.2.2.2.2.2.2.2.1.2.2 3).2.2.2.2.2])) := rfl
theorem wa_86 (Y : YT) (qx : Nat) (u : SX11_) (qm : Nat) (v : Nat → Nat) : (wA Y qx u qm v)[86]? = some ((u.2.2.2.2.2.2.2.2.2.2.2.2.2.2.2.2.2.1.2.2 3).2.2.2.1, .inl (Y.2.1 20, 9, .inl fun _ => 0)) := rfl
theorem wa_87 (Y : YT) (qx : Nat) (u : SX11_) (qm : Nat) (v : Nat → Nat) : (wA Y qx u qm v)[87]? = some ((u.2.2.2.2.2.2.2.2.2.2.2.2.2.2.2.2.2.1.2.2 3).2.2.2.2.1, .inl (Y.2.1 20, 9, .inl fun _ => 0)) := rfl
theorem wa_88 (Y : YT) (qx : Nat) (u : SX11_) (qm : Nat) (v : Nat → Nat) : (wA Y qx u qm v)[88]? = some ((u.2.2.2.2.2.2.2.2.2.2.2.2.2.2.2.2.2.1.2.2 3).2.2.2.2.2, .inl (Y.2.1 20, 9, .inl fun _ => 0)) := rfl
theorem wa_89 (Y : YT) (qx : Nat) (u : SX11_) (qm : Nat) (v : Nat → Nat) : (wA Y qx u qm v)[89]? = some ((u.2.2.2.2.2.2.2.2.2.2.2.2.2.2.2.2.2.1.2.2 4).1, .inr (6, [.int 0, .ref (u.2.2.2.2.2.2.2.2.2.2.2.2.2.2.2.2.2.1.2.2 4).2.1, .int 0, .ref (u.2.2.2.2.2.2.2.2.2.2.2.2.2.2.2.2.2.1.2.2 4).2.2.1, .int 0])) := rfl
theorem wa_90 (Y : YT) (qx : Nat) (u : SX11_) (qm : Nat) (v : Nat → Nat) : (wA Y qx u qm v)[90]? = some ((u.2.2.2.2.2.2.2.2.2.2.2.2.2.2.2.2.2.1.2.2 4).2.1, .inl (Y.2.1 20, 6, .inl fun _ => 0)) := rfl
theorem wa_91 (Y : YT) (qx : Nat) (u : SX11_) (qm : Nat) (v : Nat → Nat) : (wA Y qx u qm v)[91]? = some ((u.2.2.2.2.2.2.2.2.2.2.2.2.2.2.2.2.2.1.2.2 4).2.2.1, .inr (5, [.int 0, .ref (u.2.2.2.2.2.2.2.2.2.2.2.2.2.2.2.2.2.1.2.2 4).2.2.2.1, .ref (u.2.2.2.2.2.2.2.2.2.2.2.2.2.2.2.2.2.1.2.2 4).2.2.2.2.1, .ref (u.2.2.2.2.2.2.2.2.2.2.2.2.2.2.2.2.2.1.2.2 4).2.2.2.2.2])) := rfl
theorem wa_92 (Y : YT) (qx : Nat) (u : SX11_) (qm : Nat) (v : Nat → Nat) : (wA Y qx u qm v)[92]? = some ((u.2.2.2.2.2.2.2.2.2.2.2.2.2.2.2.2.2.1.2.2 4).2.2.2.1, .inl (Y.2.1 20, 9, .inl fun _ => 0)) := rfl
theorem wa_93 (Y : YT) (qx : Nat) (u : SX11_) (qm : Nat) (v : Nat → Nat) : (wA Y qx u qm v)[93]? = some ((u.2.2.2.2.2.2.2.2.2.2.2.2.2.2.2.2.2.1.2.2 4).2.2.2.2.1, .inl (Y.2.1 20, 9, .inl fun _ => 0)) := rfl
theorem wa_94 (Y : YT) (qx : Nat) (u : SX11_) (qm : Nat) (v : Nat → Nat) : (wA Y qx u qm v)[94]? = some ((u.2.2.2.2.2.2.2.2.2.2.2.2.2.2.2.2.2.1.2.2 4).2.2.2.2.2, .inl (Y.2.1 20, 9, .inl fun _ => 0)) := rfl
theorem wa_95 (Y : YT) (qx : Nat) (u : SX11_) (qm : Nat) (v : Nat → Nat) : (wA Y qx u qm v)[95]? = some ((u.2.2.2.2.2.2.2.2.2.2.2.2.2.2.2.2.2.1.2.2 5).1, .inr (6, [.int 0, .ref (u.2.2.2.2.2.2.2.2.2.2.2.2.2.2.2.2.2.1.2.2 5).2.1, .int 0, .ref (u.2.2.2.2.2.2.2.2.2.2.2.2.2.2.2.2.2.1.2.2 5).2.2.1, .int 0])) := rfl
theorem wa_96 (Y : YT) (qx : Nat) (u : SX11_) (qm : Nat) (v : Nat → Nat) : (wA Y qx u qm v)[96]? = some ((u.2.2.2.2.2.2.2.2.2.2.2.2.2.2.2.2.2.1.2.2 5).2.1, .inl (Y.2.1 20, 6, .inl fun _ => 0)) := rfl
theorem wa_97 (Y : YT) (qx : Nat) (u : SX11_) (qm : Nat) (v : Nat → Nat) : (wA Y qx u qm v)[97]? = some ((u.2.2.2.2.2.2.2.2.2.2.2.2.2.2.2.2.2.1.2.2 5).2.2.1, .inr (5, [.int 0, .ref (u.2.2.2.2.2.2.2.2.2.2.2.2.2.2.2.2.2.1.2.2 5).2.2.2.1, .ref (u.2.2.2.2.2.2.2.2.2.2.2.2.2.2.2.2.2.1.2.2 5).2.2.2.2.1, .ref (u.2.2.2.2.2.2.2.2.2.2.2.2.2.2.2.2.2.1.2.2 5).2.2.2.2.2])) := rfl
theorem wa_98 (Y : YT) (qx : Nat) (u : SX11_) (qm : Nat) (v : Nat → Nat) : (wA Y qx u qm v)[98]? = some ((u.2.2.2.2.2.2.2.2.2.2.2.2.2.2.2.2.2.1.2.2 5).2.2.2.1, .inl (Y.2.1 20, 9, .inl fun _ => 0)) := rfl
theorem wa_99 (Y : YT) (qx : Nat) (u : SX11_) (qm : Nat) (v : Nat → Nat) : (wA Y qx u qm v)[99]? = some ((u.2.2.2.2.2.2.2.2.2.2.2.2.2.2.2.2.2.1.2.2 5).2.2.2.2.1, .inl (Y.2.1 20, 9, .inl fun _ => 0)) := rfl
theorem wa_100 (Y : YT) (qx : Nat) (u : SX11_) (qm : Nat) (v : Nat → Nat) : (wA Y qx u qm v)[100]? = some ((u.2.2.2.2.2.2.2.2.2.2.2.2.2.2.2.2.2.1.2.2 5).2.2.2.2.2, .inl (Y.2.1 20, 9, .inl fun _ => 0)) := rfl
theorem wa_101 (Y : YT) (qx : Nat) (u : SX11_) (qm : Nat) (v : Nat → Nat) : (wA Y qx u qm v)[101]? = some ((u.2.2.2.2.2.2.2.2.2.2.2.2.2.2.2.2.2.1.2.2 6).1, .inr (6, [.int 0, .ref (u.2.2.2.2.2.2.2.2.2.2.2.2.2.2.2.2.2.1.2.2 6).2.1, .int 0, .ref (u.2.2.2.2.2.2.2.2.2.2.2.2.2.2.2.2.2.1.2.2 6).2.2.1, .int 0])) := rfl
theorem wa_102 (Y : YT) (qx : Nat) (u : SX11_) (qm : Nat) (v : Nat → Nat) : (wA Y qx u qm v)[102]? = some ((u.2.2.2.2.2.2.2.2.2.2.2.2.2.2.2.2.2.1.2.2 6).2.1, .inl (Y.2.1 20, 6, .inl fun _ => 0)) := rfl
theorem wa_103 (Y : YT) (qx : Nat) (u : SX11_) (qm : Nat) (v : Nat → Nat) : (wA Y qx u qm v)[103]? = some ((u.2.2.2.2.2.2.2.2.2.2.2.2.2.2.2.2.2.1.2.2 6).2.2.1, .inr (5, [.int 0, .ref (u.2.2.2.2.2.2.2.2.2.2.2.2.2.2.2.2.2.1.2.2 6).2.2.2.1, .ref (u.2.2.2.2.2.2.2.2.2.2.2.2.2.2.2.2.2.1.2.2 6).2.2.2.2.1, .ref (u.2.2.2.2.2.2.2.2.2.2.2.2.2.2.2.2.2.1.2.2 6).2.2.2.2.2])) := rfl
theorem wa_104 (Y : YT) (qx : Nat) (u : SX11_) (qm : Nat) (v : Nat → Nat) : (wA Y qx u qm v)[104]? = some ((u.2.2.2.2.2.2.2.2.2.2.2.2.2.2.2.2.2.1.2.2 6).2.2.2.1, .inl (Y.2.1 20, 9, .inl fun _ => 0)) := rfl
theorem wa_105 (Y : YT) (qx : Nat) (u : SX11_) (qm : Nat) (v : Nat → Nat) : (wA Y qx u qm v)[105]? = some ((u.2.2.2.2.2.2.2.2.2.2.2.2.2.2.2.2.2.1.2.2 6).2.2.2.2.1, .inl (Y.2.1 20, 9, .inl fun _ => 0)) := rfl
theorem wa_106 (Y : YT) (qx : Nat) (u : SX11_) (qm : Nat) (v : Nat → Nat) : (wA Y qx u qm v)[106]? = some ((u.2.2.2.2.2.2.2.2.2.2.2.2.2.2.2.2.2.1.2.2 6).2.2.2.2.2, .inl (Y.2.1 20, 9, .inl fun _ => 0)) := rfl
theorem wa_107 (Y : YT) (qx : Nat) (u : SX11_) (qm : Nat) (v : Nat → Nat) : (wA Y qx u qm v)[107]? = some ((u.2.2.2.2.2.2.2.2.2.2.2.2.2.2.2.2.2.1.2.2 7).1, .inr (6, [.int 0, .ref (u.2.2.2.2.2.2.2.2.2.2.2.2.2.2.2.2.2.1.2.2 7).2.1, .int 0, .ref (u.2.2.2.2.2.2.2.2.2.2.2.2.2.2.2.2.2.1.2.2 7).2.2.1, .int 0])) := rfl
theorem wa_108 (Y : YT) (qx : Nat) (u : SX11_) (qm : Nat) (v : Nat → Nat) : (wA Y qx u qm v)[108]? = some ((u.2.2.2.2.2.2.2.2.2.2.2.2.2.2.2.2.2.1.2.2 7).2.1, .inl (Y.2.1 20, 6, .inl fun _ => 0)) := rfl
theorem wa_109 (Y : YT) (qx : Nat) (u : SX11_) (qm : Nat) (v : Nat → Nat) : (wA Y qx u qm v)[109]? = some ((u.2.2.2.2.2.2.2.2.2.2.2.2.2.2.2.2.2.1.2.2 7).2.2.1, .inr (5, [.int 0, .ref (u.2.2.2.2.2.2.2.2.2.2.2.2.2.2.2.2.2.1.2.2 7).2.2.2.1, .ref (u.2.2.2.2.2.2.2.2.2.2.2.2.2.2.2.2.2.1.2.2 7).2.2.2.2.1, .ref (u.2.2.2.2.2.2.2.2.2.2.2.2.2.2.2.2.2.1.2.2 7).2.2.2.2.2])) := rfl
theorem wa_110 (Y : YT) (qx : Nat) (u : SX11_) (qm : Nat) (v : Nat → Nat) : (wA Y qx u qm v)[110]? = some ((u.2.2.2.2.2.2.2.2.2.2.2.2.2.2.2.2.2.1.2.2 7).2.2.2.1, .inl (Y.2.1 20, 9, .inl fun _ => 0)) := rfl
theorem wa_111 (Y : YT) (qx : Nat) (u : SX11_) (qm : Nat) (v : Nat → Nat) : (wA Y qx u qm v)[111]? = some ((u.2.2.2.2.2.2.2.2.2.2.2.2.2.2.2.2.2.1.2.2 7).2.2.2.2.1, .inl (Y.2.1 20, 9, .inl fun _ => 0)) := rfl
theorem wa_112 (Y : YT) (qx : Nat) (u : SX11_) (qm : Nat) (v : Nat → Nat) : (wA Y qx u qm v)[112]? = some ((u.2.2.2.2.2.2.2.2.2.2.2.2.2.2.2.2.2.1.2.2 7).2.2.2.2.2, .inl (Y.2.1 20, 9, .inl fun _ => 0)) := rfl
theorem wa_113 (Y : YT) (qx : Nat) (u : SX11_) (qm : Nat) (v : Nat → Nat) : (wA Y qx u qm v)[113]? = some ((u.2.2.2.2.2.2.2.2.2.2.2.2.2.2.2.2.2.1.2.2 8).1, .inr (6, [.int 0, .ref (u.2.2.2.2.2.2.2.2.2.2.2.2.2.2.2.2.2.1.2.2 8).2.1, .int 0, .ref (u.2.2.2.2.2.2.2.2.2.2.2.2.2.2.2.2.2.1.2.2 8).2.2.1, .int 0])) := rfl
theorem wa_114 (Y : YT) (qx : Nat) (u : SX11_) (qm : Nat) (v : Nat → Nat) : (wA Y qx u qm v)[114]? = some ((u.2.2.2.2.2.2.2.2.2.2.2.2.2.2.2.2.2.1.2.2 8).2.1, .inl (Y.2.1 20, 6, .inl fun _ => 0)) := rfl
theorem wa_115 (Y : YT) (qx : Nat) (u : SX11_) (qm : Nat) (v : Nat → Nat) : (wA Y qx u qm v)[115]? = some ((u.2.2.2.2.2.2.2.2.2.2.2.2.2.2.2.2.2.1.2.2 8).2.2.1, .inr (5, [.int 0, .ref (u.2.2.2.2.2.2.2.2.2.2.2.2.2.2.2.2.2.1.2.2 8).2.2.2.1, .ref (u.2.2.2.2.2.2.2.2.2.2.2.2.2.2.2.2.2.1.2.2 8).2.2.2.2.1, .ref (u.2.2.2.2.2.2.2.2.2.2.2.2.2.2.2.2.2.1.2.2 8).2.2.2.2.2])) := rfl
theorem wa_116 (Y : YT) (qx : Nat) (u : SX11_) (qm : Nat) (v : Nat → Nat) : (wA Y qx u qm v)[116]? = some ((u.2.2.2.2.2.2.2.2.2.2.2.2.2.2.2.2.2.1.2.2 8).2.2.2.1, .inl (Y.2.1 20, 9, .inl fun _ => 0)) := rfl
theorem wa_117 (Y : YT) (qx : Nat) (u : SX11_) (qm : Nat) (v : Nat → Nat) : (wA Y qx u qm v)[117]? = some ((u.2.2.2.2.2.2.2.2.2.2.2.2.2.2.2.2.2.1.2.2 8).2.2.2.2.1, .inl (Y.2.1 20, 9, .inl fun _ => 0)) := rfl
theorem wa_118 (Y : YT) (qx : Nat) (u : SX11_) (qm : Nat) (v : Nat → Nat) : (wA Y qx u qm v)[118]? = some ((u.2.2.2.2.2.2.2.2.2.2.2.2.2.2.2.2.2.1.2.2 8).2.2.2.2.2, .inl (Y.2.1 20, 9, .inl fun _ => 0)) := rfl
theorem wa_119 (Y : YT) (qx : Nat) (u : SX11_) (qm : Nat) (v : Nat → Nat) : (wA Y qx u qm v)[119]? = some ((u.2.2.2.2.2.2.2.2.2.2.2.2.2.2.2.2.2.1.2.2 9).1, .inr (6, [.int 0, .ref (u.2.2.2.2.2.2.2.2.2.2.2.2.2.2.2.2.2.1.2.2 9).2.1, .int 0, .ref (u.2.2.2.2.2.2.2.2.2.2.2.2.2.2.2.2.2.1.2.2 9).2.2.1, .int 0])) := rfl
theorem wa_120 (Y : YT) (qx : Nat) (u : SX11_) (qm : Nat) (v : Nat → Nat) : (wA Y qx u qm v)[120]? = some ((u.2.2.2.2.2.2.2.2.2.2.2.2.2.2.2.2.2.1.2.2 9).2.1, .inl (Y.2.1 20, 6, .inl fun _ => 0)) := rfl
theorem wa_121 (Y : YT) (qx : Nat) (u : SX11_) (qm : Nat) (v : Nat → Nat) : (wA Y qx u qm v)[121]? = some ((u.2.2.2.2.2.2.2.2.2.2.2.2.2.2.2.2.2.1.2.2 9).2.2.1, .inr (5, [.int 0, .ref (u.2.2.2.2.2.2.2.2.2.2.2.2.2.2.2.2.2.1.2.2 9).2.2.2.1, .ref (u.2.2.2.2.2.2.2.2.2.2.2.2.2.2.2.2.2.1.2.2 9).2.2.2.2.1, .ref (u.2.2.2.2.2.2.2.2.2.2.2.2.2.2.2.2.2.1.2.2 9).2.2.2.2.2])) := rfl
theorem wa_122 (Y : YT) (qx : Nat) (u : SX11_) (qm : Nat) (v : Nat → Nat) : (wA Y qx u qm v)[122]? = some ((u.2.2.2.2.2.2.2.2.2.2.2.2.2.2.2.2.2.1.2.2 9).2.2.2.1, .inl (Y.2.1 20, 9, .inl fun _ => 0)) := rfl
theorem wa_123 (Y : YT) (qx : Nat) (u : SX11_) (qm : Nat) (v : Nat → Nat) : (wA Y qx u qm v)[123]? = some ((u.2.2.2.2.2.2.2.2.2.2.2.2.2.2.2.2.2.1.2.2 9).2.2.2.2.1, .inl (Y.2.1 20, 9, .inl fun _ => 0)) := rfl
theorem wa_124 (Y : YT) (qx : Nat) (u : SX11_) (qm : Nat) (v : Nat → Nat) : (wA Y qx u qm v)[124]? = some ((u.2.2.2.2.2.2.2.2.2.2.2.2.2.2.2.2.2.1.2.2 9).2.2.2.2.2, .inl (Y.2.1 20, 9, .inl fun _ => 0)) := rfl
theorem wa_125 (Y : YT) (qx : Nat) (u : SX11_) (qm : Nat) (v : Nat → Nat) : (wA Y qx u qm v)[125]? = some ((u.2.2.2.2.2.2.2.2.2.2.2.2.2.2.2.2.2.1.2.2 10).1, .inr (6, [.int 0, .ref (u.2.2.2.2.2.2.2.2.2.2.2.2.2.2.2.2.2.1.2.2 10).2.1, .int 0, .ref (u.2.2.2.2.2.2.2.2.2.2.2.2.2.2.2.2.2.1.2.2 10).2.2.1, .int 0])) := rfl
theorem wa_126 (Y : YT) (qx : Nat) (u : SX11_) (qm : Nat) (v : Nat → Nat) : (wA Y qx u qm v)[126]? = some ((u.2.2.2.2.2.2.2.2.2.2.2.2.2.2.2.2.2.1.2.2 10).2.1, .inl (Y.2.1 20, 6, .inl fun _ => 0)) := rfl
theorem wa_127 (Y : YT) (qx : Nat) (u : SX11_) (qm : Nat) (v : Nat → Nat) : (wA Y qx u qm v)[127]? = some ((u.2.2.2.2.2.2.2.2.2.2.2.2.2.2.2.2.2.1.2.2 10).2.2.1, .inr (5, [.int 0, .ref (u.2.2.2.2.2.2.2.2.2.2.2.2.2.2.2.2.2.1.2.2 10).2.2.2.1, .ref (u.2.2.2.2.2.2.2.2.2.2.2.2.2.2.2.2.2.1.2.2 10).2.2.2.2.1, .ref (u.2.2.2.2.2.2.2.2.2.2.2.2.2.2.2.2.2.1.2.2 10).2.2.2.2.2])) := rfl
theorem wa_128 (Y : YT) (qx : Nat) (u : SX11_) (qm : Nat) (v : Nat → Nat) : (wA Y qx u qm v)[128]? = some ((u.2.2.2.2.2.2.2.2.2.2.2.2.2.2.2.2.2.1.2.2 10).2.2.2.1, .inl (Y.2.1 20, 9, .inl fun _ => 0)) := rfl
theorem wa_129 (Y : YT) (qx : Nat) (u : SX11_) (qm : Nat) (v : Nat → Nat) : (wA Y qx u qm v)[129]? = some ((u.2.2.2.2.2.2.2.2.2.2.2.2.2.2.2.2.2.1.2.2 10).2.2.2.2.1, .inl (Y.2.1 20, 9, .inl fun _ => 0)) := rfl
theorem wa_130 (Y : YT) (qx : Nat) (u : SX11_) (qm : Nat) (v : Nat → Nat) : (wA Y qx u qm v)[130]? = some ((u.2.2.2.2.2.2.2.2.2.2.2.2.2.2.2.2.2.1.2.2 10).2.2.2.2.2, .inl (Y.2.1 20, 9, .inl fun _ => 0)) := rfl
theorem wa_131 (Y : YT) (qx : Nat) (u : SX11_) (qm : Nat) (v : Nat → Nat) : (wA Y qx u qm v)[131]? = some ((u.2.2.2.2.2.2.2.2.2.2.2.2.2.2.2.2.2.1.2.2 11).1, .inr (6, [.int 0, .ref (u.2.2.2.2.2.2.2.2.2.2.2.2.2.2.2.2.2.1.2.2 11).2.1, .int 0, .ref (u.2.2.2.2.2.2.2.2.2.2.2.2.2.2.2.2.2.1.2.2 11).2.2.1, .int 0])) := rfl
theorem wa_132 (Y : YT) (qx : Nat) (u : SX11_) (qm : Nat) (v : Nat → Nat) : (wA Y qx u qm v)[132]? = some ((u.2.2.2.2.2.2.2.2.2.2.2.2.2.2.2.2.2.1.2.2 11).2.1, .inl (Y.2.1 20, 6, .inl fun _ => 0)) := rfl
theorem wa_133 (Y : YT) (qx : Nat) (u : SX11_) (qm : Nat) (v : Nat → Nat) : (wA Y qx u qm v)[133]? = some ((u.2.2.2.2.2.2.2.2.2.2.2.2.2.2.2.2.2.1.2.2 11).2.2.1, .inr (5, [.int 0, .ref (u.2.2.2.2.2.2.2.2.2.2.2.2.2.2.2.2.2.1.2.2 11).2.2.2.1, .ref (u.2.2.2.2.2.2.2.2.2.2.2.2.2.2.2.2.2.1.2.2 11).2.2.2.2.1, .ref (u.2.2.2.2.2.2.2.2.2.2.2.2.2.2.2.2.2.1.2.2 11).2.2.2.2.2])) := rfl
theorem wa_134 (Y : YT) (qx : Nat) (u : SX11_) (qm : Nat) (v : Nat → Nat) : (wA Y qx u qm v)[134]? = some ((u.2.2.2.2.2.2.2.2.2.2.2.2.2.2.2.2.2.1.2.2 11).2.2.2.1, .inl (Y.2.1 20, 9, .inl fun _ => 0)) := rfl
theorem wa_135 (Y : YT) (qx : Nat) (u : SX11_) (qm : Nat) (v : Nat → Nat) : (wA Y qx u qm v)[135]? = some ((u.2.2.2.2.2.2.2.2.2.2.2.2.2.2.2.2.2.1.2.2 11).2.2.2.2.1, .inl (Y.2.1 20, 9, .inl fun _ => 0)) := rfl
theorem wa_136 (Y : YT) (qx : Nat) (u : SX11_) (qm : Nat) (v : Nat → Nat) : (wA Y qx u qm v)[136]? = some ((u.2.2.2.2.2.2.2.2.2.2.2.2.2.2.2.2.2.1.2.2 11).2.2.2.2.2, .inl (Y.2.1 20, 9, .inl fun _ => 0)) := rfl
theorem wa_137 (Y : YT) (qx : Nat) (u : SX11_) (qm : Nat) (v : Nat → Nat) : (wA Y qx u qm v)[137]? = some ((u.2.2.2.2.2.2.2.2.2.2.2.2.2.2.2.2.2.1.2.2 12).1, .inr (6, [.int 0, .ref (u.2.2.2.2.2.2.2.2.2.2.2.2.2.2.2.2.2.1.2.2 12).2.1, .int 0, .ref (u.2.2.2.2.2.2.2.2.2.2.2.2.2.2.2.2.2.1.2.2 12).2.2.1, .int 0])) := rfl
theorem wa_138 (Y : YT) (qx : Nat) (u : SX11_) (qm : Nat) (v : Nat → Nat) : (wA Y qx u qm v)[138]? = some ((u.2.2.2.2.2.2.2.2.2.2.2.2.2.2.2.2.2.1.2.2 12).2.1, .inl (Y.2.1 20, 6, .inl fun _ => 0)) := rfl
theorem wa_139 (Y : YT) (qx : Nat) (u : SX11_) (qm : Nat) (v : Nat → Nat) : (wA Y qx u qm v)[139]? = some ((u.2.2.2.2.2.2.2.2.2.2.2.2.2.2.2.2.2.1.2.2 12).2.2.1, .inr (5, [.int 0, .ref (u.2.2.2.2.2.2.2.2.2.2.2.2.2.2.2.2.2.1.2.2 12).2.2.2.1, .ref (u.2.2.2.2.2.2.2.2.2.2.2.2.2.2.2.2.2.1.2.2 12).2.2.2.2.1, .ref (u.2.2.2.2.2.2.2.2.2.2.2.2.2.2.2.2.2.1.2.2 12).2.2.2.2.2])) := rfl
theorem wa_140 (Y : YT) (qx : Nat) (u : SX11_) (qm : Nat) (v : Nat → Nat) : (wA Y qx u qm v)[140]? = some ((u.2.2.2.2.2.2.2.2.2.2.2.2.2.2.2.2.2.1.2.2 12).2.2.2.1, .inl (Y.2.1 20, 9, .inl fun _ => 0)) := rfl
theorem wa_141 (Y : YT) (qx : Nat) (u : SX11_) (qm : Nat) (v : Nat → Nat) : (wA Y qx u qm v)[141]? = some ((u.2.2.2.2.2.2.2.2.2.2.2.2.2.2.2.2.2.1.2.2 12).2.2.2.2.1, .inl (Y.2.1 20, 9, .inl fun _ => 0)) := rfl
theorem wa_142 (Y : YT) (qx : Nat) (u : SX11_) (qm : Nat) (v : Nat → Nat) : (wA Y qx u qm v)[142]? = some ((u.2.2.2.2.2.2.2.2.2.2.2.2.2.2.2.2.2.1.2.2 12).2.2.2.2.2, .inl (Y.2.1 20, 9, .inl fun _ => 0)) := rfl
theorem wa_143 (Y : YT) (qx : Nat) (u : SX11_) (qm : Nat) (v : Nat → Nat) : (wA Y qx u qm v)[143]? = some ((u.2.2.2.2.2.2.2.2.2.2.2.2.2.2.2.2.2.1.2.2 13).1, .inr (6, [.int 0, .ref (u.2.2.2.2.2.2.2.2.2.2.2.2.2.2.2.2.2.1.2.2 13).2.1, .int 0, .ref (u.2.2.2.2.2.2.2.2.2.2.2.2.2.2.2.2.2.1.2.2 13).2.2.1, .int 0])) := rfl
theorem wa_144 (Y : YT) (qx : Nat) (u : SX11_) (qm : Nat) (v : Nat → Nat) : (wA Y qx u qm v)[144]? = some ((u.2.2.2.2.2.2.2.2.2.2.2.2.2.2.2.2.2.1.2.2 13).2.1, .inl (Y.2.1 20, 6, .inl fun _ => 0)) := rfl
theorem wa_145 (Y : YT) (qx : Nat) (u : SX11_) (qm : Nat) (v : Nat → Nat) : (wA Y qx u qm v)[145]? = some ((u.2.2.2.2.2.2.2.2.2.2.2.2.2.2.2.2.2.1.2.2 13).2.2.1, .inr (5, [.int 0, .ref (u.2.2.2.2.2.2.2.2.2.2.2.2.2.2.2.2.2.1.2.2 13).2.2.2.1, .ref (u.2.2.2.2.2.2.2.2.2.2.2.2.2.2.2.2.2.1.2.2 13).2.2.2.2.1, .ref (u.2.2.2.2.2.2.2.2.2.2.2.2.2.2.2.2.2.1.2.2 13).2.2.2.2.2])) := rfl
theorem wa_146 (Y : YT) (qx : Nat) (u : SX11_) (qm : Nat) (v : Nat → Nat) : (wA Y qx u qm v)[146]? = some ((u.2.2.2.2.2.2.2.2.2.2.2.2.2.2.2.2.2.1.2.2 13).2.2.2.1, .inl (Y.2.1 20, 9, .inl fun _ => 0)) := rfl
theorem wa_147 (Y : YT) (qx : Nat) (u : SX11_) (qm : Nat) (v : Nat → Nat) : (wA Y qx u qm v)[147]? = some ((u.2.2.2.2.2.2.2.2.2.2.2.2.2.2.2.2.2.1.2.2 13).2.2.2.2.1, .inl (Y.2.1 20, 9, .inl fun _ => 0)) := rfl
theorem wa_148 (Y : YT) (qx : Nat) (u : SX11_) (qm : Nat) (v : Nat → Nat) : (wA Y qx u qm v)[148]? = some ((u.2.2.2.2.2.2.2.2.2.2.2.2.2.2.2.2.2.1.2.2 13).2.2.2.2.2, .inl (Y.2.1 20, 9, .inl fun _ => 0)) := rfl
theorem wa_149 (Y : YT) (qx : Nat) (u : SX11_) (qm : Nat) (v : Nat → Nat) : (wA Y qx u qm v)[149]? = some ((u.2.2.2.2.2.2.2.2.2.2.2.2.2.2.2.2.2.1.2.2 14).1, .inr (6, [.int 0, .ref (u.2.2.2.2.2.2.2.2.2.2.2.2.2.2.2.2.2.1.2.2 14).2.1, .int 0, .ref (u.2.2.2.2.2.2.2.2.2.2.2.2.2.2.2.2.2.1.2.2 14).2.2.1, .int 0])) := rfl
theorem wa_150 (Y : YT) (qx : Nat) (u : SX11_) (qm : Nat) (v : Nat → Nat) : (wA Y qx u qm v)[150]? = some ((u.2.2.2.2.2.2.2.2.2.2.2.2.2.2.2.2.2.1.2.2 14).2.1, .inl (Y.2.1 20, 6, .inl fun _ => 0)) := rfl
theorem wa_151 (Y : YT) (qx : Nat) (u : SX11_) (qm : Nat) (v : Nat → Nat) : (wA Y qx u qm v)[151]? = some ((u.2.2.2.2.2.2.2.2.2.2.2.2.2.2.2.2.2.1.2.2 14).2.2.1, .inr (5, [.int 0, .ref (u.2.2.2.2.2.2.2.2.2.2.2.2.2.2.2.2.2.1.2.2 14).2.2.2.1, .ref (u.2.2.2.2.2.2.2.2.2.2.2.2.2.2.2.2.2.1.2.2 14).2.2.2.2.1, .ref (u.2.2.2.2.2.2.2.2.2.2.2.2.2.2.2.2.2.1.2.2 14).2.2.2.2.2])) := rfl
theorem wa_152 (Y : YT) (qx : Nat) (u : SX11_) (qm : Nat) (v : Nat → Nat) : (wA Y qx u qm v)[152]? = some ((u.2.2.2.2.2.2.2.2.2.2.2.2.2.2.2.2.2.1.2.2 14).2.2.2.1, .inl (Y.2.1 20, 9, .inl fun _ => 0)) := rfl
theorem wa_153 (Y : YT) (qx : Nat) (u : SX11_) (qm : Nat) (v : Nat → Nat) : (wA Y qx u qm v)[153]? = some ((u.2.2.2.2.2.2.2.2.2.2.2.2.2.2.2.2.2.1.2.2 14).2.2.2.2.1, .inl (Y.2.1 20, 9, .inl fun _ => 0)) := rfl
theorem wa_154 (Y : YT) (qx : Nat) (u : SX11_) (qm : Nat) (v : Nat → Nat) : (wA Y qx u qm v)[154]? = some ((u.2.2.2.2.2.2.2.2.2.2.2.2.2.2.2.2.2.1.2.2 14).2.2.2.2.2, .inl (Y.2.1 20, 9, .inl fun _ => 0)) := rfl
theorem wa_155 (Y : YT) (qx : Nat) (u : SX11_) (qm : Nat) (v : Nat → Nat) : (wA Y qx u qm v)[155]? = some ((u.2.2.2.2.2.2.2.2.2.2.2.2.2.2.2.2.2.1.2.2 15).1, .inr (6, [.int 0, .ref (u.2.2.2.2.2.2.2.2.2.2.2.2.2.2.2.2.2.1.2.2 15).2.1, .int 0, .ref (u.2.2.2.2.2.2.2.2.2.2.2.2.2.2.2.2.2.1.2.2 15).2.2.1, .int 0])) := rfl
theorem wa_156 (Y : YT) (qx : Nat) (u : SX11_) (qm : Nat) (v : Nat → Nat) : (wA Y qx u qm v)[156]? = some ((u.2.2.2.2.2.2.2.2.2.2.2.2.2.2.2.2.2.1.2.2 15).2.1, .inl (Y.2.1 20, 6, .inl fun _ => 0)) := rfl
theorem wa_157 (Y : YT) (qx : Nat) (u : SX11_) (qm : Nat) (v : Nat → Nat) : (wA Y qx u qm v)[157]? = some ((u.2.2.2.2.2.2.2.2.2.2.2.2.2.2.2.2.2.1.2.2 15).2.2.1, .inr (5, [.int 0, .ref (u.2.2.2.2.2.2.2.2.2.2.2.2.2.2.2.2.2.1.2.2 15).2.2.2.1, .ref (u.2.2.2.2.2.2.2.2.2.2.2.2.2.2.2.2.2.1.2.2 15).2.2.2.2.1, .ref (u.2.2.2.2.2.2.2.2.2.2.2.2.2.2.2.2.2.1.2.2 15).2.2.2.2.2])) := rfl
theorem wa_158 (Y : YT) (qx : Nat) (u : SX11_) (qm : Nat) (v : Nat → Nat) : (wA Y qx u qm v)[158]? = some ((u.2.2.2.2.2.2.2.2.2.2.2.2.2.2.2.2.2.1.2.2 15).2.2.2.1, .inl (Y.2.1 20, 9, .inl fun _ => 0)) := rfl
theorem wa_159 (Y : YT) (qx : Nat) (u : SX11_) (qm : Nat) (v : Nat → Nat) : (wA Y qx u qm v)[159]? = some ((u.2.2.2.2.2.2.2.2.2.2.2.2.2.2.2.2.2.1.2.2 15).2.2.2.2.1, .inl (Y.2.1 20, 9, .inl fun _ => 0)) := rfl
theorem wa_160 (Y : YT) (qx : Nat) (u : SX11_) (qm : Nat) (v : Nat → Nat) : (wA Y qx u qm v)[160]? = some ((u.2.2.2.2.2.2.2.2.2.2.2.2.2.2.2.2.2.1.2.2 15).2.2.2.2.2, .inl (Y.2.1 20, 9, .inl fun _ => 0)) := rfl
theorem wa_161 (Y : YT) (qx : Nat) (u : SX11_) (qm : Nat) (v : Nat → Nat) : (wA Y qx u qm v)[161]? = some ((u.2.2.2.2.2.2.2.2.2.2.2.2.2.2.2.2.2.1.2.2 16).1, .inr (6, [.int 0, .ref (u.2.2.2.2.2.2.2.2.2.2.2.2.2.2.2.2.2.1.2.2 16).2.1, .int 0, .ref (u.2.2.2.2.2.2.2.2.2.2.2.2.2.2.2.2.2.1.2.2 16).2.2.1, .int 0])) := rfl
theorem wa_162 (Y : YT) (qx : Nat) (u : SX11_) (qm : Nat) (v : Nat → Nat) : (wA Y qx u qm v)[162]? = some ((u.2.2.2.2.2.2.2.2.2.2.2.2.2.2.2.2.2.1.2.2 16).2.1, .inl (Y.2.1 20, 6, .inl fun _ => 0)) := rfl
theorem wa_163 (Y : YT) (qx : Nat) (u : SX11_) (qm : Nat) (v : Nat → Nat) : (wA Y qx u qm v)[163]? = some ((u.2.2.2.2.2.2.2.2.2.2.2.2.2.2.2.2.2.1.2.2 16).2.2.1, .inr (5, [.int 0, .ref (u.2.2.2.2.2.2.2.2.2.2.2.2.2.2.2.2.2.1.2.2 16).2.2.2.1, .ref (u.2.2.2.2.2.2.2.2.2.2.2.2.2.2.2.2.2.1.2.2 16).2.2.2.2.1, .ref (u.2.2.2.2.2.2.2.2.2.2.2.2.2.2.2.2.2.1.2.2 16).2.2.2.2.2])) := rfl
theorem wa_164 (Y : YT) (qx : Nat) (u : SX11_) (qm : Nat) (v : Nat → Nat) : (wA Y qx u qm v)[164]? = some ((u.2.2.2.2.2.2.2.2.2.2.2.2.2.2.2.2.2.1.2.2 16).2.2.2.1, .inl (Y.2.1 20, 9, .inl fun _ => 0)) := rfl
theorem wa_165 (Y : YT) (qx : Nat) (u : SX11_) (qm : Nat) (v : Nat → Nat) : (wA Y qx u qm v)[165]? = some ((u.2.2.2.2.2.2.2.2.2.2.2.2.2.2.2.2.2.1.2.2 16).2.2.2.2.1, .inl (Y.2.1 20, 9, .inl fun _ => 0)) := rfl
theorem wa_166 (Y : YT) (qx : Nat) (u : SX11_) (qm : Nat) (v : Nat → Nat) : (wA Y qx u qm v)[166]? = some ((u.2.2.2.2.2.2.2.2.2.2.2.2.2.2.2.2.2.1.2.2 16).2.2.2.2.2, .inl (Y.2.1 20, 9, .inl fun _ => 0)) := rfl
theorem wa_167 (Y : YT) (qx : Nat) (u : SX11_) (qm : Nat) (v : Nat → Nat) : (wA Y qx u qm v)[167]? = some ((u.2.2.2.2.2.2.2.2.2.2.2.2.2.2.2.2.2.1.2.2 17).1, .inr (6, [.int 0, .ref (u.2.2.2.2.2.2.2.2.2.2.2.2.2.2.2.2.2.1.2.2 17).2.1, .int 0, .ref (u.2.2.2.2.2.2.2.2.2.2.2.2.2.2.2.2.2.1.2.2 17).2.2.1, .int 0])) := rfl
theorem wa_168 (Y : YT) (qx : Nat) (u : SX11_) (qm : Nat) (v : Nat → Nat) : (wA Y qx u qm v)[168]? = some ((u.2.2.2.2.2.2.2.2.2.2.2.2.2.2.2.2.2.1.2.2 17).2.1, .inl (Y.2.1 20, 6, .inl fun _ => 0)) := rfl
theorem wa_169 (Y : YT) (qx : Nat) (u : SX11_) (qm : Nat) (v : Nat → Nat) : (wA Y qx u qm v)[169]? = some ((u.2.2.2.2.2.2.2.2.2.2.2.2.2.2.2.2.2.1.2.2 17).2.2.1, .inr (5, [.int 0, .ref (u.2.2.2.2.2.2.2.2.2.2.2.2.2.2.2.2.2.1.2.2 17).2.2.2.1, .ref (u.2.2.2.2.2.2.2.2.2.2.2.2.2.2.2.2.2.1.2.2 17).2.2.2.2.1, .ref (u.2.2.2.2.2.2.2.2.2.2.2.2.2.2.2.2.2.1.2.2 17).2.2.2.2.2])) := rfl
theorem wa_170 (Y : YT) (qx : Nat) (u : SX11_) (qm : Nat) (v : Nat → Nat) : (wA Y qx u qm v)[170]? = some ((u.2.2.2.2.2.2.2.2.2.2.2.2.2.2.2.2.2.1.2.2 17).2.2.2.1, .inl (Y.2.1 20, 9, .inl fun _ => 0)) := rfl
theorem wa_171 (Y : YT) (qx : Nat) (u : SX11_) (qm : Nat) (v : Nat → Nat) : (wA Y qx u qm v)[171]? = some ((u.2.2.2.2.2.2.2.2.2.2.2.2.2.2.2.2.2.1.2.2 17).2.2.2.2.1, .inl (Y.2.1 20, 9, .inl fun _ => 0)) := rfl
theorem wa_172 (Y : YT) (qx : Nat) (u : SX11_) (qm : Nat) (v : Nat → Nat) : (wA Y qx u qm v)[172]? = some ((u.2.2.2.2.2.2.2.2.2.2.2.2.2.2.2.2.2.1.2.2 17).2.2.2.2.2, .inl (Y.2.1 20, 9, .inl fun _ => 0)) := rfl
theorem wa_173 (Y : YT) (qx : Nat) (u : SX11_) (qm : Nat) (v : Nat → Nat) : (wA Y qx u qm v)[173]? = some ((u.2.2.2.2.2.2.2.2.2.2.2.2.2.2.2.2.2.1.2.2 18).1, .inr (6, [.int 0, .ref (u.2.2.2.2.2.2.2.2.2.2.2.2.2.2.2.2.2.1.2.2 18).2.1, .int 0, .ref (u.2.2.2.2.2.2.2.2.2.2.2.2.2.2.2.2.2.1.2.2 18).2.2.1, .int 0])) := rfl
theorem wa_174 (Y : YT) (qx : Nat) (u : SX11_) (qm : Nat) (v : Nat → Nat) : (wA Y qx u qm v)[174]? = some ((u.2.2.2.2.2.2.2.2.2.2.2.2.2.2.2.2.2.1.2.2 18).2.1, .inl (Y.2.1 20, 6, .inl fun _ => 0)) := rfl
theorem wa_175 (Y : YT) (qx : Nat) (u : SX11_) (qm : Nat) (v : Nat → Nat) : (wA Y qx u qm v)[175]? = some ((u.2.2.2.2.2.2.2.2.2.2.2.2.2.2.2.2.2.1.2.2 18).2.2.1, .inr (5, [.int 0, .ref (u.2.2.2.2.2.2.2.2.2.2.2.2.2.2.2.2.2.1.2.2 18).2.2.2.1, .ref (u.2.2.2.2.2.2.2.2.2.2.2.2.2.2.2.2.2.1.2.2 18).2.2.2.2.1, .ref (u.2.2.2.2.2.2.2.2.2.2.2.2.2.2.2.2.2.1.2.2 18).2.2.2.2.2])) := rfl
theorem wa_176 (Y : YT) (qx : Nat) (u : SX11_) (qm : Nat) (v : Nat → Nat) : (wA Y qx u qm v)[176]? = some ((u.2.2.2.2.2.2.2.2.2.2.2.2.2.2.2.2.2.1.2.2 18).2.2.2.1, .inl (Y.2.1 20, 9, .inl fun _ => 0)) := rfl
theorem wa_177 (Y : YT) (qx : Nat) (u : SX11_) (qm : Nat) (v : Nat → Nat) : (wA Y qx u qm v)[177]? = some ((u.2.2.2.2.2.2.2.2.2.2.2.2.2.2.2.2.2.1.2.2 18).2.2.2.2.1, .inl (Y.2.1 20, 9, .inl fun _ => 0)) := rfl
theorem wa_178 (Y : YT) (qx : Nat) (u : SX11_) (qm : Nat) (v : Nat → Nat) : (wA Y qx u qm v)[178]? = some ((u.2.2.2.2.2.2.2.2.2.2.2.2.2.2.2.2.2.1.2.2 18).2.2.2.2.2, .inl (Y.2.1 20, 9, .inl fun _ => 0)) := rfl
theorem wa_179 (Y : YT) (qx : Nat) (u : SX11_) (qm : Nat) (v : Nat → Nat) : (wA Y qx u qm v)[179]? = some ((u.2.2.2.2.2.2.2.2.2.2.2.2.2.2.2.2.2.1.2.2 19).1, .inr (6, [.int 0, .ref (u.2.2.2.2.2.2.2.2.2.2.2.2.2.2.2.2.2.1.2.2 19).2.1, .int 0, .ref (u.2.2.2.2.2.2.2.2.2.2.2.2.2.2.2.2.2.1.2.2 19).2.2.1, .int 0])) := rfl
theorem wa_180 (Y : YT) (qx : Nat) (u : SX11_) (qm : Nat) (v : Nat → Nat) : (wA Y qx u qm v)[180]? = some ((u.2.2.2.2.2.2.2.2.2.2.2.2.2.2.2.2.2.1.2.2 19).2.1, .inl (Y.2.1 20, 6, .inl fun _ => 0)) := rfl
theorem wa_181 (Y : YT) (qx : Nat) (u : SX11_) (qm : Nat) (v : Nat → Nat) : (wA Y qx u qm v)[181]? = some ((u.2.2.2.2.2.2.2.2.2.2.2.2.2.2.2.2.2.1.2.2 19).2.2.1, .inr (5, [.int 0, .ref (u.2.2.2.2.2.2.2.2.2.2.2.2.2.2.2.2.2.1.2.2 19).2.2.2.1, .ref (u.2.2.2.2.2.2.2.2.2.2.2.2.2.2.2.2.2.1.2.2 19).2.2.2.2.1, .ref (u.2.2.2.2.2.2.2.2.2.2.2.2.2.2.2.2.2.1.2.2 19).2.2.2.2.2])) := rfl
theorem wa_182 (Y : YT) (qx : Nat) (u : SX11_) (qm : Nat) (v : Nat → Nat) : (wA Y qx u qm v)[182]? = some ((u.2.2.2.2.2.2.2.2.2.2.2.2.2.2.2.2.2.1.2.2 19).2.2.2.1, .inl (Y.2.1 20, 9, .inl fun _ => 0)) := rfl
theorem wa_183 (Y : YT) (qx : Nat) (u : SX11_) (qm : Nat) (v : Nat → Nat) : (wA Y qx u qm v)[183]? = some ((u.2.2.2.2.2.2.2.2.2.2.2.2.2.2.2.2.2.1.2.2 19).2.2.2.2.1, .inl (Y.2.1 20, 9, .inl fun _ => 0)) := rfl
theorem wa_184 (Y : YT) (qx : Nat) (u : SX11_) (qm : Nat) (v : Nat → Nat) : (wA Y qx u qm v)[184]? = some ((u.2.2.2.2.2.2.2.2.2.2.2.2.2.2.2.2.2.1.2.2 19).2.2.2.2.2, .inl (Y.2.1 20, 9, .inl fun _ => 0)) := rfl
theorem wa_185 (Y : YT) (qx : Nat) (u : SX11_) (qm : Nat) (v : Nat → Nat) : (wA Y qx u qm v)[185]? = some (u.2.2.2.2.2.2.2.2.2.2.2.2.2.2.2.2.2.2.1, .inr (4, [.ref (u.2.2.2.2.2.2.2.2.2.2.2.2.2.2.2.2.2.2.2.1), .int 0])) := rfl
theorem wa_186 (Y : YT) (qx : Nat) (u : SX11_) (qm : Nat) (v : Nat → Nat) : (wA Y qx u qm v)[186]? = some (u.2.2.2.2.2.2.2.2.2.2.2.2.2.2.2.2.2.2.2.1, .inl (Y.2.1 20, 40, .inl fun _ => 0)) := rfl
theorem wa_187 (Y : YT) (qx : Nat) (u : SX11_) (qm : Nat) (v : Nat → Nat) : (wA Y qx u qm v)[187]? = some (u.2.2.2.2.2.2.2.2.2.2.2.2.2.2.2.2.2.2.2.2.1, .inr (0, [.ref (u.2.2.2.2.2.2.2.2.2.2.2.2.2.2.2.2.2.2.2.2.2.1.1), .int 0, .ref (u.2.2.2.2.2.2.2.2.2.2.2.2.2.2.2.2.2.2.2.2.2.1.2.1), .ref (u.2.2.2.2.2.2.2.2.2.2.2.2.2.2.2.2.2.2.2.2.2.1.2.2), .int 0, .int 0, .int 0, .int 0])) := rfl
theorem wa_188 (Y : YT) (qx : Nat) (u : SX11_) (qm : Nat) (v : Nat → Nat) : (wA Y qx u qm v)[188]? = some (u.2.2.2.2.2.2.2.2.2.2.2.2.2.2.2.2.2.2.2.2.2.1.1, .inl (Y.2.1 20, 48, .inl fun _ => 0)) := rfl
theorem wa_189 (Y : YT) (qx : Nat) (u : SX11_) (qm : Nat) (v : Nat → Nat) : (wA Y qx u qm v)[189]? = some (u.2.2.2.2.2.2.2.2.2.2.2.2.2.2.2.2.2.2.2.2.2.1.2.1, .inl (Y.2.1 24, 7, .inr (.inr (.inr (.inr fun j => some (u.2.2.2.2.2.2.2.2.2.2.2.2.2.2.2.2.2.2.2.2.2.1.2.1 + 1 + j)))))) := rfl
theorem wa_190 (Y : YT) (qx : Nat) (u : SX11_) (qm : Nat) (v : Nat → Nat) : (wA Y qx u qm v)[190]? = some ((u.2.2.2.2.2.2.2.2.2.2.2.2.2.2.2.2.2.2.2.2.2.1.2.1 + 1 + 0), .inl (Y.2.1 20, 56, .inl fun _ => 0)) := rfl
theorem wa_191 (Y : YT) (qx : Nat) (u : SX11_) (qm : Nat) (v : Nat → Nat) : (wA Y qx u qm v)[191]? = some ((u.2.2.2.2.2.2.2.2.2.2.2.2.2.2.2.2.2.2.2.2.2.1.2.1 + 1 + 1), .inl (Y.2.1 20, 56, .inl fun _ => 0)) := rfl
theorem wa_192 (Y : YT) (qx : Nat) (u : SX11_) (qm : Nat) (v : Nat → Nat) : (wA Y qx u qm v)[192]? = some ((u.2.2.2.2.2.2.2.2.2.2.2.2.2.2.2.2.2.2.2.2.2.1.2.1 + 1 + 2), .inl (Y.2.1 20, 56, .inl fun _ => 0)) := rfl
theorem wa_193 (Y : YT) (qx : Nat) (u : SX11_) (qm : Nat) (v : Nat → Nat) : (wA Y qx u qm v)[193]? = some ((u.2.2.2.2.2.2.2.2.2.2.2.2.2.2.2.2.2.2.2.2.2.1.2.1 + 1 + 3), .inl (Y.2.1 20, 56, .inl fun _ => 0)) := rfl
theorem wa_194 (Y : YT) (qx : Nat) (u : SX11_) (qm : Nat) (v : Nat → Nat) : (wA Y qx u qm v)[194]? = some ((u.2.2.2.2.2.2.2.2.2.2.2.2.2.2.2.2.2.2.2.2.2.1.2.1 + 1 + 4), .inl (Y.2.1 20, 56, .inl fun _ => 0)) := rfl
theorem wa_195 (Y : YT) (qx : Nat) (u : SX11_) (qm : Nat) (v : Nat → Nat) : (wA Y qx u qm v)[195]? = some ((u.2.2.2.2.2.2.2.2.2.2.2.2.2.2.2.2.2.2.2.2.2.1.2.1 + 1 + 5), .inl (Y.2.1 20, 56, .inl fun _ => 0)) := rfl
theorem wa_196 (Y : YT) (qx : Nat) (u : SX11_) (qm : Nat) (v : Nat → Nat) : (wA Y qx u qm v)[196]? = some ((u.2.2.2.2.2.2.2.2.2.2.2.2.2.2.2.2.2.2.2.2.2.1.2.1 + 1 + 6), .inl (Y.2.1 20, 56, .inl fun _ => 0)) := rfl
theorem wa_197 (Y : YT) (qx : Nat) (u : SX11_) (qm : Nat) (v : Nat → Nat) : (wA Y qx u qm v)[197]? = some (u.2.2.2.2.2.2.2.2.2.2.2.2.2.2.2.2.2.2.2.2.2.1.2.2, .inl (Y.2.1 20, 7, .inl fun _ => 0)) := rfl
theorem wa_198 (Y : YT) (qx : Nat) (u : SX11_) (qm : Nat) (v : Nat → Nat) : (wA Y qx u qm v)[198]? = some (u.2.2.2.2.2.2.2.2.2.2.2.2.2.2.2.2.2.2.2.2.2.2, .inl (Y.2.1 20, 6, .inl fun _ => 0)) := rfl
theorem wa_199 (Y : YT) (qx : Nat) (u : SX11_) (qm : Nat) (v : Nat → Nat) : (wA Y qx u qm v)[199]? = some (qm, .inr (12, [.ref (v 0), vI (0), vI (0), vI (0), vI (0), vI (0), vI (0), vL (0), vI (0), vI (-1), vI (0), vI (-1), vI (-1), vI (0), .ref (v 1), .ref (v 2), .ref (v 3), .ref (v 4), .ref (v 5), .ref (v 6), .ref (v 7), .ref (v 8), .ref (v 9), .ref (v 10), .ref (v 11), .ref (v 12), .ref (v 13), .ref (v 14), .ref (v 15), .ref (v 16), .ref (v 17), .ref (v 18), .ref (v 19), vI (0), vI (1), vI (0), .ref (v 20), .ref (v 21), .ref (v 22), .ref (v 23), .ref (v 24), vI (0), vI (0), .ref (v 25), vI (0), vI (0), .ref (v 26), .ref (v 27), .ref (v 28), .ref (v 29), .ref (v 30), .ref (v 31), .ref (v 32), .ref (v 33), vI (0), vI (0), vL (1), .ref (v 34), .ref (v 35), .ref (v 36), vI (0), .ref (v 37), .ref (v 38), .ref (v 39), .ref (v 40), .ref (v 41), vI (0)])) := rfl
theorem wa_200 (Y : YT) (qx : Nat) (u : SX11_) (qm : Nat) (v : Nat → Nat) : (wA Y qx u qm v)[200]? = some ((v 0), .inl (Y.2.1 20, 1800, .inl fun _ => 0)) := rfl
theorem wa_201 (Y : YT) (qx : Nat) (u : SX11_) (qm : Nat) (v : Nat → Nat) : (wA Y qx u qm v)[201]? = some ((v 1), .inl (Y.2.1 20, 2, .inl fun _ => 0)) := rfl
theorem wa_202 (Y : YT) (qx : Nat) (u : SX11_) (qm : Nat) (v : Nat → Nat) : (wA Y qx u qm v)[202]? = some ((v 2), .inl (Y.2.1 20, 2, .inl fun _ => 0)) := rfl
theorem wa_203 (Y : YT) (qx : Nat) (u : SX11_) (qm : Nat) (v : Nat → Nat) : (wA Y qx u qm v)[203]? = some ((v 3), .inl (Y.2.1 20, 98, .inl fun _ => 0)) := rfl
theorem wa_204 (Y : YT) (qx : Nat) (u : SX11_) (qm : Nat) (v : Nat → Nat) : (wA Y qx u qm v)[204]? = some ((v 4), .inl (Y.2.1 20, 98, .inl fun _ => 0)) := rfl
theorem wa_205 (Y : YT) (qx : Nat) (u : SX11_) (qm : Nat) (v : Nat → Nat) : (wA Y qx u qm v)[205]? = some ((v 5), .inl (Y.2.1 20, 2, .inl fun _ => 0)) := rfl
theorem wa_206 (Y : YT) (qx : Nat) (u : SX11_) (qm : Nat) (v : Nat → Nat) : (wA Y qx u qm v)[206]? = some ((v 6), .inl (Y.2.1 20, 12, .inl fun _ => 0)) := rfl
theorem wa_207 (Y : YT) (qx : Nat) (u : SX11_) (qm : Nat) (v : Nat → Nat) : (wA Y qx u qm v)[207]? = some ((v 7), .inl (Y.2.1 20, 12, .inl fun _ => 0)) := rfl
theorem wa_208 (Y : YT) (qx : Nat) (u : SX11_) (qm : Nat) (v : Nat → Nat) : (wA Y qx u qm v)[208]? = some ((v 8), .inl (Y.2.1 20, 2, .inl fun _ => 0)) := rfl
theorem wa_209 (Y : YT) (qx : Nat) (u : SX11_) (qm : Nat) (v : Nat → Nat) : (wA Y qx u qm v)[209]? = some ((v 9), .inl (Y.2.1 20, 2, .inl fun _ => 0)) := rfl
theorem wa_210 (Y : YT) (qx : Nat) (u : SX11_) (qm : Nat) (v : Nat → Nat) : (wA Y qx u qm v)[210]? = some ((v 10), .inl (Y.2.1 20, 16, .inl fun _ => 0)) := rfl
theorem wa_211 (Y : YT) (qx : Nat) (u : SX11_) (qm : Nat) (v : Nat → Nat) : (wA Y qx u qm v)[211]? = some ((v 11), .inl (Y.2.1 20, 16, .inl fun _ => 0)) := rfl
theorem wa_212 (Y : YT) (qx : Nat) (u : SX11_) (qm : Nat) (v : Nat → Nat) : (wA Y qx u qm v)[212]? = some ((v 12), .inl (Y.2.1 20, 16, .inl fun _ => 0)) := rfl
theorem wa_213 (Y : YT) (qx : Nat) (u : SX11_) (qm : Nat) (v : Nat → Nat) : (wA Y qx u qm v)[213]? = some ((v 13), .inl (Y.2.1 20, 2, .inl fun _ => 0)) := rfl
theorem wa_214 (Y : YT) (qx : Nat) (u : SX11_) (qm : Nat) (v : Nat → Nat) : (wA Y qx u qm v)[214]? = some ((v 14), .inl (Y.2.1 20, 4, .inl sf4)) := rfl
theorem wa_215 (Y : YT) (qx : Nat) (u : SX11_) (qm : Nat) (v : Nat → Nat) : (wA Y qx u qm v)[215]? = some ((v 15), .inl (Y.2.1 20, 4, .inl fun _ => 0)) := rfl
theorem wa_216 (Y : YT) (qx : Nat) (u : SX11_) (qm : Nat) (v : Nat → Nat) : (wA Y qx u qm v)[216]? = some ((v 16), .inl (Y.2.1 20, 3200, .inl fun _ => 0)) := rfl
theorem wa_217 (Y : YT) (qx : Nat) (u : SX11_) (qm : Nat) (v : Nat → Nat) : (wA Y qx u qm v)[217]? = some ((v 17), .inl (Y.2.1 20, 3200, .inl fun _ => 0)) := rfl
theorem wa_218 (Y : YT) (qx : Nat) (u : SX11_) (qm : Nat) (v : Nat → Nat) : (wA Y qx u qm v)[218]? = some ((v 18), .inl (Y.2.1 21, 14, .inr (.inl fun _ => 0))) := rfl
theorem wa_219 (Y : YT) (qx : Nat) (u : SX11_) (qm : Nat) (v : Nat → Nat) : (wA Y qx u qm v)[219]? = some ((v 19), .inl (Y.2.1 21, 12, .inr (.inl fun _ => 0))) := rfl
theorem wa_220 (Y : YT) (qx : Nat) (u : SX11_) (qm : Nat) (v : Nat → Nat) : (wA Y qx u qm v)[220]? = some ((v 20), .inl (Y.2.1 20, 20, .inl fun _ => 0)) := rfl
theorem wa_221 (Y : YT) (qx : Nat) (u : SX11_) (qm : Nat) (v : Nat → Nat) : (wA Y qx u qm v)[221]? = some ((v 21), .inl (Y.2.1 20, 20, .inl fun _ => 0)) := rfl
theorem wa_222 (Y : YT) (qx : Nat) (u : SX11_) (qm : Nat) (v : Nat → Nat) : (wA Y qx u qm v)[222]? = some ((v 22), .inl (Y.2.1 22, 20, .inl fun _ => 0)) := rfl
theorem wa_223 (Y : YT) (qx : Nat) (u : SX11_) (qm : Nat) (v : Nat → Nat) : (wA Y qx u qm v)[223]? = some ((v 23), .inl (Y.2.1 20, 20, .inl fun _ => 0)) := rfl
theorem wa_224 (Y : YT) (qx : Nat) (u : SX11_) (qm : Nat) (v : Nat → Nat) : (wA Y qx u qm v)[224]? = some ((v 24), .inl (Y.2.1 20, 20, .inl fun _ => 0)) := rfl
theorem wa_225 (Y : YT) (qx : Nat) (u : SX11_) (qm : Nat) (v : Nat → Nat) : (wA Y qx u qm v)[225]? = some ((v 25), .inl (Y.2.1 20, 500, .inl fun _ => 0)) := rfl
theorem wa_226 (Y : YT) (qx : Nat) (u : SX11_) (qm : Nat) (v : Nat → Nat) : (wA Y qx u qm v)[226]? = some ((v 26), .inl (Y.2.1 20, 6, .inl fun _ => 0)) := rfl
theorem wa_227 (Y : YT) (qx : Nat) (u : SX11_) (qm : Nat) (v : Nat → Nat) : (wA Y qx u qm v)[227]? = some ((v 27), .inl (Y.2.1 20, 22, .inl fun _ => 0)) := rfl
theorem wa_228 (Y : YT) (qx : Nat) (u : SX11_) (qm : Nat) (v : Nat → Nat) : (wA Y qx u qm v)[228]? = some ((v 28), .inl (Y.2.1 20, 132, .inl fun _ => 0)) := rfl
theorem wa_229 (Y : YT) (qx : Nat) (u : SX11_) (qm : Nat) (v : Nat → Nat) : (wA Y qx u qm v)[229]? = some ((v 29), .inl (Y.2.1 20, 22, .inl fun _ => 0)) := rfl
theorem wa_230 (Y : YT) (qx : Nat) (u : SX11_) (qm : Nat) (v : Nat → Nat) : (wA Y qx u qm v)[230]? = some ((v 30), .inl (Y.2.1 20, 22, .inl fun _ => 0)) := rfl
theorem wa_231 (Y : YT) (qx : Nat) (u : SX11_) (qm : Nat) (v : Nat → Nat) : (wA Y qx u qm v)[231]? = some ((v 31), .inl (Y.2.1 20, 594, .inl fun _ => 0)) := rfl
theorem wa_232 (Y : YT) (qx : Nat) (u : SX11_) (qm : Nat) (v : Nat → Nat) : (wA Y qx u qm v)[232]? = some ((v 32), .inl (Y.2.1 20, 22, .inl fun _ => 0)) := rfl
theorem wa_233 (Y : YT) (qx : Nat) (u : SX11_) (qm : Nat) (v : Nat → Nat) : (wA Y qx u qm v)[233]? = some ((v 33), .inl (Y.2.1 20, 2640, .inl fun _ => 0)) := rfl
theorem wa_234 (Y : YT) (qx : Nat) (u : SX11_) (qm : Nat) (v : Nat → Nat) : (wA Y qx u qm v)[234]? = some ((v 34), .inl (Y.2.1 21, 500, .inr (.inl fun _ => 0))) := rfl
theorem wa_235 (Y : YT) (qx : Nat) (u : SX11_) (qm : Nat) (v : Nat → Nat) : (wA Y qx u qm v)[235]? = some ((v 35), .inl (Y.2.1 20, 12, .inl fun _ => 0)) := rfl
theorem wa_236 (Y : YT) (qx : Nat) (u : SX11_) (qm : Nat) (v : Nat → Nat) : (wA Y qx u qm v)[236]? = some ((v 36), .inl (Y.2.1 20, 54, .inl fun _ => 0)) := rfl
theorem wa_237 (Y : YT) (qx : Nat) (u : SX11_) (qm : Nat) (v : Nat → Nat) : (wA Y qx u qm v)[237]? = some ((v 37), .inl (Y.2.1 20, 16, .inl fun _ => 0)) := rfl
theorem wa_238 (Y : YT) (qx : Nat) (u : SX11_) (qm : Nat) (v : Nat → Nat) : (wA Y qx u qm v)[238]? = some ((v 38), .inl (Y.2.1 20, 16, .inl fun _ => 0)) := rfl
theorem wa_239 (Y : YT) (qx : Nat) (u : SX11_) (qm : Nat) (v : Nat → Nat) : (wA Y qx u qm v)[239]? = some ((v 39), .inl (Y.2.1 20, 16, .inl fun _ => 0)) := rfl
theorem wa_240 (Y : YT) (qx : Nat) (u : SX11_) (qm : Nat) (v : Nat → Nat) : (wA Y qx u qm v)[240]? = some ((v 40), .inl (Y.2.1 20, 441, .inl fun _ => 0)) := rfl
theorem wa_241 (Y : YT) (qx : Nat) (u : SX11_) (qm : Nat) (v : Nat → Nat) : (wA Y qx u qm v)[241]? = some ((v 41), .inl (Y.2.1 20, 60, .inl fun _ => 0)) := rfl
