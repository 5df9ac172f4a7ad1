/-! constructors: an array of rows; Beginnings -/
def wMl (Y : YT) (q N K : Nat) : va_W := (q, .inl (Y.2.1 24, N, .inr (.inr (.inr (.inr fun j => some (q + 1 + j)))))) :: (List.range N).map fun j => (q + 1 + j, .inl (Y.2.1 20, K, .inl fun _ => 0))
theorem wMl_at {Y : YT} {q N K k : Nat} {x : Nat × va_E} (h : (wMl Y q N K)[k]? = some x) : x.1 = q + k := by
  cases k with
  | zero =>
    have h1 := Option.some.inj h
    rw [← h1]
    rfl
  | succ k =>
    have h0 : ((List.range N).map fun j => ((q + 1 + j, .inl (Y.2.1 20, K, .inl fun _ => 0)) : Nat × va_E))[k]? = some x := h
    rw [List.getElem?_map] at h0
    cases hk : (List.range N)[k]? with
    | none => rw [hk] at h0; cases h0
    | some j =>
      rw [hk] at h0
      have e : j = k := by
        rw [List.getElem?_eq_some_iff] at hk
        obtain ⟨h1, h2⟩ := hk
        rw [List.getElem_range] at h2
        exact h2.symm
      have h1 := Option.some.inj h0
      rw [← h1]
      show q + 1 + j = q + (k + 1)
      omega
theorem wMl_D {A : Nat → Prop} {Y : YT} {q N K : Nat} (hA : ∀ x, q ≤ x → A x) : va_D A (wMl Y q N K) := by
  refine ⟨fun i j a b hi hj e => ?_, fun k x hk => ?_⟩
  · have h1 := wMl_at hi
    have h2 := wMl_at hj
    omega
  · have h1 := wMl_at hk
    exact hA _ (by omega)
theorem mO_q (cA : ClassId) (N q : Nat) : mO cA N q N = arrV cA N (fun j => va_rf (some (q + 1 + j))) := by
  unfold mO arrV
  congr 1
  congr 1
  funext j
  exact if_pos j.isLt
section RK
variable {Y : YT} {X : CX} {cc : ByteArray} {nL pc d mc ms k n : Nat} {own : String} {lv lv' : List (Nat × Value)} {st st0 : List Value} {ws ws' rest : va_W}
theorem k_multi {i : Nat} {u v : Int} (N K : Nat) (C : Cn Y X cc nL own d mc ms) (hw : Cond.classLink own i "[[I" ∈ GT) (hu : u = (N : Nat)) (hv : v = (K : Nat)) (hN : N < 100000) (hK : K < 100000) (hd : decode cc pc = .ok (.multianewarray i 2, 4)) (hk : k + (1 + N) ≤ mc) (hn : n + (N + N * K) ≤ ms) (kk : ∀ q, KG Y X nL (pc + 4) lv (.ref q :: st) (ws ++ wMl Y q N K) (k + 1 + N) (n + N + N * K)) : KG Y X nL pc lv (vI v :: vI u :: st) ws k n := by
  obtain ⟨p, l, e, R, s, m, args, below, meth, c, Q, cl, sl⟩ := X
  intro H locs ls hl hP hD hS
  obtain ⟨hx, hb, hml, hown, hts, hKc, hY, hf, hlo, hc1, hs1, hlk⟩ := C
  subst hu
  subst hv
  obtain ⟨kA, hkA, hkindA⟩ := hKc.2.2.2
  obtain ⟨-, kI, hkI, cJ, hkindI⟩ := (hKc.1.1.2 0 (Y.2.1 20, .int) rfl).1 0 (fun _ => .null)
  have hnm : s.vm.findClass "[[I" = some (Y.2.1 24) := (hKc.1.1.2 4 (Y.2.1 24, .array .int) rfl).2
  refine w_multi (N := N) (K := K) hx hb hown (hts _ hw) hnm hkA hkindA hkI hkindI hd (fun z => ?_) (by rw [iI_clamp (by omega) (by omega)]; simp) (fun z => ?_) (by rw [iI_clamp (by omega) (by omega)]; simp) hN hK (Nat.le_trans hk hc1) (Nat.le_trans hn hs1) (fun H1 z1 o1 e1 r1 => ?_)
  · have := (iI_lt (a := (N : Nat)) (b := 0) (by omega) inI_0).mp z
    omega
  · have := (iI_lt (a := (K : Nat)) (b := 0) (by omega) inI_0).mp z
    omega
  · have hkp : ∀ (k : Nat) (x : Nat × va_E), ws[k]? = some x → H1[x.1]? = H[x.1]? := fun k x hx => o1 x.1 ((hP k x hx).lt)
    refine kk H.size H1 locs ls hl ((hP.kept hkp).app (fun k x hx => ?_)) (va_D.app hD (wMl_D (fun x hx => hY x (Nat.le_trans hS.1 hx))) (fun i j a b ha hb e => ?_)) ⟨Nat.le_trans hS.1 (by omega), fun x h1 h2 => (o1 x (Nat.lt_of_lt_of_le h1 hS.1)).trans (hS.2.1 x h1 h2), hS.2.2⟩
    · cases k with
      | zero =>
        have h1 := Option.some.inj hx
        rw [← h1]
        show H1[H.size]? = some (vp_cell _ _)
        rw [vp_cell_q, e1, mO_q]
      | succ k =>
        have h0 : ((List.range N).map fun j => ((H.size + 1 + j, .inl (Y.2.1 20, K, .inl fun _ => 0)) : Nat × va_E))[k]? = some x := hx
        rw [List.getElem?_map] at h0
        cases hj : (List.range N)[k]? with
        | none => rw [hj] at h0; cases h0
        | some j =>
          rw [hj] at h0
          have h1 := Option.some.inj h0
          rw [← h1]
          exact r1 j (List.mem_range.mp (List.mem_of_getElem? hj))
    · have h1 := (hP i a ha).lt
      have h2 := wMl_at hb
      omega
end RK
theorem dX0_init_0 : decode cX0_init 0 = .ok (.aload_n 0, 1) := by decide +kernel
theorem dX0_init_1 : decode cX0_init 1 = .ok (.invokespecial 3, 3) := by decide +kernel
theorem dX0_init_4 : decode cX0_init 4 = .ok (.aload_n 0, 1) := by decide +kernel
theorem dX0_init_5 : decode cX0_init 5 = .ok (.bipush 48, 2) := by decide +kernel
theorem dX0_init_7 : decode cX0_init 7 = .ok (.newarray .int, 2) := by decide +kernel
theorem dX0_init_9 : decode cX0_init 9 = .ok (.putfield 11, 3) := by decide +kernel
theorem dX0_init_12 : decode cX0_init 12 = .ok (.aload_n 0, 1) := by decide +kernel
theorem dX0_init_13 : decode cX0_init 13 = .ok (.bipush 7, 2) := by decide +kernel
theorem dX0_init_15 : decode cX0_init 15 = .ok (.bipush 56, 2) := by decide +kernel
theorem dX0_init_17 : decode cX0_init 17 = .ok (.multianewarray 15 2, 4) := by decide +kernel
theorem dX0_init_21 : decode cX0_init 21 = .ok (.putfield 17, 3) := by decide +kernel
theorem dX0_init_24 : decode cX0_init 24 = .ok (.aload_n 0, 1) := by decide +kernel
theorem dX0_init_25 : decode cX0_init 25 = .ok (.bipush 7, 2) := by decide +kernel
theorem dX0_init_27 : decode cX0_init 27 = .ok (.newarray .int, 2) := by decide +kernel
theorem dX0_init_29 : decode cX0_init 29 = .ok (.putfield 20, 3) := by decide +kernel
theorem dX0_init_32 : decode cX0_init 32 = .ok (.return_, 1) := by decide +kernel
theorem kc0 : Kcl yX0_init cX0_init 1 0 := ⟨gt_in 132 (by decide +kernel) (by decide +kernel), gt_in 515 (by decide +kernel) (by decide +kernel), by decide, by decide +kernel, gt_in 514 (by decide +kernel) (by decide +kernel), rfl⟩
theorem oi0_3 : Cond.methodLink RX0 3 objectInit ∈ GT := gt_in 516 (by decide +kernel) (by decide +kernel)
theorem pf0_11 : Fpf RX0 0 0 (.array .int) := ⟨RX0, TX0, 8, rfl, rfl, rfl, by decide +kernel⟩
theorem pf0_17 : Fpf RX0 0 2 (.array (.array .int)) := ⟨RX0, TX0, 8, rfl, rfl, rfl, by decide +kernel⟩
theorem pf0_20 : Fpf RX0 0 3 (.array .int) := ⟨RX0, TX0, 8, rfl, rfl, rfl, by decide +kernel⟩
theorem cl0_15 : Cond.classLink RX0 15 "[[I" ∈ GT := gt_in 517 (by decide +kernel) (by decide +kernel)
abbrev SX0_ : Type := Nat × Nat × Nat
def bX0 (Y : YT) (h0 : Nat) : SX0_ → va_W := fun t => (h0, .inr (0, [.ref t.1, .int 0, .ref t.2.1, .ref t.2.2, .int 0, .int 0, .int 0, .int 0])) :: ((([] ++ [(t.1, .inl (Y.2.1 20, 48, .inl fun _ => 0))]) ++ wMl Y t.2.1 7 56) ++ [(t.2.2, .inl (Y.2.1 20, 7, .inl fun _ => 0))])
theorem c_X0 {l : Launch} {Y : YT} {h0 : Nat} : CtrN l Y yX0_init cX0_init 1 1 10 454 [.ref h0] h0 0 [.null, .int 0, .null, .null, .int 0, .int 0, .int 0, .int 0] (bX0 Y h0) := by
  refine ctrn_of (by decide) rfl (Nat.le_of_ble_eq_true rfl) [(0, .ref h0)] rfl (fun A X hl C hm hR => ?_)
  subst hl
  refine k_aload (q := 0) C dX0_init_0 rfl rfl ?_
  refine k_obj C oi0_3 oi_m oi_c (by decide) dX0_init_1 ?_ rfl
  refine k_aload (q := 0) C dX0_init_4 rfl rfl ?_
  refine k_bipush (v := 48) C dX0_init_5 (by decide +kernel) ?_
  refine k_newa 48 0 (a0 := (48, .inl fun _ => 0)) C aw_int rfl rfl (ac_int 48) rfl (by decide) (by decide) dX0_init_7 (by decide) (by decide) (fun q1 => ?_)
  refine k_putF (fs' := [.ref q1, .int 0, .null, .null, .int 0, .int 0, .int 0, .int 0]) C hm fX0_11 pf0_11 dX0_init_9 rfl rfl (Nat.le_of_ble_eq_true rfl) rfl ?_
  refine k_aload (q := 0) C dX0_init_12 rfl rfl ?_
  refine k_bipush (v := 7) C dX0_init_13 (by decide +kernel) ?_
  refine k_bipush (v := 56) C dX0_init_15 (by decide +kernel) ?_
  refine k_multi 7 56 C cl0_15 rfl rfl (by decide) (by decide) dX0_init_17 (by decide) (by decide) (fun q2 => ?_)
  refine k_putF (fs' := [.ref q1, .int 0, .ref q2, .null, .int 0, .int 0, .int 0, .int 0]) C hm fX0_17 pf0_17 dX0_init_21 rfl rfl (Nat.le_of_ble_eq_true rfl) rfl ?_
  refine k_aload (q := 0) C dX0_init_24 rfl rfl ?_
  refine k_bipush (v := 7) C dX0_init_25 (by decide +kernel) ?_
  refine k_newa 7 0 (a0 := (7, .inl fun _ => 0)) C aw_int rfl rfl (ac_int 7) rfl (by decide) (by decide) dX0_init_27 (by decide) (by decide) (fun q3 => ?_)
  refine k_putF (fs' := [.ref q1, .int 0, .ref q2, .ref q3, .int 0, .int 0, .int 0, .int 0]) C hm fX0_20 pf0_20 dX0_init_29 rfl rfl (Nat.le_of_ble_eq_true rfl) rfl ?_
  exact k_ret (q1, q2, q3) C hR dX0_init_32 rfl (by decide) (by decide)
