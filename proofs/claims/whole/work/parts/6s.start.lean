/-! what the tables and the premises say at the law's entry -/
theorem dL_0 : decode code 0 = .ok (.new 7, 3) := by decide +kernel
theorem dL_3 : decode code 3 = .ok (.dup, 1) := by decide +kernel
theorem dL_4 : decode code 4 = .ok (.invokespecial 9, 3) := by decide +kernel
theorem dL_7 : decode code 7 = .ok (.astore_n 1, 1) := by decide +kernel
theorem dL_8 : decode code 8 = .ok (.new 10, 3) := by decide +kernel
theorem dL_11 : decode code 11 = .ok (.dup, 1) := by decide +kernel
theorem dL_12 : decode code 12 = .ok (.invokespecial 12, 3) := by decide +kernel
theorem dL_15 : decode code 15 = .ok (.astore_n 2, 1) := by decide +kernel
theorem knL_7 : Knw "SilentReelLaw" 7 11 14 [.null, .null, .null, .null, .null, .null, .null, .null, .int 0, .null, .null, .null, .null, .int 0] := ⟨RX11, TX11, tyX11, rfl, uX11, tyX11_ok, gt_in 138 (by decide +kernel) (by decide +kernel), gt_in 139 (by decide +kernel) (by decide +kernel), gt_in 117 (by decide +kernel) (by decide +kernel), by decide +kernel⟩
theorem knL_10 : Knw "SilentReelLaw" 10 12 67 [.null, .int 0, .int 0, .int 0, .int 0, .int 0, .int 0, .long 0, .int 0, .int 0, .int 0, .int 0, .int 0, .int 0, .null, .null, .null, .null, .null, .null, .null, .null, .null, .null, .null, .null, .null, .null, .null, .null, .null, .null, .null, .int 0, .int 0, .int 0, .null, .null, .null, .null, .null, .int 0, .int 0, .null, .int 0, .int 0, .null, .null, .null, .null, .null, .null, .null, .null, .int 0, .int 0, .long 0, .null, .null, .null, .int 0, .null, .null, .null, .null, .null, .int 0] := ⟨RX12, TX12, tyX12, rfl, uX12, tyX12_ok, gt_in 1244 (by decide +kernel) (by decide +kernel), gt_in 1245 (by decide +kernel) (by decide +kernel), gt_in 133 (by decide +kernel) (by decide +kernel), by decide +kernel⟩
theorem lkL_9 : Cond.methodLink "SilentReelLaw" 9 yX11_init ∈ GT := gt_in 140 (by decide +kernel) (by decide +kernel)
theorem lkL_12 : Cond.methodLink "SilentReelLaw" 12 yX12_init ∈ GT := gt_in 1246 (by decide +kernel) (by decide +kernel)
theorem tb_in {w : Cond} (i : Nat) (h : lw_tbl[i]? = some w) : w ∈ lw_tbl := List.mem_of_getElem? h
theorem gt_sub {w : Cond} (h : w ∈ GT) : w ∈ lw_tbl := (List.mem_filter.mp h).1
theorem known_all {args : Array Value} {s : State} (hts : ∀ w ∈ GT, w.before args s = true) : ∃ D : va_G, ∀ (k : Nat) (q : vw_C), classes[k]? = some q → u_Kn s q.1 q.2.1 q.2.2 (D.1 k) (D.2 k) := by
  have h : ∀ k : Nat, ∃ p : ClassId × (Nat → Nat), ∀ q : vw_C, classes[k]? = some q → u_Kn s q.1 q.2.1 q.2.2 p.1 p.2 := by
    intro k
    match k with
    | 0 =>
      obtain ⟨c, i, h⟩ := u_known (C := RX0) (T := TX0) (N := 8) (n := 8) hts uX0 (hts (.instantiable RX0 8) (gt_in 512 (by decide +kernel) (by decide +kernel)))
      exact ⟨(c, i), fun q hq => by cases hq; exact h⟩
    | 1 =>
      obtain ⟨c, i, h⟩ := u_known (C := RX1) (T := TX1) (N := 3) (n := 3) hts uX1 (hts (.instantiable RX1 3) (gt_in 322 (by decide +kernel) (by decide +kernel)))
      exact ⟨(c, i), fun q hq => by cases hq; exact h⟩
    | 2 =>
      obtain ⟨c, i, h⟩ := u_known (C := RX2) (T := TX2) (N := 3) (n := 3) hts uX2 (hts (.instantiable RX2 3) (gt_in 252 (by decide +kernel) (by decide +kernel)))
      exact ⟨(c, i), fun q hq => by cases hq; exact h⟩
    | 3 =>
      obtain ⟨c, i, h⟩ := u_known (C := RX3) (T := TX3) (N := 4) (n := 4) hts uX3 (hts (.instantiable RX3 4) (gt_in 474 (by decide +kernel) (by decide +kernel)))
      exact ⟨(c, i), fun q hq => by cases hq; exact h⟩
    | 4 =>
      obtain ⟨c, i, h⟩ := u_known (C := RX4) (T := TX4) (N := 2) (n := 2) hts uX4 (hts (.instantiable RX4 2) (gt_in 497 (by decide +kernel) (by decide +kernel)))
      exact ⟨(c, i), fun q hq => by cases hq; exact h⟩
    | 5 =>
      obtain ⟨c, i, h⟩ := u_known (C := RX5) (T := TX5) (N := 4) (n := 4) hts uX5 (hts (.instantiable RX5 4) (gt_in 287 (by decide +kernel) (by decide +kernel)))
      exact ⟨(c, i), fun q hq => by cases hq; exact h⟩
    | 6 =>
      obtain ⟨c, i, h⟩ := u_known (C := RX6) (T := TX6) (N := 5) (n := 5) hts uX6 (hts (.instantiable RX6 5) (gt_in 409 (by decide +kernel) (by decide +kernel)))
      exact ⟨(c, i), fun q hq => by cases hq; exact h⟩
    | 7 =>
      obtain ⟨c, i, h⟩ := u_known (C := RX7) (T := TX7) (N := 11) (n := 11) hts uX7 (hts (.instantiable RX7 11) (gt_in 147 (by decide +kernel) (by decide +kernel)))
      exact ⟨(c, i), fun q hq => by cases hq; exact h⟩
    | 8 =>
      obtain ⟨c, i, h⟩ := u_known (C := RX8) (T := TX8) (N := 14) (n := 14) hts uX8 (hts (.instantiable RX8 14) (gt_in 281 (by decide +kernel) (by decide +kernel)))
      exact ⟨(c, i), fun q hq => by cases hq; exact h⟩
    | 9 =>
      obtain ⟨c, i, h⟩ := u_known (C := RX9) (T := TX9) (N := 4) (n := 4) hts uX9 (hts (.instantiable RX9 4) (gt_in 246 (by decide +kernel) (by decide +kernel)))
      exact ⟨(c, i), fun q hq => by cases hq; exact h⟩
    | 10 =>
      obtain ⟨c, i, h⟩ := u_known (C := RX10) (T := TX10) (N := 6) (n := 6) hts uX10 (hts (.instantiable RX10 6) (gt_in 449 (by decide +kernel) (by decide +kernel)))
      exact ⟨(c, i), fun q hq => by cases hq; exact h⟩
    | 11 =>
      obtain ⟨c, i, h⟩ := u_known (C := RX11) (T := TX11) (N := 14) (n := 14) hts uX11 (hts (.instantiable RX11 14) (gt_in 139 (by decide +kernel) (by decide +kernel)))
      exact ⟨(c, i), fun q hq => by cases hq; exact h⟩
    | 12 =>
      obtain ⟨c, i, h⟩ := u_known (C := RX12) (T := TX12) (N := 67) (n := 67) hts uX12 (hts (.instantiable RX12 67) (gt_in 1245 (by decide +kernel) (by decide +kernel)))
      exact ⟨(c, i), fun q hq => by cases hq; exact h⟩
    | k + 13 =>
      exact ⟨(0, fun _ => 0), fun q hq => by
        have e : classes[k + 13]? = none := List.getElem?_eq_none (by show 13 ≤ k + 13; omega)
        rw [e] at hq
        cases hq⟩
  obtain ⟨f, hf⟩ := Classical.axiomOfChoice h
  exact ⟨(fun k => (f k).1, fun k => (f k).2), fun k q hq => hf k q hq⟩
theorem arr_of {s : State} {c comp : ClassId} {k : Class} {ty : FieldType} (h2 : s.vm.classes[c]? = some k) (h3 : k.kind = .array comp ty) : ArrOfT s c ty := fun N z => ⟨(fun k h => by cases h), k, h2, comp, h3⟩
def idf (cI cL cB cS cG : ClassId) : Nat → ClassId := fun k => if k = 20 then cI else if k = 21 then cL else if k = 22 then cB else if k = 23 then cS else cG
theorem kc_all {args : Array Value} {s : State} (hts : ∀ w ∈ lw_tbl, w.before args s = true) : ∃ (D : va_G) (ids : Nat → ClassId), ∀ (y : Nat → Nat) (A : Nat → Prop), KC (D, ids, y, A) s := by
  obtain ⟨D, hD⟩ := known_all (fun w h => hts w (gt_sub h))
  obtain ⟨cI, kI, jI, a1, a2, a3⟩ := Cond.arrayClass_spec (hts (.arrayClass .int) (gt_sub aw_int))
  obtain ⟨cL, kL, jL, l1, l2, l3⟩ := Cond.arrayClass_spec (hts (.arrayClass .long) (gt_sub aw_long))
  obtain ⟨cB, kB, jB, z1, z2, z3⟩ := Cond.arrayClass_spec (hts (.arrayClass .boolean) (gt_sub aw_boolean))
  have hao := hts (.arrayOver (.object RX6)) (tb_in 480 (by decide +kernel))
  obtain ⟨jS, cS, kS, b1, b2, b3, b4, b5⟩ := Cond.arrayOver_spec hao
  obtain ⟨jG, cG, kG, d1, d2, d3, d4, d5⟩ := arrayOverA_spec (hts (.arrayOver (.array .int)) (tb_in 518 (by decide +kernel)))
  have e : jG = cI := Option.some.inj (d1.symm.trans a1)
  subst e
  refine ⟨D, idf jG cL cB cS cG, fun y A => ⟨⟨⟨hD, fun k q hq => ?_⟩, va_Nw.of rfl (hts (.methodLinkNest RX0 32 yX11_isStep RX11) (tb_in 1097 (by decide +kernel))), va_Nw.of rfl (hts (.methodLinkNest RX4 83 yX11_isStep RX11) (tb_in 1237 (by decide +kernel)))⟩, fun q hq => ?_, va_AO.of hao, kG, d3, d4⟩⟩
  · match k, hq with
    | 0, hq => cases hq; exact ⟨arr_of a2 a3, a1⟩
    | 1, hq => cases hq; exact ⟨arr_of l2 l3, l1⟩
    | 2, hq => cases hq; exact ⟨arr_of z2 z3, z1⟩
    | 3, hq => cases hq; exact ⟨arr_of b3 b4, kS, jS, b3, b4, b1, b5⟩
    | 4, hq => cases hq; exact ⟨arr_of d3 d4, d5⟩
    | k + 5, hq =>
      have e : (tyL (D, idf jG cL cB cS cG, y, A))[k + 5]? = none := List.getElem?_eq_none (by show 5 ≤ k + 5; omega)
      rw [e] at hq
      cases hq
  · have hq2 : q = (RX11, 27, yX8_init) ∨ q = (RX8, 32, yX5_init) ∨ q = (RX8, 39, yX1_init) ∨ q = (RX11, 37, yX6_init) ∨ q = (RX6, 17, yX5_init) ∨ q = (RX11, 47, yX10_init) ∨ q = (RX3, 21, yX6_init) ∨ q = (RX11, 64, yX4_init) ∨ q = (RX11, 71, yX0_init) := by simpa [nsW] using hq
    rcases hq2 with rfl | rfl | rfl | rfl | rfl | rfl | rfl | rfl | rfl
    · exact va_Nw.of rfl (hts (.methodLinkNest RX11 27 yX8_init RX11) (tb_in 282 (by decide +kernel)))
    · exact va_Nw.of rfl (hts (.methodLinkNest RX8 32 yX5_init RX11) (tb_in 288 (by decide +kernel)))
    · exact va_Nw.of rfl (hts (.methodLinkNest RX8 39 yX1_init RX11) (tb_in 323 (by decide +kernel)))
    · exact va_Nw.of rfl (hts (.methodLinkNest RX11 37 yX6_init RX11) (tb_in 410 (by decide +kernel)))
    · exact va_Nw.of rfl (hts (.methodLinkNest RX6 17 yX5_init RX11) (tb_in 415 (by decide +kernel)))
    · exact va_Nw.of rfl (hts (.methodLinkNest RX11 47 yX10_init RX11) (tb_in 450 (by decide +kernel)))
    · exact va_Nw.of rfl (hts (.methodLinkNest RX3 21 yX6_init RX11) (tb_in 481 (by decide +kernel)))
    · exact va_Nw.of rfl (hts (.methodLinkNest RX11 64 yX4_init RX11) (tb_in 498 (by decide +kernel)))
    · exact va_Nw.of rfl (hts (.methodLinkNest RX11 71 yX0_init RX11) (tb_in 513 (by decide +kernel)))
theorem own_el : ∀ j, j < 144 → (flatC (Jvm.Cond.and given_1 narrow_1))[13 + j]? = some (Cond.eq (.elem (.field (Term.string "SilentReel$Tape" 26) "java/lang/String" "value" "[B") (.int (Int32.ofNat j))) (.int (([ownB].getD 0 []).getD j 0))) := by decide +kernel
theorem sp_all {b : Nat} {s : State} {A : Nat → Prop} (hts : ∀ w ∈ lw_tbl, w.before #[Value.ref b] s = true) (hgv : (Jvm.Cond.and given_1 narrow_1).before #[Value.ref b] s = true) (hA : ∀ a : Nat, a < s.heap.size → ¬ A a) : ∃ g : Nat × Nat × Nat, SP g A s s.heap := by
  have hs := flat_of_before _ hgv
  have hm : ∀ (i : Nat) (w : Cond), (flatC (Jvm.Cond.and given_1 narrow_1))[i]? = some w → w.before #[Value.ref b] s = true := fun i w h => hs w (List.mem_of_getElem? h)
  obtain ⟨adK, adV, hS, hev⟩ := vk_Sof (args := #[Value.ref b]) (s := s) (N := 1) (tm := fun _ => (Term.string "SilentReel$Tape" 26)) (len := [144]) (byt := [ownB]) (A := A)
    (fun i hi => by
      have e : i = 0 := by omega
      subst e
      decide)
    (fun i hi => by
      have e : i = 0 := by omega
      subst e
      exact hm 9 _ (by decide +kernel))
    (fun i hi => by
      have e : i = 0 := by omega
      subst e
      exact hm 10 _ (by decide +kernel))
    (fun i hi => by
      have e : i = 0 := by omega
      subst e
      exact hm 11 _ (by decide +kernel))
    (fun i hi => by
      have e : i = 0 := by omega
      subst e
      exact hm 12 _ (by decide +kernel))
    (fun i hi j hj => by
      have e : i = 0 := by omega
      subst e
      exact hm (13 + j) _ (own_el j hj))
    (fun i j hi hj hij => absurd (show i = j by omega) hij) hA
  have h1 : vk_S 1 [144] [ownB] (fun _ => adK 0) (fun _ => adV 0) A s s.heap := ⟨fun i hi => by
    have e : i = 0 := by omega
    subst e
    exact hS.1 0 hi, fun i j hi hj _ => by omega⟩
  have h2 : va_Z "java/lang/String" "COMPACT_STRINGS" "Z" (.int 1) A s s.heap := va_Zof (hts (.laysStatic "java/lang/String" "COMPACT_STRINGS" "Z") (tb_in 165 (by decide +kernel))) (hts (.initialized "java/lang/String") (tb_in 119 (by decide +kernel))) (va_eqi (hm 4 _ (by decide +kernel))) hA
  have h3 : va_Zq "jdk/internal/util/Preconditions" "SIOOBE_FORMATTER" "Ljava/util/function/BiFunction;" A s s.heap := va_Zqof (hts (.laysStatic "jdk/internal/util/Preconditions" "SIOOBE_FORMATTER" "Ljava/util/function/BiFunction;") (tb_in 173 (by decide +kernel))) (hts (.initialized "jdk/internal/util/Preconditions") (tb_in 121 (by decide +kernel))) (hm 5 _ (by decide +kernel)) hA
  have h4 : vk_R RX7 26 ownTx (adK 0) s := vk_R.of (hts (.stringRef RX7 26 ownTx) (tb_in 155 (by decide +kernel))) (hev 0 (by decide))
  rcases h3 with h3 | ⟨t, h3⟩
  · exact ⟨(adK 0, adV 0, 0), h1, h2, h3, h4⟩
  · exact ⟨(adK 0, adV 0, t + 1), h1, h2, h3, h4⟩
section RK
variable {Y : YT} {X : CX} {cc : ByteArray} {nL pc d mc ms k n : Nat} {own : String} {lv lv' : List (Nat × Value)} {st : List Value} {ws : va_W}
theorem k_astore {j : Fin 4} {i a : Nat} (C : Cn Y X cc nL own d mc ms) (hd : decode cc pc = .ok (.astore_n j, 1)) (hi : (j : Nat) = i) (hn : i < nL) (hv : (i, .ref a) :: lv.filter (fun q => !(q.1 == i) && !(q.1 + 1 == i && q.2.category == 2)) = lv') (kk : KG Y X nL (pc + 1) lv' st ws k n) : KG Y X nL pc lv (.ref a :: st) ws k n := by
  obtain ⟨p, l, e, R, s, m, args, below, meth, c, Q, cl, sl⟩ := X
  intro H locs ls hl hP hD hS
  exact lv_astore_n C.1 C.2.1 hd hi hl hn hv (fun ls hl => kk H locs ls hl hP hD hS)
end RK
theorem dw_nil {A : Nat → Prop} : va_D A [] := ⟨fun i j p q h => by simp at h, fun k q h => by simp at h⟩
/-- YOUR PART: from the entry, for every script of at most 3072 ints, the law comes to its end with true -/
theorem whole_start {p : Program} {e : Env} {s : State} {m : MethodId} {below : List Frame} {meth : Method} {c : Code} (l : Launch) {b L : Nat} {xs : Nat → Int32} (hL : L ≤ 3072) (C0 : lw_At p s m meth c b L xs) : W p l e room_1 s m #[Value.ref b] below meth c s.heap [] 0 0 (lw_Z below #[Value.ref b] s) (entryFrame m ([Value.ref b] : List Value).toArray 4) := by
  obtain ⟨hx, hb, hr, hml, hown, hts, hX, hbl, hlocks, hgv⟩ := id C0
  have hA : ∀ a : Nat, a < s.heap.size → ¬ (fun q : Nat => s.heap.size ≤ q) a := fun a h => Nat.not_le.mpr h
  obtain ⟨g, hSP⟩ := sp_all hts hgv hA
  obtain ⟨D, ids, hKC⟩ := kc_all hts
  have hl0 := lv_entry [.ref b] (n := 4) (Nat.le_of_ble_eq_true rfl)
  rw [lg_entry_eq]
  have hl0 : lv_has _ 4 [(0, .ref b)] := hl0
  have C : Cn (D, ids, fun _ => 0, fun q => s.heap.size ≤ q) (p, l, e, room_1, s, m, #[Value.ref b], below, meth, c, lw_Z below #[Value.ref b] s, 600000, 7302250) code 4 "SilentReelLaw" 100 600000 7302250 := ⟨hx, hb, hml, hown, fun w h => hts w (gt_sub h), hKC _ _, fun q h => h, by decide, by decide, Nat.le_refl _, Nat.le_refl _, hlocks⟩
  have hs : Sp (D, ids, fun _ => 0, fun q => s.heap.size ≤ q) (p, l, e, room_1, s, m, #[Value.ref b], below, meth, c, lw_Z below #[Value.ref b] s, 600000, 7302250) g := hSP
  have main : KG (D, ids, fun _ => 0, fun q => s.heap.size ≤ q) (p, l, e, room_1, s, m, #[Value.ref b], below, meth, c, lw_Z below #[Value.ref b] s, 600000, 7302250) 4 0 [(0, .ref b)] [] [] 0 0 := by
    refine k_new C knL_7 dL_0 (by decide) (by decide) (fun qx => ?_)
    refine k_dup C dL_3 ?_
    refine k_callS (ws := []) (As := []) C hs lkL_9 kc11 dL_4 rfl (Nat.le_of_ble_eq_true rfl) rfl (by decide) (by decide) (by decide) c_X11 (fun u => ?_)
    refine k_astore (lv' := [(1, .ref qx), (0, .ref b)]) C dL_7 rfl (by decide) rfl ?_
    refine k_new C knL_10 dL_8 (by decide) (by decide) (fun qm => ?_)
    refine k_dup C dL_11 ?_
    refine k_call (As := []) C lkL_12 kc12 dL_12 rfl (Nat.le_of_ble_eq_true rfl) rfl (by decide) (by decide) (by decide) c_X12 (fun v => ?_)
    refine k_astore (lv' := [(2, .ref qm), (1, .ref qx), (0, .ref b)]) C dL_15 rfl (by decide) rfl ?_
    intro H locs ls hl hP hD hS
    have hP : va_P D classes (wA (D, ids, fun _ => 0, fun q => s.heap.size ≤ q) qx u qm v) H := hP
    have hD : va_D (fun q => s.heap.size ≤ q) (wA (D, ids, fun _ => 0, fun q => s.heap.size ≤ q) qx u qm v) := hD
    obtain ⟨y, hy⟩ := st_y (D, ids, fun _ => 0, fun q => s.heap.size ≤ q) qx u qm v
    have hP1 : va_P D classes (wsM (D, ids, y, fun q => s.heap.size ≤ q) M0) H := st_P (Y := (D, ids, fun _ => 0, fun q => s.heap.size ≤ q)) hP hy
    have hY1 : YOK (D, ids, y, fun q => s.heap.size ≤ q) := st_Y (Y := (D, ids, fun _ => 0, fun q => s.heap.size ≤ q)) hD hy
    refine W.widen (k := 600000) (n := 7302250) (by decide) (by decide) ?_
    have hC : Cx (D, ids, y, fun q => s.heap.size ≤ q) (p, l, e, room_1, s, m, #[Value.ref b], below, meth, c, lw_Z below #[Value.ref b] s, 600000, 7302250) code 4 "SilentReelLaw" 100 := ⟨hx, hb, hml, hown, fun w h => hts w (gt_sub h), (hKC _ _).1, hY1, by decide, by decide, Nat.le_refl _, Nat.le_refl _, hlocks⟩
    have hLC : LC (D, ids, y, fun q => s.heap.size ≤ q) (p, l, e, room_1, s, m, #[Value.ref b], below, meth, c, lw_Z below #[Value.ref b] s, 600000, 7302250) b L xs := ⟨hX, hbl, fun q h => h, hL, rfl, rfl, rfl, rfl, rfl, hr⟩
    have hG : G (D, ids, y, fun q => s.heap.size ≤ q) (p, l, e, room_1, s, m, #[Value.ref b], below, meth, c, lw_Z below #[Value.ref b] s, 600000, 7302250) 4 16 [(2, vR (D, ids, y, fun q => s.heap.size ≤ q) 199), (1, vR (D, ids, y, fun q => s.heap.size ≤ q) 0), (0, .ref b)] [] M0 := by
      refine g_iconst hC dL_16 rfl ?_
      refine g_istore_n (lv' := LV (D, ids, y, fun q => s.heap.size ≤ q) b 0) hC dL_17 rfl (by decide) rfl ?_
      exact law_loop hC hLC 513 0 0 M0 (by omega) (by omega) (by omega) (by omega) inv0
    refine hG H locs ls ?_ hP1 hS
    have e0 : y 0 = qx := hy 0 _ (wa_0 _ qx u qm v)
    have e1 : y 199 = qm := hy 199 _ (wa_199 _ qx u qm v)
    show lv_has ls 4 [(2, .ref (y 199)), (1, .ref (y 0)), (0, .ref b)]
    rw [e0, e1]
    exact hl
  exact main s.heap [] _ hl0 p_nil dw_nil va_S.rf
