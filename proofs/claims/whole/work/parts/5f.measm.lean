/-! distances: the class's way, the model's way -/
/-- who is next to what, over seven places -/
def aD (D : TD) (p j : Nat) : Bool := if p < (dNa D).length then dRe D p j else (j == p)
theorem bt_nI {x i : Nat} (hi : i < 32) : bt (nI x) i = x.testBit i := by
  unfold bt
  show (BitVec.ofNat 32 x).getLsbD i = _
  rw [BitVec.getLsbD_ofNat]
  simp [hi]
theorem dsT_c (A : Nat → Nat → Bool) (i j k : Nat) : dsT A i j (k + 1) = if dsT A i j k ≠ -1 then dsT A i j k else if wk A i k j = true then (k : Int) else -1 := rfl
theorem zandn {a c : Nat} (ha : a < 128) (hc : c < 128) : zand (a : Int) (zxor (c : Int) (-1)) = ((a &&& (127 ^^^ c) : Nat) : Int) := by
  unfold zand zxor
  have h : iI (a : Int) &&& iI ((iI (c : Int) ^^^ iI (-1)).toInt) = nI (a &&& (127 ^^^ c)) := by
    rw [iI_of, iI_n, iI_n]
    apply b_ext
    intro i hi
    rw [b_and, b_xor, bt_nI hi, bt_nI hi, bt_nI hi, show iI (-1) = -1 from rfl, b_m1 i hi, Nat.testBit_and, Nat.testBit_xor]
    by_cases q : i < 7
    · have : ∀ i, i < 7 → (127 : Nat).testBit i = true := by decide
      rw [this i q]
      simp
    · have : a.testBit i = false := Nat.testBit_lt_two_pow (Nat.lt_of_lt_of_le ha (Nat.pow_le_pow_right (n := 2) (i := 7) (by decide) (by omega)))
      rw [this]
      simp
  rw [h, nI_ti (Nat.lt_of_le_of_lt Nat.and_le_left (by omega))]
section
variable {M : Mem} {t : Int} {D : TD} {Q : Mem → Prop}
/-- the class's distances from the places below i, and of i those below r, stand -/
def msX (M0 M : Mem) (t : Int) (D : TD) (i r : Nat) : Prop := (∀ a, a ≠ t + 3 → M a = M0 a) ∧ (∀ i' j : Nat, i' < i → j < (dNa D).length → M (t + 3) (7 * i' + j) = dst (aD D) i' j) ∧ (∀ j : Nat, j < (dNa D).length → M (t + 3) (7 * i + j) = dsT (aD D) i j r) ∧ (∀ i' j : Nat, i < i' → i' < (dNa D).length → j < (dNa D).length → M (t + 3) (7 * i' + j) = -1)
theorem x_ms_in {M0 : Mem} {K : Int → Int → Int → Mem → Prop} {i r e re : Nat} (hx : DX M0 t D) (h7 : (dNa D).length ≤ 7) (hi : i < (dNa D).length) (hr : r < 7) (he : e < 128) (hre : re < 128) (hee : ∀ j : Nat, j < 7 → (e.testBit j = true ↔ wk (aD D) i r j = true ∧ (∀ r', r' < r → ¬ wk (aD D) i r' j = true))) (h : ∀ M' bd : Nat → Prop, True) (hK : ∀ M' be, be < 128 → (∀ j : Nat, j < 7 → (be.testBit j = true ↔ ∃ p, p < (dNa D).length ∧ e.testBit p = true ∧ aD D p j = true)) → msX M0 M' t D i (r + 1) → K (re : Nat) (zand (be : Nat) (zxor (re : Nat) (-1))) ((r : Nat) + 1) M') :
    ∀ (d p be : Nat) (M : Mem), p + d = (dNa D).length → be < 128 → (∀ j : Nat, j < 7 → (be.testBit j = true ↔ ∃ q, q < p ∧ e.testBit q = true ∧ aD D q j = true)) → (∀ a, a ≠ t + 3 → M a = M0 a) → (∀ i' j : Nat, i' < i → j < (dNa D).length → M (t + 3) (7 * i' + j) = dst (aD D) i' j) → (∀ j : Nat, j < (dNa D).length → M (t + 3) (7 * i + j) = if j < p then dsT (aD D) i j (r + 1) else dsT (aD D) i j r) → (∀ i' j : Nat, i < i' → i' < (dNa D).length → j < (dNa D).length → M (t + 3) (7 * i' + j) = -1) → m_X8_measureFrom_L26 K Q t (i : Nat) (re : Nat) (e : Nat) (r : Nat) (d + 1) (be : Nat) (p : Nat) M
  | 0, p, be, M, hp, hb, hbe, z, z1, z2, z3 => by
    have kt := isTown hx.1
    unfold m_X8_measureFrom_L26
    rw [z t (by omega), hx.2.1]
    refine ⟨by omega, by omega, fun _ => ?_, fun q => by omega⟩
    have : p = (dNa D).length := by omega
    subst this
    exact hK M be hb hbe ⟨z, z1, fun j hj => by rw [z2 j hj, if_pos hj], z3⟩
  | d + 1, p, be, M, hp, hb, hbe, z, z1, z2, z3 => by
    have kt := isTown hx.1
    unfold m_X8_measureFrom_L26 m_X8_measureFrom_J71
    have p7 : p < 7 := by omega
    have zt := z_tb (a := (e : Nat)) (k := (p : Nat)) (by omega) (by omega)
    unfold tb at zt
    rw [Int.toNat_natCast, Int.toNat_natCast] at zt
    rw [z t (by omega), hx.2.1]
    have step : ∀ (be' : Nat) (M' : Mem), be' < 128 → (∀ j : Nat, j < 7 → (be'.testBit j = true ↔ be.testBit j = true ∨ (e.testBit p = true ∧ aD D p j = true))) → (∀ a, a ≠ t + 3 → M' a = M0 a) → (∀ k, k ≠ 7 * (i : Int) + p → M' (t + 3) k = M (t + 3) k) → M' (t + 3) (7 * i + p) = dsT (aD D) i p (r + 1) → m_X8_measureFrom_L26 K Q t (i : Nat) (re : Nat) (e : Nat) (r : Nat) (d + 1) (be' : Nat) ((p : Nat) + 1) M' := fun be' M' hb' hbe' zz zr zv => by
      rw [cast1]
      refine x_ms_in hx h7 hi hr he hre hee h hK d (p + 1) be' M' (by omega) hb' (fun j hj => ?_) zz (fun i' j a1 a2 => by rw [zr _ (by omega), z1 i' j a1 a2]) (fun j hj => ?_) (fun i' j a1 a2 a3 => by rw [zr _ (by omega), z3 i' j a1 a2 a3])
      · rw [hbe' j hj, hbe j hj]
        constructor
        · intro w
          rcases w with ⟨q, hq, w⟩ | w
          · exact ⟨q, by omega, w⟩
          · exact ⟨p, by omega, w⟩
        · intro w
          obtain ⟨q, hq, w⟩ := w
          by_cases c : q = p
          · subst c
            exact Or.inr w
          · exact Or.inl ⟨q, by omega, w⟩
      · by_cases c : j = p
        · subst c
          rw [zv, if_pos (by omega)]
        · rw [zr _ (by omega), z2 j hj]
          by_cases c2 : j < p
          · rw [if_pos c2, if_pos (by omega)]
          · rw [if_neg c2, if_neg (by omega)]
    have old : M (t + 3) (7 * i + p) = dsT (aD D) i p r := by rw [z2 p (by omega), if_neg (by omega)]
    refine ⟨by omega, by omega, fun q => by omega, fun _ => ⟨by omega, fun q => ?_, fun q => ?_⟩⟩
    · have ep : e.testBit p = true := zt.1.mp q
      obtain ⟨w1, w2⟩ := (hee p p7).mp ep
      refine ⟨by omega, fun M5 e5 => ⟨by omega, ?_⟩⟩
      have near := hx.2.2.2.2.2.2.2.2.1 p (by omega)
      have m2 : M5 (t + 2) p = M0 (t + 2) p := by rw [e5, up_ne _ (by omega), z (t + 2) (by omega)]
      have en : M0 (t + 2) p = ((M0 (t + 2) p).toNat : Nat) := (toNat_i near.1).symm
      rw [m2, en, z_or (by omega) (by omega)]
      refine step _ M5 (Nat.or_lt_two_pow (n := 7) hb (by omega)) (fun j hj => ?_) (fun a ha => by rw [e5, up_ne _ ha, z a ha]) (fun k hk => by rw [e5, up_get, if_neg (fun w => hk w.2)]) ?_
      · rw [Nat.testBit_or, Bool.or_eq_true]
        have : aD D p j = (M0 (t + 2) p).toNat.testBit j := by
          unfold aD
          rw [if_pos (by omega)]
          exact near.2.2 j hj
        rw [this]
        simp [ep]
      · rw [e5, up_get, if_pos ⟨rfl, rfl⟩]
        exact (dsT_at w1 w2 (r + 1) (by omega)).symm
    · have ep : ¬ e.testBit p = true := mt zt.1.mpr q
      refine step be M hb (fun j hj => by simp [ep]) z (fun _ _ => rfl) ?_
      rw [old, dsT_c]
      by_cases c : dsT (aD D) i p r = -1
      · rw [if_neg (by omega), if_neg, c]
        intro w
        exact ep ((hee p p7).mpr ⟨w, (dsT_no r).mp c⟩)
      · rw [if_pos c]
theorem x_ms_out {M0 : Mem} {i : Nat} (hx : DX M0 t D) (h7 : (dNa D).length ≤ 7) (hi : i < (dNa D).length) (h : ∀ M', msX M0 M' t D i 7 → Q M') :
    ∀ (d r e re : Nat) (M : Mem), r + d = 7 → e < 128 → re < 128 → (∀ j : Nat, j < 7 → (e.testBit j = true ↔ wk (aD D) i r j = true ∧ (∀ r', r' < r → ¬ wk (aD D) i r' j = true))) → (∀ j : Nat, j < 7 → (re.testBit j = true ↔ ∃ r', r' < r ∧ wk (aD D) i r' j = true)) → msX M0 M t D i r → m_X8_measureFrom_L9 Q t (i : Nat) (d + 1) (re : Nat) (e : Nat) (r : Nat) M
  | 0, r, e, re, M, hr, he, hre, hee, hrr, hm => by
    unfold m_X8_measureFrom_L9
    have : r = 7 := by omega
    subst this
    exact ⟨by omega, fun _ => h M hm, fun q => by omega⟩
  | d + 1, r, e, re, M, hr, he, hre, hee, hrr, hm => by
    unfold m_X8_measureFrom_L9
    rw [z_or (by omega) (by omega)]
    have l2 : re ||| e < 128 := Nat.or_lt_two_pow (n := 7) hre he
    refine ⟨by omega, fun q => by omega, fun _ => ⟨(dNa D).length + 1, ?_⟩⟩
    refine x_ms_in hx h7 hi (by omega) he l2 hee (fun _ _ => trivial) (fun M' be hb hbe hm' => ?_) (dNa D).length 0 0 M (by omega) (by decide) (fun j hj => by simp) hm.1 hm.2.1 (fun j hj => by rw [hm.2.2.1 j hj, if_neg (by omega)]) hm.2.2.2
    have r2 : ∀ j : Nat, j < 7 → ((re ||| e).testBit j = true ↔ ∃ r', r' < r + 1 ∧ wk (aD D) i r' j = true) := fun j hj => by
      rw [Nat.testBit_or, Bool.or_eq_true, hrr j hj, hee j hj]
      constructor
      · intro w
        rcases w with ⟨r', h1, h2⟩ | w
        · exact ⟨r', by omega, h2⟩
        · exact ⟨r, by omega, w.1⟩
      · intro w
        obtain ⟨r', h1, h2⟩ := w
        by_cases c : ∃ r'', r'' < r ∧ wk (aD D) i r'' j = true
        · exact Or.inl c
        · refine Or.inr ⟨?_, fun r'' h3 h4 => c ⟨r'', h3, h4⟩⟩
          have : r' = r := Decidable.byContradiction fun z => c ⟨r', by omega, h2⟩
          rw [← this]
          exact h2
    rw [zandn hb l2, cast1]
    refine x_ms_out hx h7 hi h d (r + 1) _ _ M' (by omega) (Nat.lt_of_le_of_lt Nat.and_le_left hb) l2 (fun j hj => ?_) r2 hm'
    have t127 : ∀ j, j < 7 → (127 : Nat).testBit j = true := by decide
    rw [Nat.testBit_and, Nat.testBit_xor, t127 j hj, Bool.and_eq_true, hbe j hj]
    have neg : ((true ^^ (re ||| e).testBit j) = true) ↔ ¬ ((re ||| e).testBit j = true) := by simp
    rw [neg, r2 j hj]
    constructor
    · intro w
      obtain ⟨⟨p, p1, p2, p3⟩, w⟩ := w
      have := (hee p (by omega)).mp p2
      exact ⟨wk_s.mpr (Or.inr ⟨p, by omega, this.1, p3⟩), fun r' h1 h2 => w ⟨r', h1, h2⟩⟩
    · intro w
      refine ⟨?_, fun z => ?_⟩
      · rcases wk_s.mp w.1 with z | ⟨p, p7, z1, z2⟩
        · exact absurd z (w.2 r (by omega))
        · have pn : p < (dNa D).length := by
            refine Decidable.byContradiction fun c => ?_
            unfold aD at z2
            rw [if_neg c] at z2
            have : j = p := by simpa using z2
            subst this
            exact w.2 r (by omega) z1
          refine ⟨p, pn, (hee p p7).mpr ⟨z1, fun r' h1 h2 => ?_⟩, z2⟩
          have := wk_s (A := aD D).mpr (Or.inr ⟨p, p7, h2, z2⟩)
          exact w.2 (r' + 1) (by omega) this
      · obtain ⟨r', h1, h2⟩ := z
        exact w.2 r' h1 h2
theorem x_measure (hx : DX M t D) (h7 : (dNa D).length ≤ 7) (h : ∀ M', (∀ a, a ≠ t + 3 → M' a = M a) → (∀ i j : Nat, i < (dNa D).length → j < (dNa D).length → M' (t + 3) (7 * i + j) = dst (aD D) i j) → Q M') : m_X8_measure t M Q := by
  have kt := isTown hx.1
  unfold m_X8_measure
  have k20 : kd (t + 3) = 20 := by rcases kt with rfl | rfl <;> rfl
  have l49 : ln (t + 3) = ((49 : Nat) : Int) := by rcases kt with rfl | rfl <;> rfl
  refine ⟨hx.1, j_fill k20 l49 (by decide) fun M1 o1 v1 => ⟨(dNa D).length + 1, ?_⟩⟩
  have loop : ∀ (d i : Nat) (M2 : Mem), i + d = (dNa D).length → (∀ a, a ≠ t + 3 → M2 a = M a) → (∀ i' j : Nat, i' < i → j < (dNa D).length → M2 (t + 3) (7 * i' + j) = dst (aD D) i' j) → (∀ i' j : Nat, i ≤ i' → i' < (dNa D).length → j < (dNa D).length → M2 (t + 3) (7 * i' + j) = -1) → m_X8_measure_L10 Q t (d + 1) (i : Nat) M2 := by
    intro d
    induction d with
    | zero =>
      intro i M2 hi z z1 z2
      unfold m_X8_measure_L10
      rw [z t (by omega), hx.2.1]
      exact ⟨by omega, by omega, fun _ => h M2 z (fun i' j a1 a2 => z1 i' j (by omega) a2), fun q => by omega⟩
    | succ d ih =>
      intro i M2 hi z z1 z2
      unfold m_X8_measure_L10 m_X8_measureFrom
      rw [z t (by omega), hx.2.1]
      refine ⟨by omega, by omega, fun q => by omega, fun _ => ⟨hx.1, 8, ?_⟩⟩
      have p2 : 2 ^ i ≤ 2 ^ 6 := Nat.pow_le_pow_right (by decide) (by omega)
      rw [z_shl1 (by omega), Int.toNat_natCast]
      have dx2 : DX M2 t D := by
        unfold DX reX fmX at *
        rw [z t (by omega), z (t + 1) (by omega), z (t + 2) (by omega), z (t + 4) (by omega), z (t + 5) (by omega), z (t + 6) (by omega), z (t + 7) (by omega), z (t + 7 + 1) (by omega), z (t + 7 + 2) (by omega), z (t + 7 + 3) (by omega), z (t + 11) (by omega), z (t + 11 + 1) (by omega), z (t + 14) (by omega), z (t + 14 + 1) (by omega)]
        exact hx
      refine x_ms_out (M0 := M2) dx2 h7 (by omega) (fun M' hm => ?_) 7 0 (2 ^ i) 0 M2 (by omega) (Nat.lt_of_le_of_lt p2 (by decide)) (by decide) (fun j hj => ?_) (fun j hj => by simp) ⟨fun _ _ => rfl, z1, fun j hj => z2 i j (by omega) (by omega) hj, fun i' j a1 a2 a3 => z2 i' j (by omega) a2 a3⟩
      · rw [cast1]
        refine ih (i + 1) M' (by omega) (fun a ha => by rw [hm.1 a ha, z a ha]) (fun i' j a1 a2 => ?_) (fun i' j a1 a2 a3 => hm.2.2.2 i' j (by omega) a2 a3)
        by_cases c : i' = i
        · subst c
          exact hm.2.2.1 j a2
        · exact hm.2.1 i' j (by omega) a2
      · rw [Nat.testBit_two_pow, decide_eq_true_eq, wk_0]
        constructor
        · intro w
          exact ⟨w.symm, fun r' h1 => by omega⟩
        · intro w
          exact w.1.symm
  refine loop (dNa D).length 0 M1 (by omega) (fun a ha => o1 a ha) (fun i' j a1 _ => by omega) (fun i' j _ a1 a2 => ?_)
  have := v1 (7 * i' + j) (by omega)
  rw [show ((7 * i' + j : Nat) : Int) = 7 * (i' : Int) + j by omega] at this
  exact this
end
