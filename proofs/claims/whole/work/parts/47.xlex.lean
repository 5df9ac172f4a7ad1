/-! the class reads tokens -/
def oT (M M' : Mem) : Prop := (∀ a, a ≠ 1 → M' a = M a) ∧ M' 1 1 = M 1 1 ∧ M' 1 6 = M 1 6 ∧ M' 1 7 = M 1 7
theorem oT.rf {M : Mem} : oT M M := ⟨fun _ _ => rfl, rfl, rfl, rfl⟩
theorem oT.tr {M M1 M2 : Mem} (h : oT M M1) (k : oT M1 M2) : oT M M2 := ⟨fun a p => by rw [k.1 a p, h.1 a p], by rw [k.2.1, h.2.1], by rw [k.2.2.1, h.2.2.1], by rw [k.2.2.2, h.2.2.2]⟩
theorem oT.up {M M1 : Mem} {k v : Int} (e : M1 = up M 1 k v) (h1 : k ≠ 1) (h6 : k ≠ 6) (h7 : k ≠ 7) : oT M M1 := by
  subst e
  refine ⟨fun a p => up_ne _ p, ?_, ?_, ?_⟩ <;> (rw [up_get, if_neg (by omega)])
/-- the class's token at s -/
def LX (M : Mem) (T : List Int) (s : Nat) : Prop := M 1 1 = (T.length : Nat) ∧ rw1 M 2 T ∧ rw1 M 3 ownL ∧ s ≤ T.length ∧ M 1 3 = (s : Nat) ∧ M 1 10 = wr T s ∧ M 1 2 = (if bd T s = -1 then so T s else 4) ∧
  (bd T s = -1 → M 1 9 = (en T s : Nat) ∧ (so T s = 1 → M 1 4 = pkX (nm T s) ∧ M 1 5 = ow T s) ∧ (so T s = 2 → M 1 4 = nv (dg T s)) ∧ (so T s = 3 → M 1 4 = tc T s))
section
variable {M : Mem} {T : List Int}
theorem x_letterAt {Q : Int → Mem → Prop} {n : Nat} (h1 : M 1 1 = (T.length : Nat)) (h2 : rw1 M 2 T) (hT : TB T) (hn : n ≤ 1600) (h : Q (if isLt T n then tc T n - 96 else 0) M) : m_X7_letterAt (n : Int) M Q := by
  have l := hT.1
  unfold m_X7_letterAt m_X7_letterAt_J44 m_X7_letterAt_J45
  rw [h1]
  refine ⟨by omega, by omega, fun q => ?_, fun q => ?_⟩
  · rwa [if_neg (by omega)] at h
  · have e : M 2 n = tc T n := h2 n (by omega)
    have r := tc_rng hT n
    rw [e]
    refine ⟨by omega, by omega, fun q2 => ?_, fun q2 => ⟨by omega, by omega, fun q3 => ?_, fun q3 => ⟨by omega, ?_⟩⟩⟩
    · rwa [if_neg (by omega)] at h
    · rwa [if_neg (by omega)] at h
    · rw [if_pos (by omega)] at h
      rwa [show tc T n - 97 + 1 = tc T n - 96 by omega]
theorem x_digitAt {Q : Int → Mem → Prop} {n : Nat} (h1 : M 1 1 = (T.length : Nat)) (h2 : rw1 M 2 T) (hT : TB T) (hn : n ≤ 1600) (h : Q (if isDt T n then tc T n - 48 else -1) M) : m_X7_digitAt (n : Int) M Q := by
  have l := hT.1
  unfold m_X7_digitAt m_X7_digitAt_J42 m_X7_digitAt_J43
  rw [h1]
  refine ⟨by omega, by omega, fun q => ?_, fun q => ?_⟩
  · rwa [if_neg (by omega)] at h
  · have e : M 2 n = tc T n := h2 n (by omega)
    have r := tc_rng hT n
    rw [e]
    refine ⟨by omega, by omega, fun q2 => ?_, fun q2 => ⟨by omega, by omega, fun q3 => ?_, fun q3 => ⟨by omega, ?_⟩⟩⟩
    · rwa [if_neg (by omega)] at h
    · rwa [if_neg (by omega)] at h
    · rw [if_pos (by omega)] at h
      exact h
/-- a name's letters read so far, packed -/
def pkI (ns : List Int) : Nat → Int
  | 0 => 0
  | i + 1 => 32 * pkI ns i + ns.getD i 0
theorem getD_b {ns : List Int} (h : okN ns) (i : Nat) : 0 ≤ ns.getD i 0 ∧ ns.getD i 0 ≤ 26 := by
  rw [List.getD_eq_getElem?_getD]
  cases e : ns[i]? with
  | none => simp
  | some q =>
    have := h.2.2 q (List.mem_of_getElem? e)
    simp
    omega
theorem pkI_rng {ns : List Int} (h : okN ns) : ∀ i : Nat, 0 ≤ pkI ns i ∧ pkI ns i < ((32 ^ i : Nat) : Int)
  | 0 => by simp [pkI]
  | i + 1 => by
    have := pkI_rng h i
    have g := getD_b h i
    unfold pkI
    rw [Nat.pow_succ]
    omega
theorem pkI_6 (ns : List Int) : pkI ns 6 = pkX ns := by
  simp only [pkI, pkX]
  omega
theorem zpk {v r : Int} (hv : 0 ≤ v ∧ v < 33554432) (hr : 0 ≤ r ∧ r < 32) : zor (zshl v 5) r = 32 * v + r := by
  have e := z_shl (a := v.toNat) (k := 5) (by decide) (by omega)
  rw [toNat_i hv.1, show ((5 : Nat) : Int) = 5 from rfl] at e
  rw [e]
  have e2 := z_or (a := v.toNat * 2 ^ 5) (b := r.toNat) (by omega) (by omega)
  rw [toNat_i hr.1] at e2
  rw [e2, Nat.mul_comm, ← Nat.two_pow_add_eq_or_of_lt (i := 5) (by omega)]
  omega
/-- what stays while a token is read from s on -/
def LR (M : Mem) (T : List Int) : Prop := M 1 1 = (T.length : Nat) ∧ rw1 M 2 T ∧ rw1 M 3 ownL
theorem LR.oT {M' : Mem} (h : LR M T) (e : oT M M') : LR M' T := by
  obtain ⟨h1, h2, h3⟩ := h
  refine ⟨by rw [e.2.1, h1], ?_, ?_⟩
  · unfold rw1 at *
    rw [e.1 2 (by decide)]
    exact h2
  · unfold rw1 at *
    rw [e.1 3 (by decide)]
    exact h3
theorem x_own_l {Q : Mem → Prop} {v : Int} (hv : inI v) : ∀ (d k : Nat) (M : Mem), k + d = 24 → LR M T → M 1 4 = v → M 1 5 = owG k v → (∀ M', oT M M' → (∀ j, j ≠ 5 → M' 1 j = M 1 j) → M' 1 5 = owG 24 v → Q M') → m_X7_readWord_L89 Q (d + 1) (k : Nat) M
  | 0, k, M, hk, hr, h4, h5, h => by
    unfold m_X7_readWord_L89
    have : k = 24 := by omega
    subst this
    exact ⟨by decide, fun _ => h M oT.rf (fun _ _ => rfl) h5, fun q => by omega⟩
  | d + 1, k, M, hk, hr, h4, h5, h => by
    unfold m_X7_readWord_L89 m_X7_readWord_J113
    have e := hr.2.2 k (by rw [show ownL.length = 24 from rfl]; omega)
    have b : ∀ j : Nat, j < 24 → inI (ownL.getD j 0) := by decide
    rw [e, h4]
    refine ⟨by omega, fun q => by omega, fun _ => ⟨by omega, b k (by omega), hv, fun q M5 e5 => ?_, fun q => ?_⟩⟩
    · have o : oT M M5 := oT.up e5 (by decide) (by decide) (by decide)
      refine x_own_l hv d (k + 1) M5 (by omega) (hr.oT o) ?_ ?_ (fun M' o' z c => h M' (o.tr o') (fun j hj => ?_) c)
      · rw [e5, up_get, if_neg (by omega), h4]
      · rw [e5, up_get, if_pos ⟨rfl, rfl⟩]
        unfold owG
        rw [if_pos q]
      · rw [z j hj, e5, up_get, if_neg (by omega)]
    · refine x_own_l hv d (k + 1) M (by omega) hr h4 ?_ h
      unfold owG
      rw [if_neg q, h5]
theorem x_word_l {Q : Mem → Prop} {s : Nat} (hT : TB T) (hs : isLt T s) (h : ∀ M', oT M M' → (∀ j, j ≠ 2 → j ≠ 4 → j ≠ 5 → j ≠ 9 → j ≠ 10 → M' 1 j = M 1 j) → M' 1 4 = pkX (nm T s) → M' 1 5 = ow T s → M' 1 9 = (s + (nm T s).length : Nat) →
      ((¬ ((nm T s).length = 6 ∧ isLt T (s + 6)) → M' 1 2 = M 1 2 ∧ M' 1 10 = M 1 10) ∧ ((nm T s).length = 6 ∧ isLt T (s + 6) → M' 1 2 = 4 ∧ M' 1 10 = (s : Nat) + 6)) → Q M') :
    ∀ (d i : Nat) (M1 : Mem), i + d = 6 → LR M T → oT M M1 → (∀ j, j ≠ 4 → j ≠ 9 → M1 1 j = M 1 j) → M 1 5 = -1 → M1 1 4 = pkI (nm T s) i → M1 1 9 = (s + (if i < (nm T s).length then i else (nm T s).length) : Nat) → m_X7_readWord_L12 Q (d + 1) (i : Nat) M1
  | 0, i, M1, hi, hr, o, z, m5, h4, h9 => by
    unfold m_X7_readWord_L12
    have ok := nm_ok (so_1.mpr hs)
    have l6 := ok.2.1
    have hr1 := hr.oT o
    have : i = 6 := by omega
    subst this
    have e9 : M1 1 9 = (s + (nm T s).length : Nat) := by
      rw [h9]
      split <;> omega
    have lb : s + (nm T s).length ≤ T.length := by
      have := (ltr_get (T := T) 6 s ((nm T s).length - 1) (by have := ok.1; unfold nm at *; omega)).1.1
      unfold nm at *
      omega
    rw [pkI_6] at h4
    have pr := pkX_rng ok
    have tl := hT.1
    refine ⟨by decide, fun _ => ?_, fun q => absurd (by decide) q⟩
    rw [e9]
    refine x_letterAt hr1.1 hr1.2.1 hT (by omega) ?_
    have r := tc_rng hT (s + (nm T s).length)
    refine ⟨by split <;> omega, fun q => ?_, fun q => ?_⟩
    · have nl : ¬ isLt T (s + (nm T s).length) := by
        intro c
        rw [if_pos c] at q
        omega
      unfold m_X7_readWord_J87
      refine ⟨25, x_own_l (v := pkX (nm T s)) (by omega) 24 0 M1 (by omega) hr1 h4 (by rw [z 5 (by decide) (by decide), m5]; rfl) fun M' o' z' c5 => ?_⟩
      refine h M' (o.tr o') (fun j j2 j4 j5 j9 j10 => by rw [z' j j5, z j j4 j9]) (by rw [z' 4 (by decide), h4]) c5 (by rw [z' 9 (by decide), e9]) ⟨fun _ => ⟨by rw [z' 2 (by decide), z 2 (by decide) (by decide)], by rw [z' 10 (by decide), z 10 (by decide) (by decide)]⟩, fun c => absurd (by rw [c.1]; exact c.2) nl⟩
    · have nl : isLt T (s + (nm T s).length) := by
        refine Decidable.byContradiction fun c => ?_
        rw [if_neg c] at q
        omega
      have n6 : (nm T s).length = 6 := by
        refine Decidable.byContradiction fun c => ?_
        exact ltr_end (T := T) 6 s (by unfold nm at *; omega) nl
      intro M11 e11 M12 e12
      have o11 : oT M1 M11 := oT.up e11 (by decide) (by decide) (by decide)
      have o12 : oT M11 M12 := oT.up e12 (by decide) (by decide) (by decide)
      have g : ∀ j, j ≠ 2 → j ≠ 10 → M12 1 j = M1 1 j := fun j j2 j10 => by
        rw [e12, up_get, if_neg (by omega), e11, up_get, if_neg (by omega)]
      unfold m_X7_readWord_J87
      refine ⟨25, x_own_l (v := pkX (nm T s)) (by omega) 24 0 M12 (by omega) ((hr1.oT o11).oT o12) (by rw [g 4 (by decide) (by decide), h4]) (by rw [g 5 (by decide) (by decide), z 5 (by decide) (by decide), m5]; rfl) fun M' o' z' c5 => ?_⟩
      refine h M' (((o.tr o11).tr o12).tr o') (fun j j2 j4 j5 j9 j10 => by rw [z' j j5, g j j2 j10, z j j4 j9]) (by rw [z' 4 (by decide), g 4 (by decide) (by decide), h4]) c5 (by rw [z' 9 (by decide), g 9 (by decide) (by decide), e9]) ⟨fun c => absurd ⟨n6, by rw [← n6]; exact nl⟩ c, fun c => ⟨?_, ?_⟩⟩
      · rw [z' 2 (by decide), e12, up_get, if_neg (by decide), e11, up_get, if_pos ⟨rfl, rfl⟩]
      · rw [z' 10 (by decide), e12, up_get, if_pos ⟨rfl, rfl⟩, e11, up_get, if_neg (by decide), e9, n6]
        rfl
  | d + 1, i, M1, hi, hr, o, z, m5, h4, h9 => by
    unfold m_X7_readWord_L12
    have ok := nm_ok (so_1.mpr hs)
    have l6 := ok.2.1
    have hr1 := hr.oT o
    have tl := hT.1
    have lb : s + (nm T s).length ≤ T.length := by
      have := (ltr_get (T := T) 6 s ((nm T s).length - 1) (by have := ok.1; unfold nm at *; omega)).1.1
      unfold nm at *
      omega
    have pr := pkI_rng ok i
    have p5 : 32 ^ i ≤ 32 ^ 5 := Nat.pow_le_pow_right (by decide) (by omega)
    have gb := getD_b ok i
    refine ⟨by omega, fun q => by omega, fun _ => ?_⟩
    rw [h9]
    refine x_letterAt hr1.1 hr1.2.1 hT (by split <;> omega) ?_
    have lt : (if isLt T (s + if i < (nm T s).length then i else (nm T s).length) then tc T (s + if i < (nm T s).length then i else (nm T s).length) - 96 else 0) = (nm T s).getD i 0 := by
      by_cases c : i < (nm T s).length
      · have := ltr_get (T := T) 6 s i c
        rw [if_pos c, if_pos this.1]
        exact this.2.symm
      · rw [if_neg c, if_neg (show ¬ isLt T (s + (nm T s).length) from ltr_end (T := T) 6 s (by unfold nm at *; omega)), List.getD_eq_getElem?_getD, List.getElem?_eq_none (by omega)]
        rfl
    rw [lt]
    intro M15 e15
    have o15 : oT M1 M15 := oT.up e15 (by decide) (by decide) (by decide)
    have f9 : M15 1 9 = M1 1 9 := by rw [e15, up_get, if_neg (by decide)]
    rw [h4, zpk (by omega) (by omega)] at e15
    refine ⟨by omega, fun q => ?_, fun q => ?_⟩
    · unfold m_X7_readWord_J53
      intro M6 e6
      have o6 : oT M15 M6 := oT.up e6 (by decide) (by decide) (by decide)
      have ni : ¬ i < (nm T s).length := fun c => by
        have := nm_b c
        omega
      refine x_word_l hT hs h d (i + 1) M6 (by omega) hr ((o.tr o15).tr o6) (fun j j4 j9 => ?_) m5 ?_ ?_
      · rw [e6, up_get, if_neg (by omega), e15, up_get, if_neg (by omega), z j j4 j9]
      · rw [e6, up_get, if_neg (by decide), e15, up_get, if_pos ⟨rfl, rfl⟩]
        rfl
      · rw [e6, up_get, if_pos ⟨rfl, rfl⟩, f9, h9, if_neg ni, if_neg (by omega)]
        omega
    · unfold m_X7_readWord_J53
      intro M6 e6
      have o6 : oT M15 M6 := oT.up e6 (by decide) (by decide) (by decide)
      have ni : i < (nm T s).length := by
        refine Decidable.byContradiction fun c => ?_
        rw [List.getD_eq_getElem?_getD, List.getElem?_eq_none (by omega)] at q
        exact q (by decide)
      refine x_word_l hT hs h d (i + 1) M6 (by omega) hr ((o.tr o15).tr o6) (fun j j4 j9 => ?_) m5 ?_ ?_
      · rw [e6, up_get, if_neg (by omega), e15, up_get, if_neg (by omega), z j j4 j9]
      · rw [e6, up_get, if_neg (by decide), e15, up_get, if_pos ⟨rfl, rfl⟩]
        rfl
      · rw [e6, up_get, if_pos ⟨rfl, rfl⟩, f9, h9, if_pos ni]
        split <;> omega
theorem x_num_l {Q : Mem → Prop} {s : Nat} (hT : TB T) (hs : isDt T s) (h : ∀ M', oT M M' → (∀ j, j ≠ 2 → j ≠ 4 → j ≠ 9 → j ≠ 10 → M' 1 j = M 1 j) → M' 1 4 = nv (dg T s) → M' 1 9 = (s + (dg T s).length : Nat) →
      ((¬ ((dg T s).length = 4 ∧ isDt T (s + 4)) → M' 1 2 = M 1 2 ∧ M' 1 10 = M 1 10) ∧ ((dg T s).length = 4 ∧ isDt T (s + 4) → M' 1 2 = 4 ∧ M' 1 10 = (s : Nat) + 4)) → Q M') :
    ∀ (d i : Nat) (M1 : Mem), i + d = 4 → i ≤ (dg T s).length → LR M T → oT M M1 → (∀ j, j ≠ 4 → j ≠ 9 → M1 1 j = M 1 j) → M1 1 4 = nv ((dg T s).take i) → M1 1 9 = (s + i : Nat) → m_X7_readNumber_L12 Q (d + 1) (i : Nat) M1 := by
  have l4 : (dg T s).length ≤ 4 := dgt_len_le 4 s
  have tl := hT.1
  have pos := dg_pos hs
  have lb : s + (dg T s).length ≤ T.length := by
    have := (dgt_get (T := T) 4 s ((dg T s).length - 1) (by unfold dg at *; omega)).1.1
    unfold dg at *
    omega
  have fin : ∀ (M1 : Mem), LR M T → oT M M1 → (∀ j, j ≠ 4 → j ≠ 9 → M1 1 j = M 1 j) → M1 1 4 = nv (dg T s) → M1 1 9 = (s + (dg T s).length : Nat) → m_X7_readNumber_J64 Q M1 := by
    intro M1 hr o z h4 h9
    have hr1 := hr.oT o
    unfold m_X7_readNumber_J64 m_X7_readNumber_J88
    rw [h9]
    refine x_digitAt hr1.1 hr1.2.1 hT (by omega) ?_
    have r := tc_rng hT (s + (dg T s).length)
    refine ⟨by split <;> omega, fun q => ?_, fun q => ?_⟩
    · have nl : ¬ isDt T (s + (dg T s).length) := by
        intro c
        rw [if_pos c] at q
        omega
      exact h M1 o (fun j j2 j4 j9 j10 => z j j4 j9) h4 h9 ⟨fun _ => ⟨z 2 (by decide) (by decide), z 10 (by decide) (by decide)⟩, fun c => absurd (by rw [c.1]; exact c.2) nl⟩
    · have nl : isDt T (s + (dg T s).length) := by
        refine Decidable.byContradiction fun c => ?_
        rw [if_neg c] at q
        omega
      have n4 : (dg T s).length = 4 := by
        refine Decidable.byContradiction fun c => ?_
        exact dgt_end (T := T) 4 s (by unfold dg at *; omega) nl
      intro M4 e4 M5 e5
      have o4 : oT M1 M4 := oT.up e4 (by decide) (by decide) (by decide)
      have o5 : oT M4 M5 := oT.up e5 (by decide) (by decide) (by decide)
      have g : ∀ j, j ≠ 2 → j ≠ 10 → M5 1 j = M1 1 j := fun j j2 j10 => by
        rw [e5, up_get, if_neg (by omega), e4, up_get, if_neg (by omega)]
      refine h M5 ((o.tr o4).tr o5) (fun j j2 j4 j9 j10 => by rw [g j j2 j10, z j j4 j9]) (by rw [g 4 (by decide) (by decide), h4]) (by rw [g 9 (by decide) (by decide), h9]) ⟨fun c => absurd ⟨n4, by rw [← n4]; exact nl⟩ c, fun c => ⟨?_, ?_⟩⟩
      · rw [e5, up_get, if_neg (by decide), e4, up_get, if_pos ⟨rfl, rfl⟩]
      · rw [e5, up_get, if_pos ⟨rfl, rfl⟩, e4, up_get, if_neg (by decide), h9, n4]
        rfl
  intro d
  induction d with
  | zero =>
    intro i M1 hi hil hr o z h4 h9
    unfold m_X7_readNumber_L12
    have : (dg T s).length = i := by omega
    rw [← this, List.take_of_length_le (Nat.le_refl _)] at h4
    refine ⟨by omega, fun _ => fin M1 hr o z h4 (by rw [h9, this]), fun q => by omega⟩
  | succ d ih =>
    intro i M1 hi hil hr o z h4 h9
    unfold m_X7_readNumber_L12
    have hr1 := hr.oT o
    have pr := nv_rng (l := dg T s) (fun i hi => dg_b hi) i hil
    have r := tc_rng hT (s + i)
    refine ⟨by omega, fun q => by omega, fun _ => ?_⟩
    rw [h9]
    refine x_digitAt hr1.1 hr1.2.1 hT (by omega) ?_
    refine ⟨by split <;> omega, fun q => ?_, fun q => ?_⟩
    · have nl : ¬ isDt T (s + i) := by
        intro c
        rw [if_pos c] at q
        omega
      have : (dg T s).length = i := by
        refine Decidable.byContradiction fun c => ?_
        exact nl (dgt_get (T := T) 4 s i (by unfold dg at *; omega)).1
      rw [← this, List.take_of_length_le (Nat.le_refl _)] at h4
      exact fin M1 hr o z h4 (by rw [h9, this])
    · have nl : isDt T (s + i) := by
        refine Decidable.byContradiction fun c => ?_
        rw [if_neg c] at q
        omega
      have il : i < (dg T s).length := by
        refine Decidable.byContradiction fun c => ?_
        have : (dg T s).length = i := by omega
        exact dgt_end (T := T) 4 s (by unfold dg at *; omega) (by unfold dg at *; rw [this]; exact nl)
      have gg := dgt_get (T := T) 4 s i (by unfold dg at *; omega)
      rw [h9]
      refine x_digitAt hr1.1 hr1.2.1 hT (by omega) ?_
      rw [if_pos nl]
      intro M12 e12 M13 e13
      have o12 : oT M1 M12 := oT.up e12 (by decide) (by decide) (by decide)
      have o13 : oT M12 M13 := oT.up e13 (by decide) (by decide) (by decide)
      refine ih (i + 1) M13 (by omega) (by omega) hr ((o.tr o12).tr o13) (fun j j4 j9 => ?_) ?_ ?_
      · rw [e13, up_get, if_neg (by omega), e12, up_get, if_neg (by omega), z j j4 j9]
      · rw [e13, up_get, if_neg (by decide), e12, up_get, if_pos ⟨rfl, rfl⟩, h4, nv_step il, ← gg.2]
        rfl
      · rw [e13, up_get, if_pos ⟨rfl, rfl⟩, e12, up_get, if_neg (by decide), h9]
        omega
end
