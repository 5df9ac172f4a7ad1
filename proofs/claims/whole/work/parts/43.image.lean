/-! letters -/
theorem pkY_step {ns : List Int} {m : Nat} (h : m < ns.length) : pkY (ns.take (m + 1)) = 256 * pkY (ns.take m) + (ns.getD m 0 + 96) := by
  rw [take_s (d := 0) h]
  unfold pkY
  rw [List.foldl_append]
  rfl
theorem pkY_rng {ns : List Int} (ok : ∀ c ∈ ns, 1 ≤ c ∧ c ≤ 26) : ∀ m : Nat, m ≤ ns.length → 0 ≤ pkY (ns.take m) ∧ pkY (ns.take m) < ((256 ^ m : Nat) : Int) ∧ (0 < m → 0 < pkY (ns.take m))
  | 0, _ => by simp [pkY]
  | m + 1, h => by
    have ih := pkY_rng ok m (by omega)
    have c := ok _ (getD_mem (d := 0) (show m < ns.length by omega))
    rw [pkY_step (by omega), Nat.pow_succ]
    omega
theorem pkY_div {ns : List Int} (ok : ∀ c ∈ ns, 1 ≤ c ∧ c ≤ 26) : ∀ j : Nat, j ≤ ns.length → (pkY ns).toNat / 256 ^ j = (pkY (ns.take (ns.length - j))).toNat
  | 0, _ => by simp
  | j + 1, h => by
    have ih := pkY_div ok j (by omega)
    have e := pkY_step (ns := ns) (m := ns.length - (j + 1)) (by omega)
    have c := ok _ (getD_mem (d := 0) (show ns.length - (j + 1) < ns.length by omega))
    have r := pkY_rng ok (ns.length - (j + 1)) (by omega)
    rw [show ns.length - (j + 1) + 1 = ns.length - j by omega] at e
    rw [Nat.pow_succ, ← Nat.div_div_eq_div_mul, ih, e]
    omega
theorem p256 (n : Nat) : 256 ^ n = 2 ^ (8 * n) := by rw [Nat.pow_mul]
theorem pk48 {ns : List Int} (ok : okN ns) : 0 ≤ pkY ns ∧ pkY ns < 281474976710656 := by
  have r := pkY_rng ok.2.2 ns.length (Nat.le_refl _)
  have : 256 ^ ns.length ≤ 256 ^ 6 := Nat.pow_le_pow_right (by decide) ok.2.1
  rw [List.take_length] at r
  omega
section
variable {N : Nat} {t b : Int} {p : PT} {M : Mem}
theorem y_let_l {Q : Int → Mem → Prop} {ns : List Int} {k : Int} (ok : okN ns) (hk : 0 ≤ k ∧ k ≤ 5) (h : Q (ns.getD k.toNat 0) M) :
    ∀ (m j : Nat), m + j = ns.length → m_X12_letter_L58 Q k (pkY ns) (m + 1) j (pkY (ns.take m)) M
  | 0, j, hj => by
    have n6 := ok.2.1
    have r := pk48 ok
    unfold m_X12_letter_L58 m_X12_letter_J110
    refine ⟨by rw [show pkY (ns.take 0) = 0 from by simp [pkY]]; decide, fun _ => ⟨by omega, by omega, fun z => ?_, fun z => ?_⟩, fun q => absurd (show pkY (ns.take 0) ≤ 0 by simp [pkY]) q⟩
    · have e1 : (8 * ((j : Int) - 1 - k)) = ((8 * (ns.length - 1 - k.toNat) : Nat) : Int) := by omega
      have d := pkY_div ok.2.2 (ns.length - 1 - k.toNat) (by omega)
      rw [p256] at d
      have s := pkY_step (ns := ns) (m := k.toNat) (by omega)
      have c := ok.2.2 _ (getD_mem (d := 0) (show k.toNat < ns.length by omega))
      have g := pkY_rng ok.2.2 k.toNat (by omega)
      have g2 : 256 ^ k.toNat ≤ 256 ^ 5 := Nat.pow_le_pow_right (by decide) (by omega)
      have w := w_shr (a := (pkY ns).toNat) (k := 8 * (ns.length - 1 - k.toNat)) (by omega) (by omega)
      rw [step_of r.1, ← e1] at w
      rw [w, d, show ns.length - (ns.length - 1 - k.toNat) = k.toNat + 1 by omega]
      have w2 := w_and (a := (pkY (ns.take (k.toNat + 1))).toNat) (b := 255) (by omega)
      rw [show (255 : Int) = ((255 : Nat) : Int) from rfl, w2, show (255 : Nat) = 2 ^ 8 - 1 from rfl, Nat.and_two_pow_sub_one_eq_mod]
      have : (((pkY (ns.take (k.toNat + 1))).toNat % 2 ^ 8 : Nat) : Int) - 97 + 1 = ns.getD k.toNat 0 := by omega
      rw [this]
      exact h
    · rw [show ns.getD k.toNat 0 = 0 from by
        simp [List.getD, List.getElem?_eq_none (show ns.length ≤ k.toNat by omega)]] at h
      exact h
  | m + 1, j, hj => by
    have n6 := ok.2.1
    have g := pkY_rng ok.2.2 (m + 1) (by omega)
    have g2 : 256 ^ (m + 1) ≤ 256 ^ 6 := Nat.pow_le_pow_right (by decide) (by omega)
    have s := pkY_step (ns := ns) (m := m) (by omega)
    have c := ok.2.2 _ (getD_mem (d := 0) (show m < ns.length by omega))
    have g0 := pkY_rng ok.2.2 m (by omega)
    unfold m_X12_letter_L58
    refine ⟨by omega, fun q => by omega, fun _ => ?_⟩
    have w := w_shr (a := (pkY (ns.take (m + 1))).toNat) (k := 8) (by decide) (by omega)
    rw [step_of g.1] at w
    rw [show (8 : Int) = ((8 : Nat) : Int) from rfl, w, show (((pkY (ns.take (m + 1))).toNat / 2 ^ 8 : Nat) : Int) = pkY (ns.take m) by omega]
    exact y_let_l ok hk h m (j + 1) (by omega)
theorem pkX_let {ns : List Int} (ok : okN ns) {k : Int} (hk : 0 ≤ k ∧ k ≤ 5) : zand (zshr (pkX ns) (5 * (5 - k))) 31 = ns.getD k.toNat 0 ∧ 0 ≤ ns.getD k.toNat 0 ∧ ns.getD k.toNat 0 ≤ 26 := by
  have gb : ∀ i : Nat, 0 ≤ ns.getD i 0 ∧ ns.getD i 0 ≤ 26 := fun i => by
    by_cases c : i < ns.length
    · have := ok.2.2 _ (getD_mem (d := 0) c)
      omega
    · simp [List.getD, List.getElem?_eq_none (show ns.length ≤ i by omega)]
  refine ⟨?_, gb _⟩
  have g0 := gb 0
  have g1 := gb 1
  have g2 := gb 2
  have g3 := gb 3
  have g4 := gb 4
  have g5 := gb 5
  have pr : 0 ≤ pkX ns ∧ pkX ns < 1073741824 := by unfold pkX; omega
  have e1 : 5 * (5 - k) = ((5 * (5 - k.toNat) : Nat) : Int) := by omega
  have z := z_shr (a := (pkX ns).toNat) (k := 5 * (5 - k.toNat)) (by omega) (by omega)
  rw [step_of pr.1, ← e1] at z
  rw [z]
  have z2 := z_and (a := (pkX ns).toNat / 2 ^ (5 * (5 - k.toNat))) (b := 31) (Nat.lt_of_le_of_lt (Nat.div_le_self _ _) (by omega))
  rw [show (31 : Int) = ((31 : Nat) : Int) from rfl, z2, show (31 : Nat) = 2 ^ 5 - 1 from rfl, Nat.and_two_pow_sub_one_eq_mod]
  have kc : k.toNat = 0 ∨ k.toNat = 1 ∨ k.toNat = 2 ∨ k.toNat = 3 ∨ k.toNat = 4 ∨ k.toNat = 5 := by omega
  unfold pkX at *
  rcases kc with c | c | c | c | c | c <;> rw [c] <;> simp only [Nat.sub_zero, Nat.reduceSub, Nat.reduceMul, Nat.reducePow] <;> omega
theorem s_letter {a c k : Int} (hi : Inv N M) (ha : inI a) (hc : inI c) (hk : inI k) : m_X11_letter a c k M (fun r1 M1 => m_X12_letter a c k M1 (fun r2 M2 => Good N r1 r2 M2)) := by
  obtain ⟨t, b, p, hp, hx, hy⟩ := hi
  have w1 := hp.2.1.1.1
  have w2 := hp.2.1.1.2.1
  have hb := hy.2.1.2.1.1
  have hno : ¬ ((0 ≤ k ∧ k ≤ 5) ∧ ((a = 0 ∧ 0 ≤ c ∧ c < wPl (pW p)) ∨ (a = 1 ∧ 0 ≤ c ∧ c < wPn (pW p)))) → m_X12_letter a c k M (fun r2 M2 => Good N (-1) r2 M2) := fun q => by
    unfold m_X12_letter m_X12_letter_J37 m_X12_manyOf m_X12_manyOf_J19
    refine y_is2 ha (by decide) (by decide) (fun q1 q2 => ⟨by decide, fun z => absurd z (by decide), fun _ => ?_⟩) (fun _ => ⟨by decide, fun _ => fin hp hx hy (by decide), fun z => absurd rfl z⟩)
    dsimp only
    rw [hy.2.1.1, hy.2.1.2.1.2.1, hy.2.1.2.1.2.2.1]
    refine ⟨ha, fun z => ⟨by omega, ?_⟩, fun z => ⟨by omega, ?_⟩⟩
    · refine y_is2 hc (by decide) (by omega) (fun q3 q4 => ⟨by decide, fun z => absurd z (by decide), fun _ => ?_⟩) (fun _ => ⟨by decide, fun _ => fin hp hx hy (by decide), fun z => absurd rfl z⟩)
      exact y_is2 hk (by decide) (by decide) (fun q5 q6 => by omega) (fun _ => ⟨by decide, fun _ => fin hp hx hy (by decide), fun z => absurd rfl z⟩)
    · refine y_is2 hc (by decide) (by omega) (fun q3 q4 => ⟨by decide, fun z => absurd z (by decide), fun _ => ?_⟩) (fun _ => ⟨by decide, fun _ => fin hp hx hy (by decide), fun z => absurd rfl z⟩)
      exact y_is2 hk (by decide) (by decide) (fun q5 q6 => by omega) (fun _ => ⟨by decide, fun _ => fin hp hx hy (by decide), fun z => absurd rfl z⟩)
  have yes : (0 ≤ k ∧ k ≤ 5) → ∀ ns, okN ns → ((a = 0 ∧ (0 ≤ c ∧ c < wPl (pW p)) ∧ M 218 (7 * b + c) = pkY ns) ∨ (a = 1 ∧ (0 ≤ c ∧ c < wPn (pW p)) ∧ M 219 (6 * b + c) = pkY ns)) → m_X12_letter a c k M (fun r2 M2 => Good N (ns.getD k.toNat 0) r2 M2) := fun hk2 ns ok q => by
    have gl := (pkX_let ok hk2).2
    have lst : ∃ fu, m_X12_letter_L58 (fun r2 M2 => Good N (ns.getD k.toNat 0) r2 M2) k (pkY ns) fu 0 (pkY ns) M := by
      refine ⟨ns.length + 1, ?_⟩
      have := y_let_l (M := M) (Q := fun r2 M2 => Good N (ns.getD k.toNat 0) r2 M2) ok hk2 (fin hp hx hy (by omega)) ns.length 0 (by omega)
      rw [List.take_length] at this
      exact this
    unfold m_X12_letter m_X12_letter_J37 m_X12_manyOf m_X12_manyOf_J19 m_X12_nameOf m_X12_nameOf_J29
    refine y_is2 ha (by decide) (by decide) (fun q1 q2 => ⟨by decide, fun z => absurd z (by decide), fun _ => ?_⟩) (fun z => by omega)
    dsimp only
    rw [hy.2.1.1, hy.2.1.2.1.2.1, hy.2.1.2.1.2.2.1]
    refine ⟨ha, fun z => ⟨by omega, ?_⟩, fun z => ⟨by omega, ?_⟩⟩
    · refine y_is2 hc (by decide) (by omega) (fun q3 q4 => ⟨by decide, fun z => absurd z (by decide), fun _ => ?_⟩) (fun z => by omega)
      refine y_is2 hk (by decide) (by decide) (fun q5 q6 => ⟨by decide, fun z => absurd z (by decide), fun _ => ⟨ha, fun _ => ⟨by rw [hy.2.1.1]; omega, ?_⟩, fun y => absurd z y⟩⟩) (fun z => by omega)
      rw [hy.2.1.1]
      rcases q with ⟨_, _, e⟩ | ⟨y, _⟩
      · rw [e]; exact lst
      · omega
    · refine y_is2 hc (by decide) (by omega) (fun q3 q4 => ⟨by decide, fun z => absurd z (by decide), fun _ => ?_⟩) (fun z => by omega)
      refine y_is2 hk (by decide) (by decide) (fun q5 q6 => ⟨by decide, fun z => absurd z (by decide), fun _ => ⟨ha, fun y => absurd y z, fun _ => ⟨by rw [hy.2.1.1]; omega, ?_⟩⟩⟩) (fun z => by omega)
      rw [hy.2.1.1]
      rcases q with ⟨y, _⟩ | ⟨_, _, e⟩
      · omega
      · rw [e]; exact lst
  unfold m_X11_letter m_X11_letter_J10 m_X11_letter_J38 m_X11_letter_J65 m_X7_letterOf
  refine ⟨hk, fun q => hno (by omega), fun q1 => ⟨hk, fun q2 => ⟨ha, fun z => ?_, fun z => ⟨ha, fun z2 => ?_, fun z2 => hno (by omega)⟩⟩, fun q => hno (by omega)⟩⟩
  · refine x_isPlace hx hp hc (fun q3 q4 => ⟨by decide, fun z => absurd z (by decide), fun _ => ?_⟩) (fun q => ⟨by decide, fun _ => ⟨ha, fun y => by omega, fun _ => hno (by omega)⟩, fun z => absurd rfl z⟩)
    have e1 := hx.2.1.2.2.2.1 c.toNat (by omega)
    have e2 := hy.2.1.2.2.1 c.toNat (by omega)
    have ok := hp.2.1.2.1 c.toNat (by omega)
    rw [step_of q3] at e1 e2
    rw [hx.2.1.1, e1]
    refine ⟨hx.2.1.2.2.1.1, by omega, ?_⟩
    rw [(pkX_let ok (k := k) (by omega)).1]
    exact yes (by omega) _ ok (Or.inl ⟨z, ⟨q3, q4⟩, e2⟩)
  · refine x_isPerson hx hp hc (fun q3 q4 => ⟨by decide, fun z => absurd z (by decide), fun _ => ?_⟩) (fun q => ⟨by decide, fun _ => hno (by omega), fun z => absurd rfl z⟩)
    have e1 := hx.2.1.2.2.2.2.1 c.toNat (by omega)
    have e2 := hy.2.1.2.2.2.1 c.toNat (by omega)
    have ok := hp.2.1.2.2.1 c.toNat (by omega)
    rw [step_of q3] at e1 e2
    rw [hx.2.1.1, e1]
    refine ⟨hx.2.1.2.2.1.1, by omega, ?_⟩
    rw [(pkX_let ok (k := k) (by omega)).1]
    exact yes (by omega) _ ok (Or.inr ⟨z2, ⟨q3, q4⟩, e2⟩)
/-! images -/
def prf (l : List Int) : Int := l.foldl (fun s c => (5 * s + c) % 251) 193
theorem prf_step {l : List Int} {m : Nat} (h : m < l.length) : prf (l.take (m + 1)) = (5 * prf (l.take m) + l.getD m 0) % 251 := by
  rw [take_s (d := 0) h]
  unfold prf
  rw [List.foldl_append]
  rfl
theorem prf_rng : ∀ l : List Int, 0 ≤ prf l ∧ prf l < 251 := by
  intro l
  suffices h : ∀ (l : List Int) (s : Int), 0 ≤ s ∧ s < 251 → 0 ≤ l.foldl (fun s c => (5 * s + c) % 251) s ∧ l.foldl (fun s c => (5 * s + c) % 251) s < 251 from h l 193 (by decide)
  intro l
  induction l with
  | nil => exact fun s hs => hs
  | cons c l ih => exact fun s hs => ih _ (by show 0 ≤ (5 * s + c) % 251 ∧ (5 * s + c) % 251 < 251; omega)
theorem x_prf_l {Q : Int → Mem → Prop} {a : Int} {l : List Int} {n : Nat} (hr : rw1 M a l) (hb : ∀ c ∈ l, 0 ≤ c ∧ c < 256) (hn : n ≤ l.length) (hl : (n : Int) ≤ ln a) (h16 : n ≤ 1600) (h : Q (prf (l.take n)) M) :
    ∀ (d k : Nat), k + d = n → m_X4_proof_L6 Q a (n : Nat) (d + 1) (prf (l.take k)) k M
  | 0, k, hk => by
    unfold m_X4_proof_L6
    rw [show k = n by omega]
    exact ⟨by omega, by omega, fun _ => h, fun q => absurd (Int.le_refl _) q⟩
  | d + 1, k, hk => by
    have r := prf_rng (l.take k)
    have bb := hb _ (getD_mem (d := 0) (show k < l.length by omega))
    unfold m_X4_proof_L6
    rw [hr k (by omega), Int.tmod_eq_emod_of_nonneg (by omega)]
    refine ⟨by omega, by omega, fun q => by omega, fun _ => ⟨by omega, by omega, fun x hx => ?_⟩⟩
    rw [← prf_step (by omega)] at hx
    subst hx
    exact x_prf_l hr hb hn hl h16 h d (k + 1) (by omega)
theorem x_proof {Q : Int → Mem → Prop} {a : Int} {l : List Int} {n : Nat} (ha : kd a = 20) (hr : rw1 M a l) (hb : ∀ c ∈ l, 0 ≤ c ∧ c < 256) (hn : n ≤ l.length) (hl : (n : Int) ≤ ln a) (h16 : n ≤ 1600) (h : Q (prf (l.take n)) M) : m_X4_proof a (n : Nat) M Q :=
  ⟨ha, n + 1, x_prf_l hr hb hn hl h16 h n 0 (by omega)⟩
def imX (M : Mem) (l : List Int) : Prop := M 185 1 = (l.length : Nat) ∧ rw1 M 186 l
def imY (M : Mem) (l : List Int) : Prop := M 199 66 = (l.length : Nat) ∧ rw1 M 241 l
theorem rw1_app {M' : Mem} {a : Int} {l : List Int} {x : Int} (h : rw1 M a l) (e : M' a = up M a (l.length : Nat) x a) : rw1 M' a (l ++ [x]) := by
  intro k hk
  rw [List.length_append] at hk
  simp only [List.length_cons, List.length_nil] at hk
  rw [e, getD_app]
  simp only [up_get, true_and]
  by_cases c : k < l.length
  · rw [if_pos c, if_neg (by omega), h k c]
  · rw [if_neg c, if_pos (by omega), if_pos (by omega)]
theorem x_im {Q : Mem → Prop} {l : List Int} {x : Int} (h : imX M l) (hl : l.length < 40) (hQ : ∀ M', imX M' (l ++ [x]) → (∀ a, a ≠ 185 → a ≠ 186 → M' a = M a) → Q M') : m_X4_add x M Q := by
  unfold m_X4_add m_X4_add_J29
  rw [h.1]
  refine ⟨by omega, fun q => by omega, fun _ => ⟨by omega, fun M1 e1 M2 e2 => hQ M2 ⟨?_, ?_⟩ (fun a a1 a2 => by rw [e2, up_ne _ a1, e1, up_ne _ a2])⟩⟩
  · have n1 : M1 185 1 = (l.length : Nat) := by rw [e1, up_ne _ (by decide), h.1]
    rw [e2, n1, List.length_append]
    simp [up_get]
  · exact rw1_app h.2 (by rw [e2, up_ne _ (by decide), e1])
theorem zand255 {x : Int} (h : 0 ≤ x ∧ x < 2147483648) : zand x 255 = x % 256 := by
  have := z_and (a := x.toNat) (b := 255) (by omega)
  rw [step_of h.1] at this
  rw [show (255 : Int) = ((255 : Nat) : Int) from rfl, this, show (255 : Nat) = 2 ^ 8 - 1 from rfl, Nat.and_two_pow_sub_one_eq_mod]
  omega
theorem y_im {Q : Mem → Prop} {l : List Int} {x : Int} (h : imY M l) (hl : l.length < 60) (hx : 0 ≤ x ∧ x < 2147483648) (hQ : ∀ M', imY M' (l ++ [x % 256]) → (∀ a, a ≠ 199 → a ≠ 241 → M' a = M a) → (∀ k, k ≠ 66 → M' 199 k = M 199 k) → Q M') : m_X12_writes x M Q := by
  unfold m_X12_writes
  rw [h.1, zand255 hx]
  refine ⟨by omega, fun M1 e1 M2 e2 => hQ M2 ⟨?_, ?_⟩ (fun a a1 a2 => by rw [e2, up_ne _ a1, e1, up_ne _ a2]) (fun k hk => ?_)⟩
  · have n1 : M1 199 66 = (l.length : Nat) := by rw [e1, up_ne _ (by decide), h.1]
    rw [e2, n1, List.length_append]
    simp [up_get]
  · exact rw1_app h.2 (by rw [e2, up_ne _ (by decide), e1])
  · rw [e2]
    simp only [up_get]
    rw [if_neg (fun y => hk y.2), e1, up_ne _ (by decide)]
def pplL (p : PT) : Nat → List Int
  | 0 => []
  | k + 1 => pplL p k ++ [sSp (pS p) k] ++ [if (sWa (pS p)).testBit k then 1 else 0]
def frmL (l : List (Int × Int × Int)) : Nat → List Int
  | 0 => []
  | k + 1 => frmL l k ++ [(l.getD k (0, 0, 0)).1] ++ [(l.getD k (0, 0, 0)).2.1] ++ [(l.getD k (0, 0, 0)).2.2]
theorem pplL_len (p : PT) : ∀ k, (pplL p k).length = 2 * k
  | 0 => rfl
  | k + 1 => by simp [pplL, pplL_len p k]; omega
theorem frmL_len (l : List (Int × Int × Int)) : ∀ k, (frmL l k).length = 3 * k
  | 0 => rfl
  | k + 1 => by simp [frmL, frmL_len l k]; omega
def day2 (p : PT) : List Int := [sDay (pS p) / 256] ++ [sDay (pS p) % 256]
def imB (p : PT) : List Int := day2 p ++ pplL p (wPn (pW p)) ++ [((sRe (pS p)).length : Int)]
def imC (p : PT) : List Int := imB p ++ frmL (sRe (pS p)) (sRe (pS p)).length
def imP (p : PT) : List Int := imC p ++ [prf (imC p)]
theorem imC_len : (imC p).length = 3 + 2 * wPn (pW p) + 3 * (sRe (pS p)).length := by
  simp [imC, imB, day2, pplL_len, frmL_len]
  omega
theorem imC_b (hp : POK N p) : ∀ c ∈ imC p, 0 ≤ c ∧ c < 256 := by
  have d1 := hp.2.2.1.1.1.1
  have d2 := hp.2.2.1.1.1.2.1
  have l8 := hp.2.2.1.1.2.1
  have w1 := hp.2.1.1.1
  have pb : ∀ k, k ≤ wPn (pW p) → ∀ c ∈ pplL p k, 0 ≤ c ∧ c < 256 := by
    intro k
    induction k with
    | zero => exact fun _ c hc => by simp [pplL] at hc
    | succ k ih =>
      intro hk c hc
      unfold pplL at hc
      have s := hp.2.2.1.1.1.2.2.2.1 k (by omega)
      rcases List.mem_append.mp hc with z | z
      · rcases List.mem_append.mp z with y | y
        · exact ih (by omega) c y
        · rw [List.mem_singleton.mp y]; omega
      · rw [List.mem_singleton.mp z]; split <;> omega
  have fb : ∀ k, k ≤ (sRe (pS p)).length → ∀ c ∈ frmL (sRe (pS p)) k, 0 ≤ c ∧ c < 256 := by
    intro k
    induction k with
    | zero => exact fun _ c hc => by simp [frmL] at hc
    | succ k ih =>
      intro hk c hc
      unfold frmL at hc
      have s := hp.2.2.1.1.1.2.2.2.2.2.1 _ (getD_mem (d := (0, 0, 0)) (show k < (sRe (pS p)).length by omega))
      unfold frOKP at s
      rcases List.mem_append.mp hc with z | z
      · rcases List.mem_append.mp z with y | y
        · rcases List.mem_append.mp y with x | x
          · exact ih (by omega) c x
          · rw [List.mem_singleton.mp x]; omega
        · rw [List.mem_singleton.mp y]; omega
      · rw [List.mem_singleton.mp z]; omega
  intro c hc
  rcases List.mem_append.mp hc with z | z
  · rcases List.mem_append.mp z with y | y
    · rcases List.mem_append.mp y with x | x
      · rcases List.mem_append.mp x with w | w
        · rw [List.mem_singleton.mp w]; omega
        · rw [List.mem_singleton.mp w]; omega
      · exact pb _ (Nat.le_refl _) c x
    · rw [List.mem_singleton.mp y]; omega
  · exact fb _ (Nat.le_refl _) c z
/-- the class's image is under way: the rest stands -/
def imF (M0 M : Mem) : Prop := ∀ a, a ≠ 185 → a ≠ 186 → M a = M0 a
theorem x_im_88 {Q : Mem → Prop} {M0 : Mem} (hx : IX M0 t p) (hp : POK N p) (h : ∀ M', imF M0 M' → imX M' (imP p) → Q M') :
    ∀ (d k : Nat) (M : Mem), k + d = (sRe (pS p)).length → imF M0 M → imX M (imB p ++ frmL (sRe (pS p)) k) → m_X4_write_L88 Q 42 (d + 1) k M
  | 0, k, M, hk, hf, hi => by
    have w2 := hp.2.1.1.2.1
    have l8 := hp.2.2.1.1.2.1
    have e42 : M 42 0 = ((sRe (pS p)).length : Nat) := by rw [hf 42 (by decide) (by decide)]; exact hx.2.2.1.1.2.2.2.2.1
    have len := imC_len (p := p)
    have kk : k = (sRe (pS p)).length := by omega
    rw [kk] at hi
    have hi : imX M (imC p) := hi
    unfold m_X4_write_L88
    rw [e42, hi.1]
    refine ⟨by omega, by omega, fun _ => x_proof (l := imC p) (by decide) hi.2 (imC_b hp) (Nat.le_refl _) (by rw [show ln 186 = 40 from by decide]; omega) (by omega) ?_, fun q => by omega⟩
    rw [List.take_length]
    exact x_im hi (by omega) fun M1 i1 f1 => h M1 (fun a a1 a2 => by rw [f1 a a1 a2, hf a a1 a2]) i1
  | d + 1, k, M, hk, hf, hi => by
    have w2 := hp.2.1.1.2.1
    have l8 := hp.2.2.1.1.2.1
    have e42 : M 42 0 = ((sRe (pS p)).length : Nat) := by rw [hf 42 (by decide) (by decide)]; exact hx.2.2.1.1.2.2.2.2.1
    have len : (imB p ++ frmL (sRe (pS p)) k).length = 3 + 2 * wPn (pW p) + 3 * k := by simp [imB, day2, pplL_len, frmL_len]; omega
    obtain ⟨r1, r2, r3⟩ := hx.2.2.1.1.2.2.2.2.2 k (by omega)
    rw [show (40 : Int) + 2 + 1 = 43 from rfl] at r1
    rw [show (40 : Int) + 2 + 2 = 44 from rfl] at r2
    rw [show (40 : Int) + 2 + 3 = 45 from rfl] at r3
    unfold m_X4_write_L88
    rw [e42, show (42 : Int) + 1 = 43 from rfl, show (42 : Int) + 2 = 44 from rfl, show (42 : Int) + 3 = 45 from rfl, hf 43 (by decide) (by decide), r1]
    refine ⟨by omega, by omega, fun q => by omega, fun _ => ⟨by omega, x_im hi (by omega) fun M1 i1 f1 => ⟨by omega, ?_⟩⟩⟩
    rw [f1 44 (by decide) (by decide), hf 44 (by decide) (by decide), r2]
    refine x_im i1 (by rw [List.length_append, len]; simp; omega) fun M2 i2 f2 => ⟨by omega, ?_⟩
    rw [f2 45 (by decide) (by decide), f1 45 (by decide) (by decide), hf 45 (by decide) (by decide), r3]
    refine x_im i2 (by rw [List.length_append, List.length_append, len]; simp; omega) fun M3 i3 f3 => ?_
    refine x_im_88 hx hp h d (k + 1) M3 (by omega) (fun a a1 a2 => by rw [f3 a a1 a2, f2 a a1 a2, f1 a a1 a2, hf a a1 a2]) ?_
    unfold frmL
    rw [← List.append_assoc, ← List.append_assoc, ← List.append_assoc]
    exact i3
theorem x_im_31 {Q : Mem → Prop} {M0 : Mem} (hx : IX M0 t p) (hp : POK N p) (h : ∀ M', imF M0 M' → imX M' (imP p) → Q M') :
    ∀ (d k : Nat) (M : Mem), k + d = wPn (pW p) → imF M0 M → imX M (day2 p ++ pplL p k) → m_X4_write_L31 Q t 40 (d + 1) k M
  | 0, k, M, hk, hf, hi => by
    have w2 := hp.2.1.1.2.1
    have kt := isTown hx.2.1.2.2.1.1
    have l8 := hp.2.2.1.1.2.1
    have e5 : M t 5 = (wPn (pW p) : Nat) := by rw [hf t (by omega) (by omega)]; exact hx.2.1.2.2.1.2.2.1
    have e42 : M 42 0 = ((sRe (pS p)).length : Nat) := by rw [hf 42 (by decide) (by decide)]; exact hx.2.2.1.1.2.2.2.2.1
    have kk : k = wPn (pW p) := by omega
    rw [kk] at hi
    have len : (day2 p ++ pplL p (wPn (pW p))).length = 2 + 2 * wPn (pW p) := by simp [day2, pplL_len]; omega
    unfold m_X4_write_L31
    rw [e5, show (40 : Int) + 2 = 42 from rfl, e42]
    refine ⟨by omega, by omega, fun _ => x_im hi (by omega) fun M1 i1 f1 => ⟨(sRe (pS p)).length + 1, ?_⟩, fun q => by omega⟩
    refine x_im_88 hx hp h (sRe (pS p)).length 0 M1 (by omega) (fun a a1 a2 => by rw [f1 a a1 a2, hf a a1 a2]) ?_
    unfold frmL
    rw [List.append_nil]
    exact i1
  | d + 1, k, M, hk, hf, hi => by
    have w2 := hp.2.1.1.2.1
    have sw := hp.2.2.1.1.1.2.2.1
    have kt := isTown hx.2.1.2.2.1.1
    have e5 : M t 5 = (wPn (pW p) : Nat) := by rw [hf t (by omega) (by omega)]; exact hx.2.1.2.2.1.2.2.1
    have len : (day2 p ++ pplL p k).length = 2 + 2 * k := by simp [day2, pplL_len]; omega
    have sp := hx.2.2.1.1.2.2.2.1 k (by omega)
    rw [show (40 : Int) + 1 = 41 from rfl] at sp
    unfold m_X4_write_L31 m_X4_write_J63
    rw [e5, show (40 : Int) + 1 = 41 from rfl, hf 41 (by decide) (by decide), sp]
    refine ⟨by omega, by omega, fun q => by omega, fun _ => ⟨by omega, x_im hi (by omega) fun M1 i1 f1 => ?_⟩⟩
    have hw : M1 40 2 = (sWa (pS p) : Nat) := by rw [f1 40 (by decide) (by decide), hf 40 (by decide) (by decide)]; exact hx.2.2.1.1.2.2.1
    have nx : ∀ r : Int, r = (if (sWa (pS p)).testBit k then 1 else 0) → m_X4_add r M1 (fun M12 => m_X4_write_L31 Q t 40 (d + 1) ((k : Int) + 1) M12) := fun r er => by
      refine x_im i1 (by rw [List.length_append, len]; simp; omega) fun M2 i2 f2 => ?_
      refine x_im_31 hx hp h d (k + 1) M2 (by omega) (fun a a1 a2 => by rw [f2 a a1 a2, f1 a a1 a2, hf a a1 a2]) ?_
      unfold pplL
      rw [← List.append_assoc, ← List.append_assoc, ← er]
      exact i2
    refine x_watches (by decide) hw sw (by omega) ?_
    cases c : (sWa (pS p)).testBit k
    · exact ⟨by decide, fun _ => nx 0 (by rw [c]; rfl), fun z => absurd rfl z⟩
    · exact ⟨by decide, fun z => absurd z (by decide), fun _ => nx 1 (by rw [c]; rfl)⟩
def wIm (p : PT) (l : List Int) : PT := (pTp p, pRf p, pFa p, pW p, p.2.2.2.2.1, pS p, pK p, pU p, pSe p, l, pSd p)
theorem x_image {Q : Int → Mem → Prop} (hx : IX M t p) (hp : POK N p) (h : ∀ M', IX M' t (wIm p (imP p)) → stX M M' → Q ((imP p).length : Nat) M') : m_X11_image M Q := by
  have d1 := hp.2.2.1.1.1.1
  have d2 := hp.2.2.1.1.1.2.1
  unfold m_X11_image m_X4_write
  rw [hx.2.1.1]
  refine ⟨hx.2.1.2.2.1.1, hx.2.1.2.2.1.1, by decide, fun M1 e1 => ?_⟩
  have e0 : M 40 0 = sDay (pS p) := hx.2.2.1.1.2.1
  have f1 : imF M M1 := fun a a1 a2 => by rw [e1, up_ne _ a1]
  have i1 : imX M1 [] := ⟨by rw [e1]; simp [up_get], fun k hk => by simp at hk⟩
  rw [f1 40 (by decide) (by decide), e0, Int.tdiv_eq_ediv_of_nonneg d1]
  refine ⟨by omega, x_im i1 (by simp) fun M2 i2 f2 => ?_⟩
  rw [f2 40 (by decide) (by decide), f1 40 (by decide) (by decide), e0, Int.tmod_eq_emod_of_nonneg d1]
  refine ⟨by omega, x_im i2 (by simp) fun M3 i3 f3 => ⟨wPn (pW p) + 1, ?_⟩⟩
  refine x_im_31 hx hp (fun M4 f4 i4 => ?_) (wPn (pW p)) 0 M3 (by omega) (fun a a1 a2 => by rw [f3 a a1 a2, f2 a a1 a2, f1 a a1 a2]) (by unfold pplL; rw [List.append_nil]; exact i3)
  rw [i4.1]
  refine h M4 (hx.plain (fun c c1 c2 => f4 c (by omega) (by omega)) (fun k _ => by rw [f4 0 (by decide) (by decide)]) rfl rfl rfl rfl rfl ?_) (fun a ha => f4 a (by omega) (by omega))
  obtain ⟨a1, a2, a3, a4, a5, a6, a7, a8, a9, a10, a11⟩ := hx.1
  unfold aX rw1 rw3 at *
  rw [f4 1 (by decide) (by decide), f4 2 (by decide) (by decide), f4 3 (by decide) (by decide), f4 198 (by decide) (by decide), f4 187 (by decide) (by decide), f4 188 (by decide) (by decide), f4 0 (by decide) (by decide)]
  exact ⟨a1, a2, a3, a4, a5, a6, a7, a8, i4.1, i4.2, a11⟩
/-- the model's image is under way -/
def imG (M0 M : Mem) : Prop := (∀ a, a ≠ 199 → a ≠ 241 → M a = M0 a) ∧ ∀ k, k ≠ 66 → M 199 k = M0 199 k
theorem imG.tr {M0 M1 M2 : Mem} (h : imG M0 M1) (f : ∀ a, a ≠ 199 → a ≠ 241 → M2 a = M1 a) (g : ∀ k, k ≠ 66 → M2 199 k = M1 199 k) : imG M0 M2 := ⟨fun a a1 a2 => by rw [f a a1 a2, h.1 a a1 a2], fun k hk => by rw [g k hk, h.2 k hk]⟩
theorem y_im_127 {Q : Int → Mem → Prop} {l : List Int} (hi : imY M l) (hb : ∀ c ∈ l, 0 ≤ c ∧ c < 256) (hl : l.length < 60) (h : ∀ M', imY M' (l ++ [prf l]) → (∀ a, a ≠ 199 → a ≠ 241 → M' a = M a) → (∀ k, k ≠ 66 → M' 199 k = M 199 k) → Q ((l ++ [prf l]).length : Nat) M') :
    ∀ (d k : Nat), k + d = l.length → m_X12_image_L127 Q (d + 1) (prf (l.take k)) k M
  | 0, k, hk => by
    unfold m_X12_image_L127
    rw [show k = l.length by omega, List.take_length, hi.1]
    have r := prf_rng l
    refine ⟨by omega, by omega, fun _ => y_im hi hl (by omega) fun M1 i1 f1 g1 => ?_, fun q => absurd (Int.le_refl _) q⟩
    rw [show prf l % 256 = prf l by omega] at i1
    rw [i1.1]
    exact h M1 i1 f1 g1
  | d + 1, k, hk => by
    have r := prf_rng (l.take k)
    have bb := hb _ (getD_mem (d := 0) (show k < l.length by omega))
    unfold m_X12_image_L127
    rw [hi.1, hi.2 k (by omega), Int.tmod_eq_emod_of_nonneg (by omega)]
    refine ⟨by omega, by omega, fun q => by omega, fun _ => ⟨by omega, by omega, fun x hx => ?_⟩⟩
    rw [← prf_step (by omega)] at hx
    subst hx
    exact y_im_127 hi hb hl h d (k + 1) (by omega)
theorem y_im_93 {Q : Int → Mem → Prop} {M0 : Mem} (hy : IY M0 b p) (hp : POK N p) (h : ∀ M', imG M0 M' → imY M' (imP p) → Q ((imP p).length : Nat) M') :
    ∀ (d k : Nat) (M : Mem), k + d = (sRe (pS p)).length → imG M0 M → imY M (imB p ++ frmL (sRe (pS p)) k) → m_X12_image_L93 Q (3 * d + 1) (3 * k : Nat) M
  | 0, k, M, hk, hf, hi => by
    have w2 := hp.2.1.1.2.1
    have l8 := hp.2.2.1.1.2.1
    have e42 : M 230 0 = ((sRe (pS p)).length : Nat) := by rw [hf.1 230 (by decide) (by decide)]; exact hy.2.2.1.1.2.2.2.2.1
    have len := imC_len (p := p)
    have kk : k = (sRe (pS p)).length := by omega
    rw [kk] at hi
    have hi : imY M (imC p) := hi
    unfold m_X12_image_L93
    rw [e42]
    refine ⟨by omega, by omega, fun _ => ⟨_, y_im_127 hi (imC_b hp) (by omega) (fun M1 i1 f1 g1 => h M1 (hf.tr f1 g1) i1) (imC p).length 0 (by omega)⟩, fun q => by omega⟩
  | d + 1, k, M, hk, hf, hi => by
    have w1 := hp.2.1.1.1
    have w2 := hp.2.1.1.2.1
    have l8 := hp.2.2.1.1.2.1
    have E42 : M0 230 0 = ((sRe (pS p)).length : Nat) := hy.2.2.1.1.2.2.2.2.1
    have len : (imB p ++ frmL (sRe (pS p)) k).length = 3 + 2 * wPn (pW p) + 3 * k := by simp [imB, day2, pplL_len, frmL_len]; omega
    obtain ⟨r1, r2, r3⟩ := hy.2.2.1.1.2.2.2.2.2 k (by omega)
    have fk := hp.2.2.1.1.1.2.2.2.2.2.1 _ (getD_mem (d := (0, 0, 0)) (show k < (sRe (pS p)).length by omega))
    unfold frOKP at fk
    rw [show 3 * (9 * (0 : Int) + k) = (3 * k : Nat) by omega] at r1 r2 r3
    rw [show 3 * (d + 1) + 1 = (3 * d + 1 + 1 + 1) + 1 by omega]
    unfold m_X12_image_L93
    rw [hf.1 230 (by decide) (by decide), E42, hf.1 231 (by decide) (by decide), r1]
    refine ⟨by omega, by omega, fun q => by omega, fun _ => ⟨by omega, y_im hi (by omega) (by omega) fun M1 i1 f1 g1 => ?_⟩⟩
    have h1 := hf.tr f1 g1
    unfold m_X12_image_L93
    rw [h1.1 230 (by decide) (by decide), E42, h1.1 231 (by decide) (by decide), r2]
    refine ⟨by omega, by omega, fun q => by omega, fun _ => ⟨by omega, y_im i1 (by rw [List.length_append, len]; simp; omega) (by omega) fun M2 i2 f2 g2 => ?_⟩⟩
    have h2 := h1.tr f2 g2
    unfold m_X12_image_L93
    rw [h2.1 230 (by decide) (by decide), E42, h2.1 231 (by decide) (by decide), show ((3 * k : Nat) : Int) + 1 + 1 = (3 * k : Nat) + 2 by omega, r3]
    refine ⟨by omega, by omega, fun q => by omega, fun _ => ⟨by omega, y_im i2 (by rw [List.length_append, List.length_append, len]; simp; omega) (by omega) fun M3 i3 f3 g3 => ?_⟩⟩
    have := y_im_93 hy hp h d (k + 1) M3 (by omega) (h2.tr f3 g3) (by
      rw [Int.emod_eq_of_lt (by omega) (by omega), Int.emod_eq_of_lt (by omega) (by omega), Int.emod_eq_of_lt (by omega) (by omega)] at i3
      unfold frmL
      rw [← List.append_assoc, ← List.append_assoc, ← List.append_assoc]
      exact i3)
    rw [show ((3 * k : Nat) : Int) + 2 + 1 = (3 * (k + 1) : Nat) by omega]
    exact this
theorem y_im_30 {Q : Int → Mem → Prop} {M0 : Mem} (hy : IY M0 b p) (hp : POK N p) (h : ∀ M', imG M0 M' → imY M' (imP p) → Q ((imP p).length : Nat) M') :
    ∀ (d k : Nat) (M : Mem), k + d = wPn (pW p) → imG M0 M → imY M (day2 p ++ pplL p k) → m_X12_image_L30 Q (d + 1) k M
  | 0, k, M, hk, hf, hi => by
    have w2 := hp.2.1.1.2.1
    have l8 := hp.2.2.1.1.2.1
    have b1 := hy.2.1.2.1.1
    have kk : k = wPn (pW p) := by omega
    rw [kk] at hi
    have len : (day2 p ++ pplL p (wPn (pW p))).length = 2 + 2 * wPn (pW p) := by simp [day2, pplL_len]; omega
    have E42 : M0 230 0 = ((sRe (pS p)).length : Nat) := hy.2.2.1.1.2.2.2.2.1
    unfold m_X12_image_L30
    rw [hf.2 13 (by decide), hy.2.1.1, hf.1 205 (by decide) (by decide), hy.2.1.2.1.2.2.1, hf.1 230 (by decide) (by decide), E42]
    refine ⟨by omega, by omega, by omega, fun _ => y_im hi (by omega) (by omega) fun M1 i1 f1 g1 => ⟨3 * (sRe (pS p)).length + 1, ?_⟩, fun q => by omega⟩
    have := y_im_93 hy hp h (sRe (pS p)).length 0 M1 (by omega) (hf.tr f1 g1) (by
      rw [Int.emod_eq_of_lt (by omega) (by omega)] at i1
      unfold frmL
      rw [List.append_nil]
      exact i1)
    exact this
  | d + 1, k, M, hk, hf, hi => by
    have w1 := hp.2.1.1.1
    have w2 := hp.2.1.1.2.1
    have sw := hp.2.2.1.1.1.2.2.1
    have spr := hp.2.2.1.1.1.2.2.2.1 k (by omega)
    have b1 := hy.2.1.2.1.1
    have len : (day2 p ++ pplL p k).length = 2 + 2 * k := by simp [day2, pplL_len]; omega
    have sp := hy.2.2.1.1.2.2.2.1 k (by omega)
    rw [show 6 * (0 : Int) + k = k by omega] at sp
    unfold m_X12_image_L30 m_X12_image_J72
    rw [hf.2 13 (by decide), hy.2.1.1, hf.1 205 (by decide) (by decide), hy.2.1.2.1.2.2.1, hf.1 228 (by decide) (by decide), sp]
    refine ⟨by omega, by omega, by omega, fun q => by omega, fun _ => ⟨by omega, y_im hi (by omega) (by omega) fun M1 i1 f1 g1 => ?_⟩⟩
    have h1 := hf.tr f1 g1
    rw [Int.emod_eq_of_lt (by omega) (by omega)] at i1
    have hw : M1 229 0 = (sWa (pS p) : Nat) := by rw [h1.1 229 (by decide) (by decide)]; exact hy.2.2.1.1.2.2.1
    have nx : ∀ r : Int, r = (if (sWa (pS p)).testBit k then 1 else 0) → m_X12_writes r M1 (fun M12 => m_X12_image_L30 Q (d + 1) ((k : Int) + 1) M12) := fun r er => by
      have rr : 0 ≤ r ∧ r ≤ 1 := by rw [er]; split <;> omega
      refine y_im i1 (by rw [List.length_append, len]; simp; omega) (by omega) fun M2 i2 f2 g2 => ?_
      rw [Int.emod_eq_of_lt (by omega) (by omega)] at i2
      refine y_im_30 hy hp h d (k + 1) M2 (by omega) (h1.tr f2 g2) ?_
      unfold pplL
      rw [← List.append_assoc, ← List.append_assoc, ← er]
      exact i2
    rw [hw]
    refine y_has2I (by omega) (by omega) ?_
    rw [Int.toNat_natCast]
    cases c : (sWa (pS p)).testBit k
    · exact ⟨by decide, fun _ => nx 0 (by rw [c]; rfl), fun z => absurd rfl z⟩
    · exact ⟨by decide, fun z => absurd z (by decide), fun _ => nx 1 (by rw [c]; rfl)⟩
theorem y_image {Q : Int → Mem → Prop} (hy : IY M b p) (hp : POK N p) (h : ∀ M', IY M' b (wIm p (imP p)) → stY M M' → Q ((imP p).length : Nat) M') : m_X12_image M Q := by
  have d1 := hp.2.2.1.1.1.1
  have d2 := hp.2.2.1.1.1.2.1
  unfold m_X12_image
  intro M1 e1
  have e0 : M 227 0 = sDay (pS p) := hy.2.2.1.1.2.1
  have f1 : imG M M1 := ⟨fun a a1 a2 => by rw [e1, up_ne _ a1], fun k hk => by rw [e1]; simp only [up_get]; rw [if_neg (fun y => hk y.2)]⟩
  have i1 : imY M1 [] := ⟨by rw [e1]; simp [up_get], fun k hk => by simp at hk⟩
  have sh : zshr (sDay (pS p)) 8 = sDay (pS p) / 256 := by
    have := z_shr (a := (sDay (pS p)).toNat) (k := 8) (by decide) (by omega)
    rw [step_of d1] at this
    rw [show (8 : Int) = ((8 : Nat) : Int) from rfl, this]
    omega
  rw [f1.1 227 (by decide) (by decide), e0, sh]
  refine y_im i1 (by simp) (by omega) fun M2 i2 f2 g2 => ?_
  have h2 := f1.tr f2 g2
  rw [h2.1 227 (by decide) (by decide), e0]
  refine y_im i2 (by simp) (by omega) fun M3 i3 f3 g3 => ⟨wPn (pW p) + 1, ?_⟩
  rw [Int.emod_eq_of_lt (a := sDay (pS p) / 256) (by omega) (by omega)] at i3
  refine y_im_30 hy hp (fun M4 f4 i4 => ?_) (wPn (pW p)) 0 M3 (by omega) (h2.tr f3 g3) (by unfold pplL; rw [List.append_nil]; exact i3)
  refine h M4 (hy.plain (fun c c1 => f4.1 c (by omega) (by omega)) (fun k hk => f4.2 k (by omega)) rfl rfl rfl rfl rfl ?_) (fun a ha => f4.1 a (by omega) (by omega))
  obtain ⟨a1, a2, a3, a4, a5, a6, a7, a8, a9, a10⟩ := hy.1
  unfold aY rw1 at *
  rw [f4.1 200 (by decide) (by decide), f4.1 226 (by decide) (by decide), f4.1 237 (by decide) (by decide), f4.1 238 (by decide) (by decide), f4.1 239 (by decide) (by decide), f4.2 1 (by decide), f4.2 10 (by decide), f4.2 11 (by decide), f4.2 60 (by decide), f4.2 56 (by decide)]
  exact ⟨a1, a2, a3, a4, a5, a6, a7, i4.1, i4.2, a10⟩
theorem s_image (hi : Inv N M) : m_X11_image M (fun r1 M1 => m_X12_image M1 (fun r2 M2 => Good N r1 r2 M2)) := by
  obtain ⟨t, b, p, hp, hx, hy⟩ := hi
  have w2 := hp.2.1.1.2.1
  have l8 := hp.2.2.1.1.2.1
  have len : (imP p).length = (imC p).length + 1 := by simp [imP]
  have len2 := imC_len (p := p)
  refine x_image hx hp fun M1 hx1 o1 => y_image (hy.st o1) hp fun M2 hy2 o2 => fin1 (p := wIm p (imP p)) ?_ (hx1.st o2) hy2 (by omega)
  obtain ⟨⟨a1, a2, a3, a4, a5, a6, a7, a8, a9, a10⟩, h2⟩ := hp.mono
  refine ⟨⟨a1, a2, a3, a4, a5, a6, a7, ?_, fun c hc => ?_, a10⟩, h2⟩
  · show (imP p).length ≤ 40
    omega
  · have hc' : c ∈ imP p := hc
    rcases List.mem_append.mp hc' with z | z
    · exact imC_b hp c z
    · rw [List.mem_singleton.mp z]
      have := prf_rng (imC p)
      omega
end
