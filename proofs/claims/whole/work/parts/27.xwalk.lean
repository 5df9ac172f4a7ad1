/-! the class's day -/
theorem isWalk {o : Int} (h : kd o = 10) : o = 52 ∨ o = 57 := kd_all (P := fun o => kd o = 10 → o = 52 ∨ o = 57) (by decide +kernel) h (by decide) h
theorem isTown {o : Int} (h : kd o = 8) : o = 6 ∨ o = 23 := kd_all (P := fun o => kd o = 8 → o = 6 ∨ o = 23) (by decide +kernel) h (by decide) h
theorem isScene {o : Int} (h : kd o = 6) : o = 40 ∨ o = 46 ∨ (65 ≤ o ∧ o ≤ 179 ∧ (o - 65) % 6 = 0) := kd_all (P := fun o => kd o = 6 → o = 40 ∨ o = 46 ∨ (65 ≤ o ∧ o ≤ 179 ∧ (o - 65) % 6 = 0)) (by decide +kernel) h (by decide) h
def reX (M : Mem) (r : Int) (l : List (Int × Int × Int)) : Prop := M r 0 = (l.length : Nat) ∧ ∀ k : Nat, k < l.length → M (r + 1) k = (l.getD k (0, 0, 0)).1 ∧ M (r + 2) k = (l.getD k (0, 0, 0)).2.1 ∧ M (r + 3) k = (l.getD k (0, 0, 0)).2.2
/-- the class's town at t is W (names, rain apart) -/
def TX (M : Mem) (t : Int) (W : TW) : Prop := kd t = 8 ∧ M t 0 = (wPl W : Nat) ∧ M t 5 = (wPn W : Nat) ∧
  (∀ i : Nat, i < wPl W → 0 ≤ M (t + 2) i ∧ M (t + 2) i < 128) ∧ (∀ i j : Nat, i < wPl W → j < wPl W → wRe W i j = (M (t + 2) i).toNat.testBit j ∧ M (t + 3) (7 * i + j) = wDi W i j) ∧
  (∀ p : Nat, p < wPn W → M (t + 6) p = wKi W p) ∧ cdX M (t + 11) (wSt W) ∧ cdX M (t + 14) (wGo W)
/-- the class's scene at s is S -/
def SX (M : Mem) (s : Int) (W : TW) (S : TS) : Prop := kd s = 6 ∧ M s 0 = sDay S ∧ M s 2 = (sWa S : Nat) ∧ (∀ p : Nat, p < wPn W → M (s + 1) p = sSp S p) ∧ reX M (s + 2) (sRe S)
/-- nothing is written but a walk at o and the scratch rows of the formulas of t -/
def offW (o t : Int) (M M' : Mem) : Prop := ∀ a, (a < o ∨ o + 4 < a) → a ≠ t + 13 → a ≠ t + 16 → M' a = M a
theorem offW.rf {o t : Int} {M : Mem} : offW o t M M := fun _ _ _ _ => rfl
theorem offW.tr {o t : Int} {M M1 M2 : Mem} (h : offW o t M M1) (k : offW o t M1 M2) : offW o t M M2 := fun a p q r => by rw [k a p q r, h a p q r]
theorem offW.up {o t a k v : Int} {M M1 M2 : Mem} (h : offW o t M M1) (e : M2 = up M1 a k v) (ha : o ≤ a ∧ a ≤ o + 4) : offW o t M M2 := fun c p q r => by
  rw [e, up_ne M1 (k := k) (v := v) (show c ≠ a by omega), h c p q r]
theorem offR.W {o t a : Int} {M M1 : Mem} (h : offR a M M1) (ha : (o ≤ a ∧ a ≤ o + 4) ∨ a = t + 13 ∨ a = t + 16) : offW o t M M1 := fun c p q r => h c (by omega)
theorem TX.off {M M' : Mem} {o t : Int} {W : TW} (h : TX M t W) (ho : kd o = 10) (e : offW o t M M') : TX M' t W := by
  have k1 := isWalk ho
  have k2 := isTown h.1
  unfold TX cdX at *
  rw [e t (by omega) (by omega) (by omega), e (t + 2) (by omega) (by omega) (by omega), e (t + 3) (by omega) (by omega) (by omega), e (t + 6) (by omega) (by omega) (by omega), e (t + 11) (by omega) (by omega) (by omega), e (t + 14) (by omega) (by omega) (by omega), e (t + 11 + 1) (by omega) (by omega) (by omega), e (t + 14 + 1) (by omega) (by omega) (by omega)]
  exact h
theorem SX.off {M M' : Mem} {o t s : Int} {W : TW} {S : TS} (h : SX M s W S) (ho : kd o = 10) (ht : kd t = 8) (e : offW o t M M') : SX M' s W S := by
  have k1 := isWalk ho
  have k2 := isTown ht
  have k3 := isScene h.1
  unfold SX reX at *
  rw [e s (by omega) (by omega) (by omega), e (s + 1) (by omega) (by omega) (by omega), e (s + 2) (by omega) (by omega) (by omega), e (s + 2 + 1) (by omega) (by omega) (by omega), e (s + 2 + 2) (by omega) (by omega) (by omega), e (s + 2 + 3) (by omega) (by omega) (by omega)]
  exact h
theorem j_fill_l {a v : Int} {M0 : Mem} {Q : Mem → Prop} {n : Nat} (hn : ln a = (n : Nat)) (h31 : n < 2147483648) (h : ∀ M', offR a M0 M' → (∀ i : Nat, i < n → M' a i = v) → Q M') :
    ∀ (d i : Nat) (M : Mem), i + d = n → offR a M0 M → (∀ j : Nat, j < i → M a j = v) → m_J7_fill_53178_L5 Q a v (ln a) (d + 1) i M
  | 0, i, M, hd, ho, hj => by
    unfold m_J7_fill_53178_L5
    rw [hn]
    exact ⟨by omega, by omega, fun _ => h M ho (fun j q => hj j (by omega)), fun q => by omega⟩
  | d + 1, i, M, hd, ho, hj => by
    have ih := j_fill_l (v := v) hn h31 h d (i + 1)
    rw [hn] at ih
    unfold m_J7_fill_53178_L5
    rw [hn]
    refine ⟨by omega, by omega, fun q => by omega, fun _ => ⟨by omega, fun M1 e1 => ih M1 (by omega) (ho.up e1) fun j q => ?_⟩⟩
    rw [e1]
    simp only [up_get]
    by_cases c : j = i
    · subst c; simp
    · rw [if_neg (by omega)]; exact hj j (by omega)
theorem j_fill {a v : Int} {M : Mem} {Q : Mem → Prop} {n : Nat} (ha : kd a = 20) (hn : ln a = (n : Nat)) (h31 : n < 2147483648) (h : ∀ M', offR a M M' → (∀ i : Nat, i < n → M' a i = v) → Q M') : m_J7_fill_53178 a v M Q :=
  ⟨ha, _, j_fill_l hn h31 h n 0 M (by omega) offR.rf (fun j q => by omega)⟩
theorem x_watches {s : Int} {p : Nat} {M : Mem} {Q : Int → Mem → Prop} {n : Nat} (hs : kd s = 6) (hw : M s 2 = (n : Nat)) (hn : n < 64) (hp : p < 32) (h : Q (if n.testBit p then 1 else 0) M) : m_X6_watches s p M Q := by
  have e := z_bit (a := n) (k := p) hp (by omega)
  unfold m_X6_watches m_X6_watches_J17
  rw [hw, e]
  cases c : n.testBit p
  · rw [c] at h
    exact ⟨hs, by decide, fun q => absurd q (by decide), fun _ => ⟨by decide, h⟩⟩
  · rw [c] at h
    exact ⟨hs, by decide, fun _ => ⟨by decide, h⟩, fun q => absurd rfl q⟩
theorem x_countIn {o : Int} {pl step : Int} {M : Mem} {Q : Int → Mem → Prop} {f : Int → Int} {n : Nat} (ho : kd o = 10) (hi : 0 ≤ 7 * step + pl ∧ 7 * step + pl < 63) (hn : n ≤ 6) (hw : M (o + 2) (7 * step + pl) = (whoP f n pl : Nat)) (h : Q (cntP f n pl) M) : m_X10_countIn o pl step M Q := by
  have l := whoP_lt f pl n
  have l2 : 2 ^ n ≤ 2 ^ 6 := Nat.pow_le_pow_right (by decide) hn
  refine ⟨ho, ho, hi, ?_⟩
  rw [hw]
  refine j_bitCount (by omega) ?_
  rw [Int.toNat_natCast, pop_who f pl n (by omega)]
  exact h
/-- a walk in progress: step k, of it the first p people -/
def walkX (M0 M : Mem) (o t s : Int) (W : TW) (S : TS) (k p : Nat) : Prop := offW o t M0 M ∧ M o 4 = t ∧ M o 5 = s ∧ (∀ j q : Nat, 1 ≤ j → j ≤ 8 → q < wPl W → M (o + 3) (7 * j + q) = shP (sRe S) j q) ∧
  (∀ j q : Nat, q < wPn W → (j < k ∨ (j = k ∧ q < p)) → M (o + 1) (6 * j + q) = walkP W S j q) ∧
  (∀ j q : Nat, j ≤ 8 → q < 7 → M (o + 2) (7 * j + q) = (whoP (walkP W S j) (if j < k then wPn W else if j = k then p else 0) q : Nat))
theorem walkX.known {M0 M M1 : Mem} {o t s i v : Int} {W : TW} {S : TS} {k p : Nat} (h : walkX M0 M o t s W S k p) (e : M1 = up M (o + 4) i v) : walkX M0 M1 o t s W S k p := by
  obtain ⟨h1, h2, h3, h4, h5, h6⟩ := h
  refine ⟨h1.up e (by omega), ?_, ?_, ?_, ?_, ?_⟩
  all_goals rw [e]
  · rw [up_ne M (by omega)]; exact h2
  · rw [up_ne M (by omega)]; exact h3
  · rw [up_ne M (by omega)]; exact h4
  · rw [up_ne M (by omega)]; exact h5
  · rw [up_ne M (by omega)]; exact h6
theorem walkX.scr {M0 M M1 : Mem} {o t s a : Int} {W : TW} {S : TS} {k p : Nat} (h : walkX M0 M o t s W S k p) (ho : kd o = 10) (ht : kd t = 8) (e : offR a M M1) (ha : a = t + 13 ∨ a = t + 16) : walkX M0 M1 o t s W S k p := by
  have k1 := isWalk ho
  have k2 := isTown ht
  obtain ⟨h1, h2, h3, h4, h5, h6⟩ := h
  refine ⟨h1.tr (e.W (by omega)), ?_, ?_, ?_, ?_, ?_⟩
  · rw [e _ (by omega)]; exact h2
  · rw [e _ (by omega)]; exact h3
  · rw [e _ (by omega)]; exact h4
  · rw [e _ (by omega)]; exact h5
  · rw [e _ (by omega)]; exact h6
theorem walkX.shown {M0 M : Mem} {o t s : Int} {W : TW} {S : TS} {k p : Nat} (h : walkX M0 M o t s W S k p) (ho : kd o = 10) (hT : TX M t W) (hV : SX M s W S) (hW : WOK W) (hS : SOK W S) {q : Nat} (hq : q < wPn W) {pl : Int} (hpl : 0 ≤ pl ∧ pl < wPl W) {step : Nat} (h1 : 1 ≤ step) (h8 : step ≤ 8) {Q : Int → Mem → Prop} (hh : Q (seenP S q step pl) M) : m_X10_shownTo o q pl step M Q := by
  have w1 := hW.1
  have w2 := hW.2.1
  have sh := h.2.2.2.1 step pl.toNat h1 h8 (by omega)
  rw [toNat_i hpl.1] at sh
  unfold m_X10_shownTo m_X10_shownTo_J27
  rw [h.2.2.1]
  refine ⟨ho, hV.1, x_watches hV.1 hV.2.2.1 hS.2.2.1 (by omega) ?_⟩
  unfold seenP at hh
  cases c : (sWa S).testBit q
  · rw [c] at hh
    exact ⟨by decide, fun _ => hh, fun z => absurd rfl z⟩
  · rw [c] at hh
    refine ⟨by decide, fun z => absurd z (by decide), fun _ => ⟨by omega, ?_⟩⟩
    rw [sh]
    exact hh
theorem TX.st {M : Mem} {t : Int} {W : TW} (h : TX M t W) : kd (t + 11) = 1 ∧ kd (t + 14) = 1 := ⟨sub_8_12 h.1, sub_8_13 h.1⟩
theorem kn_ok {o : Int} (h : kd o = 10) : kd (o + 4) = 20 ∧ ln (o + 4) = 7 := sub_10_3 h
theorem known3 {M M1 M2 M3 : Mem} {r a b z : Int} (e1 : M1 = up M r (-1 - -5) a) (e2 : M2 = up M1 r (-1 - -6) b) (e3 : M3 = up M2 r (-1 - -7) z) (j : Int) : M3 r j = if j = 6 then z else if j = 5 then b else if j = 4 then a else M r j := by
  rw [e3, e2, e1]
  simp only [up_get]
  by_cases c6 : j = 6
  · simp [c6]
  · by_cases c5 : j = 5
    · simp [c5]
    · by_cases c4 : j = 4
      · simp [c4]
      · simp [c4, c5, c6]
theorem envP_at (W : TW) (S : TS) (f : Int → Int) (p : Nat) (step own n : Int) {j : Int} (h : 0 ≤ j ∧ j < 7) : envP W S f p step own n j = if j = 6 then (if wDi W (sSp S p) n = -1 then 9 else wDi W (sSp S p) n) else if j = 5 then cntP f (wPn W) n else if j = 4 then seenP S p step n else envP W S f p step own own j := by
  unfold envP
  rcases (show j = 0 ∨ j = 1 ∨ j = 2 ∨ j = 3 ∨ j = 4 ∨ j = 5 ∨ j = 6 by omega) with rfl | rfl | rfl | rfl | rfl | rfl | rfl <;> simp
set_option maxHeartbeats 1000000 in
theorem x_best_l {o t s own : Int} {p k : Nat} {M0 : Mem} {Q : Int → Mem → Prop} {W : TW} {S : TS} (ho : kd o = 10) (hT : TX M0 t W) (hV : SX M0 s W S) (hW : WOK W) (hS : SOK W S) (hp : p < wPn W) (hk : k ≤ 7) (hown : own = walkP W S k p)
    (h : ∀ M', walkX M0 M' o t s W S (k + 1) p → Q (bestP W S (walkP W S k) p ((k : Int) + 1) own (wPl W)).1 M') :
    ∀ (d n : Nat) (M : Mem), n + d = wPl W → walkX M0 M o t s W S (k + 1) p → (∀ i, 0 ≤ i → i < 4 → M (o + 4) i = envP W S (walkP W S k) p ((k : Int) + 1) own own i) → m_X10_bestPlace_L10 Q o p own ((k : Int) + 1) (d + 1) (bestP W S (walkP W S k) p ((k : Int) + 1) own n).1 (bestP W S (walkP W S k) p ((k : Int) + 1) own n).2 n M
  | 0, n, M, hd, hx, he => by
    obtain rfl : n = wPl W := by omega
    have w1 := hW.1
    have hT' := hT.off ho hx.1
    unfold m_X10_bestPlace_L10
    rw [hx.2.1, hT'.2.1]
    exact ⟨hT.1, by omega, by omega, fun _ => h M hx, fun q => by omega⟩
  | d + 1, n, M, hd, hx, he => by
    have w1 := hW.1
    have w2 := hW.2.1
    have hT' := hT.off ho hx.1
    have hV' := hV.off ho hT.1 hx.1
    have ow := walkP_rng hS k p hp
    have sp := hS.2.2.2.1 p hp
    rw [← hown] at ow
    have hn : n < wPl W := by omega
    have nr := hT'.2.2.2.1 own.toNat (by omega)
    have rr := hT'.2.2.2.2.1 own.toNat n (by omega) hn
    rw [toNat_i ow.1] at nr rr
    have dd := (hT'.2.2.2.2.1 (sSp S p).toNat n (by omega) hn).2
    rw [toNat_i sp.1] at dd
    have di := hW.2.2.2.1 (sSp S p).toNat n (by omega) hn
    rw [toNat_i sp.1] at di
    have heB : envB (envP W S (walkP W S k) p ((k : Int) + 1) own n) := envP_b hW hS hp (by omega) (by omega)
    have fvb := fv_b heB hW.2.2.2.2.2.2.1
    have bb := bestP_hi (W := W) (S := S) (f := walkP W S k) (p := p) (step := (k : Int) + 1) (own := own) n
    have bi : inI (bestP W S (walkP W S k) p ((k : Int) + 1) own n).2 := by
      rcases bb with z | z | z
      · omega
      · omega
      · exact absurd (fun m hm => fv_b (envP_b hW hS hp (by omega) (by omega)) hW.2.2.2.2.2.2.1) z
    have go : ∀ M1, walkX M0 M1 o t s W S (k + 1) p → (∀ i, 0 ≤ i → i < 4 → M1 (o + 4) i = envP W S (walkP W S k) p ((k : Int) + 1) own own i) → bestP W S (walkP W S k) p ((k : Int) + 1) own (n + 1) = bestP W S (walkP W S k) p ((k : Int) + 1) own n → m_X10_bestPlace_L10 Q o p own ((k : Int) + 1) (d + 1) (bestP W S (walkP W S k) p ((k : Int) + 1) own n).1 (bestP W S (walkP W S k) p ((k : Int) + 1) own n).2 ((n : Int) + 1) M1 := by
      intro M1 hx1 he1 eb
      have := x_best_l ho hT hV hW hS hp hk hown h d (n + 1) M1 (by omega) hx1 he1
      rw [eb] at this
      exact this
    unfold m_X10_bestPlace_L10 m_X10_bestPlace_J137
    rw [hx.2.1, hT'.2.1]
    refine ⟨hT.1, by omega, by omega, fun q => by omega, fun _ => ⟨hT.1, hT.1, by omega, ?_⟩⟩
    have zb := z_bit (a := (M (t + 2) own).toNat) (k := n) (by omega) (by omega)
    rw [toNat_i nr.1, ← rr.1] at zb
    unfold m_X8_reaches_J19
    rw [zb]
    cases c : wRe W own n
    · refine ⟨by decide, fun z => absurd z (by decide), fun _ => ⟨by decide, by decide, fun _ => ?_, fun z => absurd rfl z⟩⟩
      exact go M hx he (by show (if _ then _ else _) = _; rw [if_neg (fun z => by rw [c] at z; cases z.1)])
    · refine ⟨by decide, fun _ => ⟨by decide, by decide, fun z => absurd z (by decide), fun _ => ?_⟩, fun z => absurd rfl z⟩
      rw [hx.2.1, hx.2.2.1]
      refine ⟨hT.1, hV.1, by omega, hT.1, ?_, ?_⟩
      · rw [hV'.2.2.2.1 p hp]; omega
      rw [hV'.2.2.2.1 p hp, dd]
      refine hx.shown ho hT' hV' hW hS hp (pl := n) (by omega) (step := k + 1) (by omega) (by omega) ⟨ho, by decide, fun M1 e1 => ?_⟩
      have hx1 := hx.known e1
      refine x_countIn (f := walkP W S k) (n := wPn W) ho (by omega) w2 ?_ ⟨ho, by decide, fun M2 e2 => ?_⟩
      · have := hx1.2.2.2.2.2 k n (by omega) (by omega)
        rw [if_pos (by omega)] at this
        rw [← this]
        congr 1
        omega
      have hx2 := hx1.known e2
      have fin : ∀ z, z = (if wDi W (sSp S p) n = -1 then 9 else wDi W (sSp S p) n) → m_X10_bestPlace_J103 (m_X10_bestPlace_L10 Q o p own ((k : Int) + 1) (d + 1)) Q o p own ((k : Int) + 1) (bestP W S (walkP W S k) p ((k : Int) + 1) own n).1 (bestP W S (walkP W S k) p ((k : Int) + 1) own n).2 n o (-7) z M2 := by
        intro z ez
        refine ⟨ho, by decide, fun M3 e3 => ?_⟩
        have hx3 := hx2.known e3
        dsimp only
        rw [hx3.2.1]
        refine ⟨hT.1, x_value (env := envP W S (walkP W S k) p ((k : Int) + 1) own n) heB hT.st.2 (kn_ok ho).1 (kn_ok ho).2 (hT.off ho hx3.1).2.2.2.2.2.2.2 ?_ fun M4 o4 => ?_⟩
        · intro c _ c1 c2
          obtain ⟨j, ej⟩ : ∃ j, j = -1 - c := ⟨_, rfl⟩
          rw [← ej, known3 e1 e2 e3 j, envP_at _ _ _ _ _ _ _ (show 0 ≤ j ∧ j < 7 by omega)]
          by_cases j6 : j = 6
          · rw [if_pos j6, if_pos j6, ez]
          · rw [if_neg j6, if_neg j6]
            by_cases j5 : j = 5
            · rw [if_pos j5, if_pos j5]
            · rw [if_neg j5, if_neg j5]
              by_cases j4 : j = 4
              · rw [if_pos j4, if_pos j4]; rfl
              · rw [if_neg j4, if_neg j4]
                exact he j (by omega) (by omega)
        · have hx4 := hx3.scr ho hT.1 o4 (by omega)
          have he4 : ∀ i, 0 ≤ i → i < 4 → M4 (o + 4) i = envP W S (walkP W S k) p ((k : Int) + 1) own own i := by
            intro i i0 i4
            have k1 := isWalk ho
            have k2 := isTown hT.1
            rw [o4 _ (by omega), e3, e2, e1]
            simp only [up_get]
            rw [if_neg (by omega), if_neg (by omega), if_neg (by omega)]
            exact he i i0 i4
          unfold m_X10_bestPlace_J137
          refine ⟨by omega, bi, fun q => ?_, fun q => ?_⟩
          · exact go M4 hx4 he4 (by show (if _ then _ else _) = _; rw [if_neg (fun z => by have := z.2; omega)])
          · have := x_best_l ho hT hV hW hS hp hk hown h d (n + 1) M4 (by omega) hx4 he4
            rw [show bestP W S (walkP W S k) p ((k : Int) + 1) own (n + 1) = ((n : Int), fvP (wGo W) (envP W S (walkP W S k) p ((k : Int) + 1) own n)) by show (if _ then _ else _) = _; rw [if_pos ⟨c, by omega⟩]] at this
            exact this
      refine ⟨by omega, fun q => fin 9 (by rw [if_pos q]), fun q => fin _ (by rw [if_neg q])⟩
set_option maxHeartbeats 1000000 in
theorem x_goal {o t s : Int} {p k : Nat} {M0 M : Mem} {Q : Int → Mem → Prop} {W : TW} {S : TS} (ho : kd o = 10) (hT : TX M0 t W) (hV : SX M0 s W S) (hW : WOK W) (hS : SOK W S) (hp : p < wPn W) (hk : k ≤ 7) (hx : walkX M0 M o t s W S (k + 1) p)
    (h : ∀ M', walkX M0 M' o t s W S (k + 1) p → Q (walkP W S (k + 1) p) M') : m_X10_goal o p ((k : Int) + 1) M Q := by
  have w1 := hW.1
  have w2 := hW.2.1
  have k1 := isWalk ho
  have k2 := isTown hT.1
  have ow := walkP_rng hS k p hp
  have own := hx.2.2.2.2.1 k p hp (by omega)
  have hT' := hT.off ho hx.1
  have hV' := hV.off ho hT.1 hx.1
  rw [walkP_succ] at h
  unfold m_X10_goal m_X10_goal_J99
  refine ⟨ho, ho, by omega, ?_⟩
  rw [show (6 : Int) * ((k : Int) + 1 - 1) + p = 6 * k + p by omega, own]
  dsimp only
  rw [hx.2.1, hT'.2.2.2.2.2.1 p hp]
  refine ⟨hT.1, by omega, ho, by decide, fun M1 e1 => ⟨ho, by decide, fun M2 e2 => ?_⟩⟩
  have hx2 := (hx.known e1).known e2
  dsimp only
  rw [hx2.2.2.1, (hV.off ho hT.1 hx2.1).2.1]
  refine ⟨hV.1, ho, by decide, fun M3 e3 => ?_⟩
  have hx3 := hx2.known e3
  refine x_countIn (f := walkP W S k) (n := wPn W) ho (by omega) w2 ?_ ⟨ho, by decide, fun M4 e4 => ?_⟩
  · have := hx3.2.2.2.2.2 k (walkP W S k p).toNat (by omega) (by omega)
    rw [if_pos (by omega), toNat_i ow.1] at this
    rw [← this]
    congr 1
    omega
  have hx4 := hx3.known e4
  refine hx4.shown ho (hT.off ho hx4.1) (hV.off ho hT.1 hx4.1) hW hS hp ow (step := k + 1) (by omega) (by omega) ⟨ho, by decide, fun M5 e5 => ?_⟩
  have hx5 := hx4.known e5
  dsimp only
  rw [hx5.2.1]
  have heB : envB (envP W S (walkP W S k) p ((k : Int) + 1) (walkP W S k p) (walkP W S k p)) := envP_b hW hS hp (by omega) ow
  have kn : ∀ i, 0 ≤ i → i < 5 → M5 (o + 4) i = envP W S (walkP W S k) p ((k : Int) + 1) (walkP W S k p) (walkP W S k p) i := by
    intro i i0 i5
    rw [e5, e4, e3, e2, e1]
    simp only [up_get]
    unfold envP
    rcases (show i = 0 ∨ i = 1 ∨ i = 2 ∨ i = 3 ∨ i = 4 by omega) with rfl | rfl | rfl | rfl | rfl <;> simp
  refine ⟨hT.1, x_value heB hT.st.1 (kn_ok ho).1 (kn_ok ho).2 (hT.off ho hx5.1).2.2.2.2.2.2.1 (fun c hc c1 c2 => ?_) fun M6 o6 => ?_⟩
  · have := hW.2.2.2.2.2.2.2 c hc
    exact kn _ (by omega) (by omega)
  have hx6 := hx5.scr ho hT.1 o6 (by omega)
  have fvb := fv_b heB hW.2.2.2.2.2.1
  refine ⟨by omega, fun q => ?_, fun q => ⟨ho, wPl W + 1, ?_⟩⟩
  · have := h M6 hx6
    unfold nextP at this
    rwa [if_pos q] at this
  · refine x_best_l ho hT hV hW hS hp hk rfl (fun M7 hx7 => ?_) (wPl W) 0 M6 (by omega) hx6 fun i i0 i4 => ?_
    · have := h M7 hx7
      unfold nextP at this
      rwa [if_neg q] at this
    · rw [o6 _ (by omega)]
      exact kn i i0 (by omega)
theorem who_step {f : Int → Int} {n : Nat} {v : Int} (hn : n < 31) (hv : whoP f n v < 2147483648) (q : Int) (hq : q = v ↔ f n = v) : (if f n = v then zor (whoP f n v : Nat) (zshl 1 n) else ((whoP f n v : Nat) : Int)) = (whoP f (n + 1) v : Nat) := by
  simp only [whoP]
  by_cases c : f n = v
  · rw [if_pos c, if_pos c, z_shl1 (by omega), Int.toNat_natCast, z_or hv (pow_lt31 hn)]
  · rw [if_neg c, if_neg c]; simp
theorem x_put {o t s : Int} {p k : Nat} {M0 M : Mem} {Q : Mem → Prop} {W : TW} {S : TS} {x : Int} (ho : kd o = 10) (hW : WOK W) (hp : p < wPn W) (hk : k ≤ 8) (hx : walkX M0 M o t s W S k p) (hv : x = walkP W S k p) (hr : 0 ≤ x ∧ x < wPl W)
    (h : ∀ M', walkX M0 M' o t s W S k (p + 1) → Q M') : m_X10_put o p k x M Q := by
  have w1 := hW.1
  have w2 := hW.2.1
  obtain ⟨h1, h2, h3, h4, h5, h6⟩ := hx
  have wl := fun v => Nat.lt_of_lt_of_le (whoP_lt (walkP W S k) v p) (show 2 ^ p ≤ 2147483648 from Nat.le_of_lt (pow_lt31 (by omega)))
  refine ⟨ho, by omega, fun M1 e1 => ⟨by omega, by omega, fun M2 e2 => h M2 ⟨(h1.up e1 (by omega)).up e2 (by omega), ?_, ?_, ?_, ?_, ?_⟩⟩⟩
  · rw [e2, up_ne _ (by omega), e1, up_ne _ (by omega)]; exact h2
  · rw [e2, up_ne _ (by omega), e1, up_ne _ (by omega)]; exact h3
  · rw [e2, up_ne _ (by omega), e1, up_ne _ (by omega)]; exact h4
  · rw [e2, up_ne _ (by omega)]
    intro j q hq hj
    rw [e1]
    simp only [up_get]
    by_cases c : j = k ∧ q = p
    · obtain ⟨rfl, rfl⟩ := c
      simp [hv]
    · rw [if_neg (by omega)]
      exact h5 j q hq (by omega)
  · intro j q hj hq
    have old := h6 j q hj hq
    rw [e2]
    simp only [up_get]
    rw [e1, up_ne _ (show o + 2 ≠ o + 1 by omega)]
    by_cases c : j = k
    · subst c
      simp only [Nat.lt_irrefl, if_false, if_true, true_and] at old ⊢
      by_cases c2 : (q : Int) = x
      · rw [if_pos (show (7 : Int) * j + q = 7 * j + x by omega), show (7 : Int) * j + x = 7 * j + q by omega, old]
        have := who_step (f := walkP W S j) (n := p) (v := q) (by omega) (wl q) q (by rw [← hv, c2])
        rw [if_pos (by rw [← hv, c2])] at this
        exact this
      · rw [if_neg (show ¬ (7 : Int) * j + q = 7 * j + x by omega), old]
        have := who_step (f := walkP W S j) (n := p) (v := q) (by omega) (wl q) x (by rw [← hv])
        rw [if_neg (by rw [← hv]; omega)] at this
        exact this
    · rw [if_neg (by omega), old]
      by_cases c2 : j < k
      · rw [if_pos c2, if_pos c2]
      · rw [if_neg c2, if_neg c, if_neg c2, if_neg c]
theorem x_go_in {o t s : Int} {k : Nat} {M0 : Mem} {Q : Mem → Prop} {K : Int → Mem → Prop} {W : TW} {S : TS} (ho : kd o = 10) (hT : TX M0 t W) (hV : SX M0 s W S) (hW : WOK W) (hS : SOK W S) (hk : k ≤ 7) (h : ∀ M', walkX M0 M' o t s W S (k + 1) (wPn W) → K ((k : Int) + 1 + 1) M') :
    ∀ (d p : Nat) (M : Mem), p + d = wPn W → walkX M0 M o t s W S (k + 1) p → m_X10_goThrough_L17 K Q o t ((k : Int) + 1) (d + 1) p M
  | 0, p, M, hd, hx => by
    obtain rfl : p = wPn W := by omega
    have w2 := hW.2.1
    unfold m_X10_goThrough_L17
    rw [(hT.off ho hx.1).2.2.1]
    exact ⟨by omega, by omega, fun _ => h M hx, fun q => by omega⟩
  | d + 1, p, M, hd, hx => by
    have w2 := hW.2.1
    unfold m_X10_goThrough_L17
    rw [(hT.off ho hx.1).2.2.1]
    refine ⟨by omega, by omega, fun q => by omega, fun _ => x_goal ho hT hV hW hS (by omega) hk hx fun M1 hx1 => ?_⟩
    exact x_put (k := k + 1) ho hW (by omega) (by omega) hx1 rfl (walkP_rng hS (k + 1) p (by omega)) fun M2 hx2 => x_go_in ho hT hV hW hS hk h d (p + 1) M2 (by omega) hx2
theorem walkX.next {M0 M : Mem} {o t s : Int} {W : TW} {S : TS} {k : Nat} (h : walkX M0 M o t s W S k (wPn W)) : walkX M0 M o t s W S (k + 1) 0 := by
  obtain ⟨h1, h2, h3, h4, h5, h6⟩ := h
  refine ⟨h1, h2, h3, h4, fun j q hq hj => h5 j q hq (by omega), fun j q hj hq => ?_⟩
  rw [h6 j q hj hq]
  by_cases c : j < k
  · rw [if_pos c, if_pos (by omega)]
  · rw [if_neg c]
    by_cases c2 : j = k
    · rw [if_pos c2, if_pos (by omega)]
    · rw [if_neg c2, if_neg (by omega)]
      split <;> rfl
theorem x_go_out {o t s : Int} {M0 : Mem} {Q : Mem → Prop} {W : TW} {S : TS} (ho : kd o = 10) (hT : TX M0 t W) (hV : SX M0 s W S) (hW : WOK W) (hS : SOK W S) (h : ∀ M', walkX M0 M' o t s W S 9 0 → Q M') :
    ∀ (d k : Nat) (M : Mem), k + d = 8 → walkX M0 M o t s W S (k + 1) 0 → m_X10_goThrough_L8 Q o t (d + 1) ((k : Int) + 1) M
  | 0, k, M, hd, hx => by
    obtain rfl : k = 8 := by omega
    unfold m_X10_goThrough_L8
    exact ⟨by decide, fun _ => h M hx, fun q => absurd (by decide) q⟩
  | d + 1, k, M, hd, hx => by
    unfold m_X10_goThrough_L8
    refine ⟨by omega, fun q => by omega, fun _ => ⟨wPn W + 1, ?_⟩⟩
    exact x_go_in ho hT hV hW hS (by omega) (fun M1 hx1 => x_go_out ho hT hV hW hS h d (k + 1) M1 (by omega) hx1.next) (wPn W) 0 M (by omega) hx
