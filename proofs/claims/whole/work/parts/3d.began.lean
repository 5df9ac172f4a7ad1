/-! where one began -/
def spS (S : TS) (a : Nat) (v : Int) : TS := (sDay S, sWa S, fun q => if q = a then v else sSp S q, sRe S)
theorem spS_ok {W : TW} {S : TS} {a : Nat} {v : Int} (h : SOK W S) (hv : 0 ≤ v ∧ v < wPl W) : SOK W (spS S a v) := by
  refine ⟨h.1, h.2.1, h.2.2.1, fun q hq => ?_, h.2.2.2.2⟩
  show 0 ≤ (if (q : Int) = a then v else sSp S q) ∧ (if (q : Int) = a then v else sSp S q) < _
  split
  · exact hv
  · exact h.2.2.2.1 q hq
/-- of those below n in the set B how many have g = v -/
def al (B : Nat) (g : Nat → Int) : Nat → Int → Int
  | 0, _ => 0
  | n + 1, v => al B g n v + if B.testBit n = true ∧ g n = v then 1 else 0
theorem al_rng (B : Nat) (g : Nat → Int) (v : Int) : ∀ n : Nat, 0 ≤ al B g n v ∧ al B g n v ≤ n
  | 0 => by unfold al; omega
  | n + 1 => by
    have := al_rng B g v n
    unfold al
    split <;> omega
theorem al_some {B : Nat} {g : Nat → Int} {v : Int} : ∀ {n : Nat}, al B g n v ≠ 0 → ∃ a, a < n ∧ B.testBit a = true ∧ g a = v
  | 0, h => absurd rfl h
  | n + 1, h => by
    by_cases c : B.testBit n = true ∧ g n = v
    · exact ⟨n, by omega, c⟩
    · unfold al at h
      rw [if_neg c, Int.add_zero] at h
      obtain ⟨a, a1, a2⟩ := al_some h
      exact ⟨a, by omega, a2⟩
def isMx (B : Nat) (g : Nat → Int) (n : Nat) (m : Int) : Prop := (∀ v, al B g n v ≤ m) ∧ ∃ v, al B g n v = m
theorem isMx.eq {B : Nat} {g : Nat → Int} {n : Nat} {m k : Int} (h : isMx B g n m) (j : isMx B g n k) : m = k := by
  obtain ⟨h1, v, h2⟩ := h
  obtain ⟨j1, w, j2⟩ := j
  have := h1 w
  have := j1 v
  omega
theorem isMx.rng {B : Nat} {g : Nat → Int} {n : Nat} {m : Int} (h : isMx B g n m) : 0 ≤ m ∧ m ≤ n := by
  obtain ⟨h1, v, h2⟩ := h
  have := al_rng B g v n
  omega
noncomputable def mxF (B : Nat) (g : Nat → Int) : Int := @dite Int (∃ m, isMx B g 7 m) (Classical.propDecidable _) (fun h => Classical.choose h) (fun _ => 0)
theorem mxF_eq {B : Nat} {g : Nat → Int} {m : Int} (h : isMx B g 7 m) : mxF B g = m := by
  unfold mxF
  have e : ∃ m, isMx B g 7 m := ⟨m, h⟩
  rw [dif_pos e]
  exact (Classical.choose_spec e).eq h
def vld (W : TW) (c : Nat) : Prop := 7 ≤ c ∧ c % 7 < wPl W
/-- the first least of the cells below n -/
def lsR (mo : Nat → Int) (W : TW) (n : Nat) (b l : Int) : Prop := (b = -1 ∧ ∀ c, c < n → ¬ vld W c) ∨ (∃ c : Nat, b = c ∧ c < n ∧ vld W c ∧ l = mo c ∧ (∀ e, e < n → vld W e → mo c ≤ mo e) ∧ ∀ e, e < c → vld W e → mo c < mo e)
theorem lsR.eq {mo : Nat → Int} {W : TW} {n : Nat} {b l b' l' : Int} (h : lsR mo W n b l) (k : lsR mo W n b' l') : b = b' ∧ (¬ b = -1 → l = l') := by
  rcases h with ⟨h1, h2⟩ | ⟨c, h1, h2, h3, h4, h5, h6⟩
  · rcases k with ⟨k1, k2⟩ | ⟨d, k1, k2, k3, k4, k5, k6⟩
    · exact ⟨by rw [h1, k1], fun z => absurd h1 z⟩
    · exact absurd k3 (h2 d k2)
  · rcases k with ⟨k1, k2⟩ | ⟨d, k1, k2, k3, k4, k5, k6⟩
    · exact absurd h3 (k2 c h2)
    · have : c = d := by
        rcases Nat.lt_trichotomy c d with z | z | z
        · have a := k6 c z h3
          have b := h5 d k2 k3
          omega
        · exact z
        · have a := h6 d z k3
          have b := k5 c h2 h3
          omega
      subst this
      exact ⟨by rw [h1, k1], fun _ => by rw [h4, k4]⟩
theorem lsR.ext {mo : Nat → Int} {W : TW} {n m : Nat} {b l : Int} (h : lsR mo W n b l) (hm : n ≤ m) (hv : ∀ c, n ≤ c → c < m → ¬ vld W c) : lsR mo W m b l := by
  rcases h with ⟨h1, h2⟩ | ⟨c, h1, h2, h3, h4, h5, h6⟩
  · refine Or.inl ⟨h1, fun c hc => ?_⟩
    by_cases z : c < n
    · exact h2 c z
    · exact hv c (by omega) hc
  · refine Or.inr ⟨c, h1, by omega, h3, h4, fun e he ve => ?_, h6⟩
    by_cases z : e < n
    · exact h5 e z ve
    · exact absurd ve (hv e (by omega) he)
theorem lsR.keep {mo : Nat → Int} {W : TW} {n : Nat} {b l : Int} (h : lsR mo W n b l) (hb : ¬ b = -1) (hl : l ≤ mo n) : lsR mo W (n + 1) b l := by
  rcases h with ⟨h1, h2⟩ | ⟨c, h1, h2, h3, h4, h5, h6⟩
  · exact absurd h1 hb
  · refine Or.inr ⟨c, h1, by omega, h3, h4, fun e he ve => ?_, h6⟩
    by_cases z : e < n
    · exact h5 e z ve
    · have : e = n := by omega
      subst this
      omega
theorem lsR.new {mo : Nat → Int} {W : TW} {n : Nat} {b l : Int} (h : lsR mo W n b l) (hv : vld W n) (hl : ¬ b = -1 → mo n < l) : lsR mo W (n + 1) n (mo n) := by
  refine Or.inr ⟨n, rfl, by omega, hv, rfl, fun e he ve => ?_, fun e he ve => ?_⟩
  · by_cases z : e = n
    · subst z; omega
    · rcases h with ⟨h1, h2⟩ | ⟨c, h1, h2, h3, h4, h5, h6⟩
      · exact absurd ve (h2 e (by omega))
      · have := h5 e (by omega) ve
        have := hl (by omega)
        omega
  · rcases h with ⟨h1, h2⟩ | ⟨c, h1, h2, h3, h4, h5, h6⟩
    · exact absurd ve (h2 e he)
    · have := h5 e he ve
      have := hl (by omega)
      omega
section
variable {N : Nat} {t b : Int} {p : PT} {M : Mem}
/-- how many are in a cell if a began in k -/
def gP (p : PT) (a k c : Nat) : Int := cntP (walkP (pW p) (spS (pS p) a k) (c / 7)) (wPn (pW p)) ((c % 7 : Nat) : Int)
def snP (p : PT) (a k : Nat) : Prop := ∀ j : Nat, j < (pSe p).length → cntP (walkP (pW p) (spS (pS p) a k) ((pSe p).getD j (0, 0, 0)).1.toNat) (wPn (pW p)) ((pSe p).getD j (0, 0, 0)).2.1 = ((pSe p).getD j (0, 0, 0)).2.2
noncomputable def moP (p : PT) (a B : Nat) (c : Nat) : Int := mxF B (fun k => gP p a k c)
theorem se_ok (hp : POK N p) {j : Nat} (hj : j < (pSe p).length) : 1 ≤ ((pSe p).getD j (0, 0, 0)).1 ∧ ((pSe p).getD j (0, 0, 0)).1 ≤ 8 ∧ 0 ≤ ((pSe p).getD j (0, 0, 0)).2.1 ∧ ((pSe p).getD j (0, 0, 0)).2.1 < wPl (pW p) ∧ 0 ≤ ((pSe p).getD j (0, 0, 0)).2.2 ∧ ((pSe p).getD j (0, 0, 0)).2.2 < 256 := hp.1.2.2.2.2.2.2.1 _ (getD_mem hj)
theorem x_as_s {Q : Int → Mem → Prop} {a k : Nat} (hx : IX M t p) (hp : POK N p) (hd : dayX M 57 (pW p) (spS (pS p) a k)) (h1 : snP p a k → Q 1 M) (h0 : ¬ snP p a k → Q 0 M) :
    ∀ (d j : Nat), j + d = (pSe p).length → (∀ i : Nat, i < j → cntP (walkP (pW p) (spS (pS p) a k) ((pSe p).getD i (0, 0, 0)).1.toNat) (wPn (pW p)) ((pSe p).getD i (0, 0, 0)).2.1 = ((pSe p).getD i (0, 0, 0)).2.2) → m_X0_isAsSeen_L2 Q 57 (d + 1) (3 * j : Nat) M
  | 0, j, hj, hr => by
    have l := hp.1.2.2.2.2.2.1
    have e := hx.1.2.2.2.2.2.2.1
    unfold m_X0_isAsSeen_L2
    rw [e]
    exact ⟨by omega, by omega, fun _ => h1 (fun i hi => hr i (by omega)), fun q => by omega⟩
  | d + 1, j, hj, hr => by
    have l := hp.1.2.2.2.2.2.1
    have e := hx.1.2.2.2.2.2.2.1
    have so := se_ok hp (j := j) (by omega)
    have w1 := hp.2.1.1.1
    have w2 := hp.2.1.1.2.1
    obtain ⟨r1, r2, r3⟩ := hx.1.2.2.2.2.2.2.2.1 j (by omega)
    rw [show 3 * (j : Int) = (3 * j : Nat) by omega] at r1 r2 r3
    generalize hq : (pSe p).getD j (0, 0, 0) = q at *
    have dd := hd.2 q.1.toNat q.2.1.toNat (by omega) (by omega)
    rw [step_of (by omega), step_of (by omega)] at dd
    have cr := cntP_rng (walkP (pW p) (spS (pS p) a k) q.1.toNat) q.2.1 (wPn (pW p))
    unfold m_X0_isAsSeen_L2
    rw [e, r1, r2]
    refine ⟨by omega, by omega, fun q => by omega, fun _ => ⟨by omega, by omega, x_countIn (by decide) (by omega) w2 dd ?_⟩⟩
    rw [r3]
    refine ⟨by omega, by omega, by omega, fun z => ?_, fun z => h0 (fun y => z ?_)⟩
    · have := x_as_s hx hp hd h1 h0 d (j + 1) (by omega) (fun i hi => ?_)
      · rwa [show ((3 * j : Nat) : Int) + 3 = (3 * (j + 1) : Nat) by omega]
      · by_cases c : i = j
        · subst c
          rw [hq]
          exact z
        · exact hr i (by omega)
    · have := y j (by omega)
      rw [hq] at this
      exact this
/-- what weigh keeps: all but the row of one place and the bits -/
def offB (k : Nat) (M M' : Mem) : Prop := ∀ a, a ≠ 190 + (k : Int) → M' a = M a
theorem x_we_32 {Q : Mem → Prop} {K : Int → Mem → Prop} {a k s : Nat} {M0 : Mem} (hp : POK N p) (hk : k < 7) (hs : 1 ≤ s ∧ s ≤ 8) (hd : dayX M0 57 (pW p) (spS (pS p) a k)) (h : ∀ M', offB k M0 M' → (∀ c : Nat, 7 ≤ c → c < 7 * (s + 1) → M' (190 + (k : Int)) ((c : Int) - 7) = gP p a k c) → K ((s : Int) + 1) M') :
    ∀ (d j : Nat) (M : Mem), j + d = 7 → offB k M0 M → (∀ c : Nat, 7 ≤ c → c < 7 * s + j → M (190 + (k : Int)) ((c : Int) - 7) = gP p a k c) → m_X0_weigh_L32 K Q (k : Nat) 57 (s : Nat) (d + 1) j M
  | 0, j, M, hj, h1, h2 => by
    unfold m_X0_weigh_L32
    exact ⟨by omega, fun _ => h M h1 (fun c c1 c2 => h2 c c1 (by omega)), fun q => by omega⟩
  | d + 1, j, M, hj, h1, h2 => by
    have w2 := hp.2.1.1.2.1
    have dd := hd.2 s j (by omega) (by omega)
    unfold m_X0_weigh_L32
    refine ⟨by omega, fun q => by omega, fun _ => ⟨by omega, x_countIn (by decide) (by omega) w2 (by rw [show (57 : Int) + 2 = 59 from rfl, h1 59 (by omega)]; exact dd) ⟨by omega, fun M1 e1 => ?_⟩⟩⟩
    rw [show (189 : Int) + 1 + (k : Int) = 190 + k by omega] at e1
    refine x_we_32 hp hk hs hd h d (j + 1) M1 (by omega) (fun c hc => by rw [e1, up_ne _ hc, h1 c hc]) (fun c c1 c2 => ?_)
    rw [e1]
    simp only [up_get, true_and]
    by_cases z : c = 7 * s + j
    · rw [if_pos (by omega)]
      unfold gP
      rw [z, show (7 * s + j) / 7 = s by omega, show (7 * s + j) % 7 = j by omega]
    · rw [if_neg (by omega)]
      exact h2 c c1 (by omega)
theorem x_we_23 {Q : Mem → Prop} {a k : Nat} {M0 : Mem} (hp : POK N p) (hk : k < 7) (hd : dayX M0 57 (pW p) (spS (pS p) a k)) (h : ∀ M', offB k M0 M' → (∀ c : Nat, 7 ≤ c → c < 63 → M' (190 + (k : Int)) ((c : Int) - 7) = gP p a k c) → Q M') :
    ∀ (d s : Nat) (M : Mem), s + d = 9 → 1 ≤ s → offB k M0 M → (∀ c : Nat, 7 ≤ c → c < 7 * s → M (190 + (k : Int)) ((c : Int) - 7) = gP p a k c) → m_X0_weigh_L23 Q (k : Nat) 57 (d + 1) s M
  | 0, s, M, hj, s1, h1, h2 => by
    unfold m_X0_weigh_L23
    exact ⟨by omega, fun _ => h M h1 (fun c c1 c2 => h2 c c1 (by omega)), fun q => by omega⟩
  | d + 1, s, M, hj, s1, h1, h2 => by
    unfold m_X0_weigh_L23
    refine ⟨by omega, fun q => by omega, fun _ => ⟨8, x_we_32 (M0 := M0) (s := s) hp hk (by omega) hd (fun M1 o1 r1 => ?_) 7 0 M (by omega) h1 (fun c c1 c2 => h2 c c1 (by omega))⟩⟩
    exact x_we_23 hp hk hd h d (s + 1) M1 (by omega) (by omega) o1 r1
/-- beginnings found so far -/
def bgX (M : Mem) (p : PT) (a k r : Nat) : Prop := M 187 4 = (r : Nat) ∧ isSet (snP p a) k r ∧ ∀ j : Nat, j < k → r.testBit j = true → ∀ c : Nat, 7 ≤ c → c < 63 → M (190 + (j : Int)) ((c : Int) - 7) = gP p a j c
theorem x_weigh {Q : Mem → Prop} {a k r : Nat} (hx : IX M t p) (hp : POK N p) (hk : k < wPl (pW p)) (hd : dayX M 57 (pW p) (spS (pS p) a k)) (hb : bgX M p a k r) (h : ∀ r' M', scrX M M' → (∀ c, c ≠ 187 → (c < 190 ∨ 196 < c) → M' c = M c) → (∀ i, i ≠ 4 → M' 187 i = M 187 i) → bgX M' p a (k + 1) r' → Q M') : m_X0_weigh (k : Nat) 57 M Q := by
  obtain ⟨b1, b2, b3⟩ := hb
  have w1 := hp.2.1.1.1
  have rl := b2.lt
  have r7 : 2 ^ k ≤ 2 ^ 7 := Nat.pow_le_pow_right (by decide) (by omega)
  unfold m_X0_weigh m_X0_isAsSeen
  refine ⟨by decide, by decide, _, x_as_s (a := a) (k := k) hx hp hd (fun sn => ⟨by decide, fun z => absurd z (by decide), fun _ M1 e1 => ?_⟩) (fun sn => ⟨by decide, fun _ => h r M scrX.rf (fun _ _ _ => rfl) (fun _ _ => rfl) ⟨b1, b2.n sn, fun j hj tj => b3 j ?_ tj⟩, fun z => absurd rfl z⟩) (pSe p).length 0 (by omega) (fun i hi => by omega)⟩
  · rw [b1, z_shl1 (by omega), Int.toNat_natCast, z_or (by omega) (by omega)] at e1
    have d1 : dayX M1 57 (pW p) (spS (pS p) a k) := by
      unfold dayX at *
      rw [e1, up_ne _ (by decide), up_ne _ (by decide)]
      exact hd
    refine ⟨9, x_we_23 (M0 := M1) (a := a) hp (by omega) d1 (fun M2 o2 r2 => h (r ||| 2 ^ k) M2 ?_ ?_ ?_ ⟨?_, b2.y sn, fun j hj tj c c1 c2 => ?_⟩) 8 1 M1 (by omega) (by omega) (fun _ _ => rfl) (fun c c1 c2 => by omega)⟩
    · refine ⟨fun c c1 c2 c3 c4 c5 c6 c7 => by rw [o2 c (by omega), e1, up_ne _ (by omega)], ?_⟩
      rw [o2 187 (by omega), e1]
      simp [up_get]
    · intro c c1 c2
      rw [o2 c (by omega), e1, up_ne _ c1]
    · intro i hi
      rw [o2 187 (by omega), e1]
      simp only [up_get]
      rw [if_neg (fun z => hi z.2)]
    · rw [o2 187 (by omega), e1]
      simp [up_get]
    · by_cases z : j = k
      · subst z
        exact r2 c c1 c2
      · rw [o2 _ (by omega), e1, up_ne _ (by omega)]
        refine b3 j (by omega) ?_ c c1 c2
        have := ((b2.y sn) j).mp tj
        exact (b2 j).mpr ⟨by omega, this.2⟩
  · have := (b2 j).mp tj
    exact this.1
theorem x_ma_l {Q : Int → Mem → Prop} {B : Nat} {g : Nat → Int} {c : Int} {M0 : Mem} (hB : M0 187 4 = (B : Nat)) (hB7 : B < 128) (hc : 0 ≤ c ∧ c < 56) (hg : ∀ a : Nat, a < 7 → B.testBit a = true → M0 (190 + (a : Int)) c = g a ∧ 0 ≤ g a ∧ g a < 7) (h : ∀ m M', offR 197 M0 M' → isMx B g 7 m → Q m M') :
    ∀ (d n : Nat) (m : Int) (M : Mem), n + d = 7 → offR 197 M0 M → (∀ v : Int, 0 ≤ v → v < 7 → M 197 v = al B g n v) → isMx B g n m → m_X0_mostAlike_L12 Q c (d + 1) m n M
  | 0, n, m, M, hn, h1, h2, h3 => by
    unfold m_X0_mostAlike_L12
    have : n = 7 := by omega
    subst this
    exact ⟨by decide, fun _ => h m M h1 h3, fun q => absurd (show (7 : Int) ≤ (7 : Nat) by decide) q⟩
  | d + 1, n, m, M, hn, h1, h2, h3 => by
    have e := z_bit (a := B) (k := n) (by omega) (by omega)
    have m7 := h3.rng
    unfold m_X0_mostAlike_L12 m_X0_mostAlike_J63
    rw [h1 187 (by decide), hB, e, show (189 : Int) + 1 + (n : Int) = 190 + n by omega, h1 (190 + (n : Int)) (by omega)]
    refine ⟨by omega, fun q => by omega, fun _ => ?_⟩
    cases tb : B.testBit n
    · refine ⟨by decide, fun z => absurd z (by decide), fun _ => x_ma_l hB hB7 hc hg h d (n + 1) m M (by omega) h1 (fun v v1 v2 => ?_) ?_⟩
      · rw [h2 v v1 v2]
        show _ = al B g n v + _
        rw [if_neg (fun z => by rw [tb] at z; exact absurd z.1 (by decide)), Int.add_zero]
      · have ee : ∀ v, al B g (n + 1) v = al B g n v := fun v => by
          show al B g n v + _ = _
          rw [if_neg (fun z => by rw [tb] at z; exact absurd z.1 (by decide)), Int.add_zero]
        exact ⟨fun v => by rw [ee]; exact h3.1 v, by obtain ⟨v, hv⟩ := h3.2; exact ⟨v, by rw [ee]; exact hv⟩⟩
    · obtain ⟨g1, g2, g3⟩ := hg n (by omega) tb
      rw [g1]
      refine ⟨by decide, fun _ => ⟨by omega, by omega, by omega, by omega, fun M1 e1 => ⟨by omega, ?_⟩⟩, fun z => absurd rfl z⟩
      have ee : ∀ v, al B g (n + 1) v = al B g n v + if g n = v then 1 else 0 := fun v => by
        show al B g n v + _ = _
        rw [tb]
        simp
      have a0 := al_rng B g (g n) n
      have e2 : M1 197 (g n) = al B g (n + 1) (g n) := by
        rw [e1, ee, if_pos rfl, h2 _ g2 g3]
        simp [up_get]
      rw [e2]
      have a1 := al_rng B g (g n) (n + 1)
      refine j_max (by omega) (by omega) (x_ma_l hB hB7 hc hg h d (n + 1) _ M1 (by omega) (h1.up e1) (fun v v1 v2 => ?_) ?_)
      · rw [ee, e1]
        simp only [up_get]
        by_cases z : v = g n
        · subst z
          rw [if_pos ⟨trivial, rfl⟩, if_pos rfl, h2 _ v1 v2]
        · rw [if_neg (fun y => z y.2), if_neg (fun y => z y.symm), Int.add_zero, h2 _ v1 v2]
      · obtain ⟨k1, v, k2⟩ := h3
        refine ⟨fun w => ?_, ?_⟩
        · have := k1 w
          by_cases z : g n = w
          · subst z
            split <;> omega
          · rw [ee, if_neg z]
            split <;> omega
        · by_cases z : m < al B g (n + 1) (g n)
          · rw [if_pos z]; exact ⟨g n, rfl⟩
          · rw [if_neg z]
            by_cases y : g n = v
            · subst y
              rw [ee, if_pos rfl] at z
              omega
            · exact ⟨v, by rw [ee, if_neg y]; omega⟩
theorem x_mostAlike {Q : Int → Mem → Prop} {B : Nat} {g : Nat → Int} {c : Int} (hB : M 187 4 = (B : Nat)) (hB7 : B < 128) (hc : 0 ≤ c ∧ c < 56) (hg : ∀ a : Nat, a < 7 → B.testBit a = true → M (190 + (a : Int)) c = g a ∧ 0 ≤ g a ∧ g a < 7) (h : ∀ m M', offR 197 M M' → isMx B g 7 m → Q m M') : m_X0_mostAlike c M Q := by
  unfold m_X0_mostAlike
  refine j_fill (n := 7) (by decide) (by decide) (by decide) fun M1 o1 f1 => ⟨8, x_ma_l (M0 := M1) (B := B) (g := g) (by rw [o1 187 (by decide)]; exact hB) hB7 hc (fun a ha tb => by rw [o1 _ (by omega)]; exact hg a ha tb) (fun m M2 o2 i2 => h m M2 (fun x hx => by rw [o2 x hx, o1 x hx]) i2) 7 0 0 M1 (by omega) offR.rf (fun v v1 v2 => ?_) ⟨fun v => Int.le_refl _, 0, rfl⟩⟩
  have := f1 v.toNat (by omega)
  rw [step_of v1] at this
  rw [this]
  rfl
theorem gP_b (hp : POK N p) (a k c : Nat) : 0 ≤ gP p a k c ∧ gP p a k c < 7 := by
  have w2 := hp.2.1.1.2.1
  have := cntP_rng (walkP (pW p) (spS (pS p) a k) (c / 7)) ((c % 7 : Nat) : Int) (wPn (pW p))
  unfold gP
  omega
/-- the telling cell as the class keeps it -/
def tlX (M : Mem) (v l : Int) : Prop := (v = -1 ∧ M 187 5 = -1 ∧ M 187 6 = -1 ∧ M 187 7 = -1) ∨ (∃ c : Nat, v = c ∧ M 187 5 = (c / 7 : Nat) ∧ M 187 6 = (c % 7 : Nat) ∧ M 187 7 = l ∧ 0 ≤ l)
theorem x_ft_18 {Q : Mem → Prop} {K : Int → Mem → Prop} {a B s : Nat} {M0 : Mem} (hp : POK N p) (hs : 1 ≤ s ∧ s ≤ 8) (hb : bgX M0 p a (wPl (pW p)) B) (h : ∀ v l M', (∀ c, c ≠ 187 → c ≠ 197 → M' c = M0 c) → M' 187 1 = M0 187 1 → M' 187 4 = M0 187 4 → lsR (moP p a B) (pW p) (7 * (s + 1)) v l → tlX M' v l → K ((s : Int) + 1) M') :
    ∀ (d j : Nat) (v l : Int) (M : Mem), j + d = wPl (pW p) → (∀ c, c ≠ 187 → c ≠ 197 → M c = M0 c) → M 187 1 = M0 187 1 → M 187 4 = M0 187 4 → lsR (moP p a B) (pW p) (7 * s + j) v l → tlX M v l → m_X0_findTelling_L18 K Q (wPl (pW p) : Nat) (s : Nat) (d + 1) j M
  | 0, j, v, l, M, hj, h1, h2, h3, h4, h5 => by
    have w1 := hp.2.1.1.1
    unfold m_X0_findTelling_L18
    refine ⟨by omega, by omega, fun _ => h v l M h1 h2 h3 (h4.ext (by omega) (fun c c1 c2 z => ?_)) h5, fun q => by omega⟩
    have := z.2
    omega
  | d + 1, j, v, l, M, hj, h1, h2, h3, h4, h5 => by
    have w1 := hp.2.1.1.1
    have Bl := hb.2.1.lt
    have b7 : 2 ^ wPl (pW p) ≤ 2 ^ 7 := Nat.pow_le_pow_right (by decide) w1
    have vl : vld (pW p) (7 * s + j) := ⟨by omega, by omega⟩
    unfold m_X0_findTelling_L18
    refine ⟨by omega, by omega, fun q => by omega, fun _ => ?_⟩
    refine x_mostAlike (B := B) (g := fun k => gP p a k (7 * s + j)) (by rw [h3]; exact hb.1) (by omega) (by omega) (fun k hk tb => ?_) (fun m M1 o1 i1 => ?_)
    · have kw := (hb.2.1 k).mp tb
      have := hb.2.2 k kw.1 tb (7 * s + j) (by omega) (by omega)
      rw [h1 _ (by omega) (by omega), show 7 * ((s : Int) - 1) + (j : Int) = ((7 * s + j : Nat) : Int) - 7 by omega, this]
      exact ⟨rfl, gP_b hp a k _⟩
    · have mo : moP p a B (7 * s + j) = m := mxF_eq i1
      have mr := i1.rng
      have e187 : M1 187 = M 187 := o1 187 (by decide)
      have put : (¬ v = -1 → m < l) → m_X0_findTelling_J54 K (m_X0_findTelling_L18 K Q (wPl (pW p) : Nat) (s : Nat) (d + 1)) Q (wPl (pW p) : Nat) (s : Nat) (j : Nat) m M1 := fun hl => by
        unfold m_X0_findTelling_J54 m_X0_findTelling_J70
        intro M2 e2 M3 e3 M4 e4
        have q7 : M4 187 7 = m := by rw [e4, e3, e2]; simp [up_get]
        have q5 : M4 187 5 = (s : Nat) := by rw [e4, e3]; simp [up_get]
        have q6 : M4 187 6 = (j : Nat) := by rw [e4]; simp [up_get]
        have qo : ∀ i, i ≠ 5 → i ≠ 6 → i ≠ 7 → M4 187 i = M 187 i := fun i i1 i2 i3 => by
          rw [e4, e3, e2]
          simp only [up_get]
          rw [if_neg (fun z => i2 z.2), if_neg (fun z => i1 z.2), if_neg (fun z => i3 z.2), e187]
        have := h4.new vl (fun z => by rw [mo]; exact hl z)
        rw [mo] at this
        refine x_ft_18 hp hs hb h d (j + 1) ((7 * s + j : Nat) : Int) m M4 (by omega) (fun c c1 c2 => by rw [e4, up_ne _ c1, e3, up_ne _ c1, e2, up_ne _ c1, o1 c c2, h1 c c1 c2]) (by rw [qo 1 (by decide) (by decide) (by decide), h2]) (by rw [qo 4 (by decide) (by decide) (by decide), h3]) this (Or.inr ⟨7 * s + j, rfl, ?_, ?_, q7, mr.1⟩)
        · rw [q5]; omega
        · rw [q6]; omega
      have keep : ¬ v = -1 → l ≤ m → m_X0_findTelling_L18 K Q (wPl (pW p) : Nat) (s : Nat) (d + 1) ((j : Int) + 1) M1 := fun hv hl => by
        have := h4.keep hv (by rw [mo]; exact hl)
        exact x_ft_18 hp hs hb h d (j + 1) v l M1 (by omega) (fun c c1 c2 => by rw [o1 c c2, h1 c c1 c2]) (by rw [e187, h2]) (by rw [e187, h3]) this (by unfold tlX at *; rw [e187]; exact h5)
      rw [e187]
      rcases h5 with ⟨y1, y2, y3, y4⟩ | ⟨c, y1, y2, y3, y4, y5⟩
      · rw [y4]
        exact ⟨by decide, fun _ => put (fun z => absurd y1 z), fun z => absurd rfl z⟩
      · have lm : l ≤ 7 := by
          rcases h4 with ⟨z1, z2⟩ | ⟨f, z1, z2, z3, z4, z5, z6⟩
          · omega
          · rw [z4]
            unfold moP mxF
            split
            · next hh => have := (Classical.choose_spec hh).rng; omega
            · omega
        rw [y4]
        refine ⟨by omega, fun z => by omega, fun _ => ⟨by omega, by omega, fun z => ?_, fun z => put (fun _ => by omega)⟩⟩
        exact keep (by omega) z
theorem x_ft_10 {Q : Mem → Prop} {a B : Nat} {M0 : Mem} (hp : POK N p) (hb : bgX M0 p a (wPl (pW p)) B) (h : ∀ v l M', (∀ c, c ≠ 187 → c ≠ 197 → M' c = M0 c) → M' 187 1 = M0 187 1 → M' 187 4 = M0 187 4 → lsR (moP p a B) (pW p) 63 v l → tlX M' v l → Q M') :
    ∀ (d s : Nat) (v l : Int) (M : Mem), s + d = 9 → 1 ≤ s → (∀ c, c ≠ 187 → c ≠ 197 → M c = M0 c) → M 187 1 = M0 187 1 → M 187 4 = M0 187 4 → lsR (moP p a B) (pW p) (7 * s) v l → tlX M v l → m_X0_findTelling_L10 Q (wPl (pW p) : Nat) (d + 1) s M
  | 0, s, v, l, M, hj, s1, h1, h2, h3, h4, h5 => by
    unfold m_X0_findTelling_L10
    rw [show 7 * s = 63 by omega] at h4
    exact ⟨by omega, fun _ => h v l M h1 h2 h3 h4 h5, fun q => by omega⟩
  | d + 1, s, v, l, M, hj, s1, h1, h2, h3, h4, h5 => by
    unfold m_X0_findTelling_L10
    refine ⟨by omega, fun q => by omega, fun _ => ⟨_, x_ft_18 (M0 := M0) hp (by omega) hb (fun v' l' M1 a1 a2 a3 a4 a5 => ?_) (wPl (pW p)) 0 v l M (by omega) h1 h2 h3 h4 h5⟩⟩
    exact x_ft_10 hp hb h d (s + 1) v' l' M1 (by omega) (by omega) a1 a2 a3 a4 a5
/-- what began finds -/
def bgR (p : PT) (a : Nat) (B : Nat) (v l : Int) : Prop := isSet (snP p a) (wPl (pW p)) B ∧ ((B = 0 ∧ v = -1) ∨ (B ≠ 0 ∧ lsR (moP p a B) (pW p) 63 v l))
theorem x_find {Q : Mem → Prop} {a B : Nat} (hx : IX M t p) (hp : POK N p) (hb : bgX M p a (wPl (pW p)) B) (h0 : tlX M (-1) 0) (h : ∀ v l M', IX M' t p → stX M M' → bgR p a B v l → M' 187 4 = (B : Nat) → tlX M' v l → Q M') : m_X0_findTelling (wPl (pW p) : Nat) M Q := by
  have w1 := hp.2.1.1.1
  have Bl := hb.2.1.lt
  have b7 : 2 ^ wPl (pW p) ≤ 2 ^ 7 := Nat.pow_le_pow_right (by decide) w1
  unfold m_X0_findTelling
  rw [hb.1]
  refine ⟨by omega, fun q => h (-1) 0 M hx stX.rf ⟨hb.2.1, Or.inl ⟨by omega, rfl⟩⟩ hb.1 h0, fun q => ⟨9, x_ft_10 (M0 := M) hp hb (fun v l M1 a1 a2 a3 a4 a5 => ?_) 8 1 (-1) 0 M (by omega) (by omega) (fun _ _ _ => rfl) rfl rfl (Or.inl ⟨rfl, fun c hc z => by have := z.1; omega⟩) h0⟩⟩
  have z : scrX M M1 := ⟨fun c c1 c2 c3 c4 c5 c6 c7 => a1 c (by omega) (by omega), a2⟩
  exact h v l M1 (hx.scr z) z.st ⟨hb.2.1, Or.inr ⟨by omega, a4⟩⟩ (by rw [a3]; exact hb.1) a5
theorem x_fb_l {Q : Mem → Prop} {a : Nat} {M0 : Mem} (hp : POK N p) (ha : a < wPn (pW p)) (h : ∀ B v l M', IX M' t p → stX M0 M' → bgR p a B v l → M' 187 4 = (B : Nat) → tlX M' v l → Q M') :
    ∀ (d k r : Nat) (v : Int) (M : Mem), k + d = wPl (pW p) → IX M t p → stX M0 M → SX M 46 (pW p) (spS (pS p) a v) → bgX M p a k r → tlX M (-1) 0 → m_X11_findBeginnings_L20 Q (a : Nat) (d + 1) k M
  | 0, k, r, v, M, hk, hx, s0, hs, hb, ht => by
    have w1 := hp.2.1.1.1
    unfold m_X11_findBeginnings_L20
    rw [hx.2.1.1, hx.2.1.2.2.1.2.1]
    refine ⟨hx.2.1.2.2.1.1, by omega, by omega, fun _ => ⟨hx.2.1.2.2.1.1, ?_⟩, fun q => by omega⟩
    rw [show k = wPl (pW p) by omega] at hb
    exact x_find hx hp hb ht fun v l M1 hx1 o1 b1 e1 t1 => h r v l M1 hx1 (s0.tr o1) b1 e1 t1
  | d + 1, k, r, v, M, hk, hx, s0, hs, hb, ht => by
    have w1 := hp.2.1.1.1
    have w2 := hp.2.1.1.2.1
    unfold m_X11_findBeginnings_L20
    rw [hx.2.1.1, hx.2.1.2.2.1.2.1]
    refine ⟨hx.2.1.2.2.1.1, by omega, by omega, fun q => by omega, fun _ => ⟨by omega, fun M1 e1 => ?_⟩⟩
    have z1 : offS 46 M M1 := offS.rf.up e1 (by decide)
    have hx1 := hx.scr z1.scr
    have s1 : SX M1 46 (pW p) (spS (pS p) a k) := by
      obtain ⟨h1, h2, h3, h4, h5⟩ := hs
      refine ⟨h1, ?_, ?_, fun q hq => ?_, ?_⟩
      · rw [e1, up_ne _ (by decide)]; exact h2
      · rw [e1, up_ne _ (by decide)]; exact h3
      · have h4q := h4 q hq
        rw [e1]
        show up M 47 (a : Int) (k : Int) (46 + 1) (q : Int) = if (q : Int) = a then (k : Int) else sSp (pS p) q
        simp only [up_get]
        by_cases z : (q : Int) = a
        · rw [if_pos ⟨by decide, z⟩, if_pos z]
        · rw [if_neg (fun y => z y.2), if_neg z, h4q]
          show (if (q : Int) = a then v else sSp (pS p) q) = _
          rw [if_neg z]
      · exact h5.off (by rw [e1, up_ne _ (by decide)]) (by rw [e1, up_ne _ (by decide)]) (by rw [e1, up_ne _ (by decide)]) (by rw [e1, up_ne _ (by decide)])
    have b1 : bgX M1 p a k r := by
      obtain ⟨y1, y2, y3⟩ := hb
      refine ⟨by rw [e1, up_ne _ (by decide)]; exact y1, y2, fun j hj tj c c1 c2 => ?_⟩
      rw [e1, up_ne _ (by omega)]
      exact y3 j hj tj c c1 c2
    have kt := isTown hx.2.1.2.2.1.1
    rw [hx1.2.1.1]
    refine ⟨hx.2.1.2.2.1.1, x_goThrough (by decide) hx1.2.1.2.2.1 s1 hp.2.1.1 (spS_ok hp.2.2.1.1.1 (by omega)) fun M2 o2 d2 => ?_⟩
    have hx2 := hx1.scr (o2.scr kt)
    have b2 : bgX M2 p a k r := by
      obtain ⟨y1, y2, y3⟩ := b1
      refine ⟨by rw [o2 187 (by omega) (by omega) (by omega)]; exact y1, y2, fun j hj tj c c1 c2 => ?_⟩
      rw [o2 _ (by omega) (by omega) (by omega)]
      exact y3 j hj tj c c1 c2
    refine x_weigh hx2 hp (by omega) d2 b2 fun r' M3 z3 y3 i3 b3 => ?_
    refine x_fb_l hp ha h d (k + 1) r' k M3 (by omega) (hx2.scr z3) (((s0.tr z1.scr.st).tr (o2.scr kt).st).tr z3.st) ?_ b3 ?_
    · exact (s1.off (by decide) hx.2.1.2.2.1.1 o2).rows (fun c c1 c2 => y3 c (by omega) (by omega))
    · have e187 : ∀ i, i ≠ 4 → M3 187 i = M 187 i := fun i hi => by rw [i3 i hi, o2 187 (by omega) (by omega) (by omega), e1, up_ne _ (by decide)]
      rcases ht with ⟨y1, y2, y3, y4⟩ | ⟨c, y1, y2⟩
      · exact Or.inl ⟨rfl, by rw [e187 5 (by decide), y2], by rw [e187 6 (by decide), y3], by rw [e187 7 (by decide), y4]⟩
      · omega
theorem x_findB {Q : Mem → Prop} {a : Nat} (hx : IX M t p) (hp : POK N p) (ha : a < wPn (pW p)) (h : ∀ B v l M', IX M' t p → stX M M' → bgR p a B v l → M' 187 4 = (B : Nat) → tlX M' v l → Q M') : m_X11_findBeginnings (a : Nat) M Q := by
  unfold m_X11_findBeginnings m_X0_clear
  intro M1 e1 M2 e2 M3 e3 M4 e4
  have z : scrX M M4 := ⟨fun c c1 c2 c3 c4 c5 c6 c7 => by rw [e4, up_ne _ (by omega), e3, up_ne _ (by omega), e2, up_ne _ (by omega), e1, up_ne _ (by omega)], by rw [e4, e3, e2, e1]; simp [up_get]⟩
  have q4 : M4 187 4 = 0 := by rw [e4, e3, e2, e1]; simp [up_get]
  have q5 : M4 187 5 = -1 := by rw [e4, e3, e2]; simp [up_get]
  have q6 : M4 187 6 = -1 := by rw [e4, e3]; simp [up_get]
  have q7 : M4 187 7 = -1 := by rw [e4]; simp [up_get]
  have hx4 := hx.scr z
  refine x_copy (by decide) hx4.2.2.1.1 hp.2.2.1.1.1 hp.2.1.1 (by decide) fun M5 o5 s5 _ => ⟨wPl (pW p) + 1, ?_⟩
  have e187 : M5 187 = M4 187 := o5 187 (by decide)
  refine x_fb_l (M0 := M) hp ha h (wPl (pW p)) 0 0 (sSp (pS p) a) M5 (by omega) (hx4.scr o5.scr) (z.st.tr o5.scr.st) ?_ ⟨by rw [e187, q4]; rfl, isSet.z _, fun j hj => by omega⟩ (Or.inl ⟨rfl, by rw [e187, q5], by rw [e187, q6], by rw [e187, q7]⟩)
  obtain ⟨h1, h2, h3, h4, h5⟩ := s5
  refine ⟨h1, h2, h3, fun q hq => ?_, h5⟩
  rw [h4 q hq]
  show _ = if (q : Int) = a then sSp (pS p) a else sSp (pS p) q
  split
  · next e => rw [e]
  · rfl
end
