/-! meet, round, self, empty -/
section
variable {N : Nat} {t b : Int} {p : PT} {M : Mem}
/-- two are in one place behind a step of the day -/
def togP (W : TW) (T : TS) (a c : Int) : Prop := ∃ j : Nat, 1 ≤ j ∧ j ≤ 8 ∧ walkP W T j a = walkP W T j c
theorem x_tog_l {Q : Int → Mem → Prop} {W : TW} {T : TS} {a c : Nat} (hW : WOK W) (hT : SOK W T) (ha : a < wPn W) (hc : c < wPn W) (hd : dayX M 57 W T) (h1 : togP W T a c → Q 1 M) (h0 : ¬ togP W T a c → Q 0 M) :
    ∀ (d k : Nat), k + d = 9 → 1 ≤ k → (∀ j : Nat, 1 ≤ j → j < k → ¬ walkP W T j a = walkP W T j c) → m_X10_bringsTogether_L2 Q 57 a c (d + 1) k M
  | 0, k, hk, k1, hn => by
    unfold m_X10_bringsTogether_L2
    refine ⟨by omega, fun _ => h0 ?_, fun q => by omega⟩
    rintro ⟨j, j1, j2, j3⟩
    exact hn j j1 (by omega) j3
  | d + 1, k, hk, k1, hn => by
    have w2 := hW.2.1
    have w1 := hW.1
    have g1 := walkP_rng hT k a ha
    have g2 := walkP_rng hT k c hc
    unfold m_X10_bringsTogether_L2 m_X10_spotOf
    have e1 := hd.1 k a (by omega) ha
    have e2 := hd.1 k c (by omega) hc
    refine ⟨by omega, fun q => by omega, fun _ => ⟨by decide, by omega, by decide, by omega, ?_⟩⟩
    rw [e1, e2]
    refine ⟨by omega, by omega, fun q => h1 ⟨k, k1, by omega, q⟩, fun q => ?_⟩
    refine x_tog_l hW hT ha hc hd h1 h0 d (k + 1) (by omega) (by omega) (fun j j1 j2 => ?_)
    by_cases z : j = k
    · subst z; exact q
    · exact hn j j1 (by omega)
theorem x_tog {Q : Int → Mem → Prop} {W : TW} {T : TS} {a c : Nat} (hW : WOK W) (hT : SOK W T) (ha : a < wPn W) (hc : c < wPn W) (hd : dayX M 57 W T) (h1 : togP W T a c → Q 1 M) (h0 : ¬ togP W T a c → Q 0 M) : m_X10_bringsTogether 57 a c M Q :=
  ⟨by decide, 9, x_tog_l hW hT ha hc hd h1 h0 8 1 (by omega) (by omega) (fun j j1 j2 => by omega)⟩
theorem y_tog_l {Q : Int → Mem → Prop} {W : TW} {T : TS} {a c : Nat} (hW : WOK W) (hT : SOK W T) (ha : a < wPn W) (hc : c < wPn W) (hd : rowsY M W T 9 0) (h1 : togP W T a c → Q 1 M) (h0 : ¬ togP W T a c → Q 0 M) :
    ∀ (d k : Nat), k + d = 9 → 1 ≤ k → (∀ j : Nat, 1 ≤ j → j < k → ¬ walkP W T j a = walkP W T j c) → m_X12_areTogether_L2 Q a c (d + 1) k M
  | 0, k, hk, k1, hn => by
    unfold m_X12_areTogether_L2
    refine ⟨by omega, fun _ => h0 ?_, fun q => by omega⟩
    rintro ⟨j, j1, j2, j3⟩
    exact hn j j1 (by omega) j3
  | d + 1, k, hk, k1, hn => by
    have w2 := hW.2.1
    have w1 := hW.1
    have g1 := walkP_rng hT k a ha
    have g2 := walkP_rng hT k c hc
    unfold m_X12_areTogether_L2
    have e1 := hd k a ha (by omega)
    have e2 := hd k c hc (by omega)
    rw [e1, e2]
    refine ⟨by omega, fun q => by omega, fun _ => ⟨by omega, by omega, by omega, by omega, fun q => h1 ⟨k, k1, by omega, q⟩, fun q => ?_⟩⟩
    refine y_tog_l hW hT ha hc hd h1 h0 d (k + 1) (by omega) (by omega) (fun j j1 j2 => ?_)
    by_cases z : j = k
    · subst z; exact q
    · exact hn j j1 (by omega)
theorem y_tog {Q : Int → Mem → Prop} {W : TW} {T : TS} {a c : Nat} (hW : WOK W) (hT : SOK W T) (ha : a < wPn W) (hc : c < wPn W) (hd : rowsY M W T 9 0) (h1 : togP W T a c → Q 1 M) (h0 : ¬ togP W T a c → Q 0 M) : m_X12_areTogether a c M Q :=
  ⟨9, y_tog_l hW hT ha hc hd h1 h0 8 1 (by omega) (by omega) (fun j j1 j2 => by omega)⟩
def mtP (p : PT) (a c : Nat) (k : Nat) : Prop := togP (pW p) (itP (pW p) (pS p) (k - 1)) a c
def most (p : PT) : Nat := (if 999 - sDay (pS p) < 40 then 999 - sDay (pS p) else 40).toNat
theorem most_le (hp : POK N p) : most p ≤ 40 ∧ sDay (pS p) + most p ≤ 999 ∧ (if 999 - sDay (pS p) < 40 then 999 - sDay (pS p) else 40) = (most p : Int) ∧ (∀ k : Int, (k ≤ 40 ∧ k ≤ 999 - sDay (pS p)) ↔ k ≤ most p) := by
  have d1 := hp.2.2.1.1.1.1
  have d2 := hp.2.2.1.1.1.2.1
  unfold most
  split
  · exact ⟨by omega, by omega, by omega, fun k => by omega⟩
  · exact ⟨by omega, by omega, by omega, fun k => by omega⟩
theorem x_meet_l {Q : Int → Mem → Prop} {a c : Nat} {M0 : Mem} (hp : POK N p) (ha : a < wPn (pW p)) (hc : c < wPn (pW p)) (h : ∀ r M', IX M' t p → stX M0 M' → frR (mtP p a c) (most p) r → Q r M') :
    ∀ (d k : Nat) (M : Mem), k + d = most p + 1 → 1 ≤ k → IX M t p → stX M0 M → SX M 46 (pW p) (itP (pW p) (pS p) (k - 1)) → (∀ j, 1 ≤ j → j < k → ¬ mtP p a c j) → m_X11_meet_L42 Q a c (most p) (d + 1) k M
  | 0, k, M, hk, k1, hx, s0, hs, hn => by
    have m1 := most_le hp
    unfold m_X11_meet_L42
    exact ⟨by omega, by omega, fun _ => h _ M hx s0 (Or.inl ⟨rfl, fun j j1 j2 => hn j j1 (by omega)⟩), fun q => by omega⟩
  | d + 1, k, M, hk, k1, hx, s0, hs, hn => by
    have m1 := most_le hp
    have ok := itP_ok hp.2.2.1.1.1 (k - 1) (by omega)
    unfold m_X11_meet_L42
    refine ⟨by omega, by omega, fun q => by omega, fun _ => ?_⟩
    refine x_day46 hx hp hs ok fun M1 hx1 o1 s1 d1 => x_tog hp.2.1.1 ok ha hc d1 (fun z => ?_) (fun z => ?_)
    · exact ⟨by decide, fun z => absurd z (by decide), fun _ => h _ M1 hx1 (s0.tr o1) (Or.inr ⟨k, rfl, k1, by omega, z, hn⟩)⟩
    · refine ⟨by decide, fun _ => x_pass46 hx1 hp s1 d1 fun M2 hx2 o2 s2 => ?_, fun z => absurd rfl z⟩
      refine x_meet_l hp ha hc h d (k + 1) M2 (by omega) (by omega) hx2 ((s0.tr o1).tr o2) ?_ (fun j j1 j2 => ?_)
      · have : k + 1 - 1 = (k - 1) + 1 := by omega
        rw [this]; exact s2
      · by_cases y : j = k
        · subst y; exact z
        · exact hn j j1 (by omega)
theorem y_meet_l {Q : Int → Mem → Prop} {a c : Nat} {M0 : Mem} (hp : POK N p) (ha : a < wPn (pW p)) (hc : c < wPn (pW p)) (h : ∀ r M', IY M' b p → stY M0 M' → frR (mtP p a c) (most p) r → Q r M') :
    ∀ (d k : Nat) (M : Mem) (kp : List (Int × Int × Int)), k + d = most p + 1 → 1 ≤ k → IY M b p → stY M0 M → SY M 1 (pW p) (itP (pW p) (pS p) (k - 1)) → KY M 1 kp → (∀ j, 1 ≤ j → j < k → ¬ mtP p a c j) → m_X12_meet_L31 Q a c (d + 1) k M
  | 0, k, M, kp, hk, k1, hy, s0, hs, hkp, hn => by
    have m1 := most_le hp
    have m2 := m1.2.2.2 k
    unfold m_X12_meet_L31
    exact y_isAhead hy hp (by omega) (by decide) rfl (fun _ _ _ => by omega) (fun _ => ⟨by decide, fun _ => h _ M hy s0 (Or.inl ⟨rfl, fun j j1 j2 => hn j j1 (by omega)⟩), fun z => absurd rfl z⟩)
  | d + 1, k, M, kp, hk, k1, hy, s0, hs, hkp, hn => by
    have m1 := most_le hp
    have m2 := m1.2.2.2 k
    have ok := itP_ok hp.2.2.1.1.1 (k - 1) (by omega)
    unfold m_X12_meet_L31
    refine y_isAhead hy hp (by omega) (by decide) rfl (fun _ _ _ => ⟨by decide, fun z => absurd z (by decide), fun _ => ?_⟩) (fun z => by omega)
    refine y_pass1 hy hp hs ok hkp fun M1 hy1 o1 s1 k1' d1 => y_tog hp.2.1.1 ok ha hc d1 (fun z => ?_) (fun z => ?_)
    · exact ⟨by decide, fun z => absurd z (by decide), fun _ => h _ M1 hy1 (s0.tr o1) (Or.inr ⟨k, rfl, k1, by omega, z, hn⟩)⟩
    · refine ⟨by decide, fun _ => ?_, fun z => absurd rfl z⟩
      refine y_meet_l hp ha hc h d (k + 1) M1 _ (by omega) (by omega) hy1 (s0.tr o1) ?_ k1' (fun j j1 j2 => ?_)
      · have : k + 1 - 1 = (k - 1) + 1 := by omega
        rw [this]; exact s1
      · by_cases y : j = k
        · subst y; exact z
        · exact hn j j1 (by omega)
theorem s_meet {a c : Int} (hi : Inv N M) (ha : inI a) (hc : inI c) : m_X11_meet a c M (fun r1 M1 => m_X12_meet a c M1 (fun r2 M2 => Good N r1 r2 M2)) := by
  obtain ⟨t, b, p, hp, hx, hy⟩ := hi
  have m1 := most_le hp
  have hno : ¬ ((0 ≤ a ∧ a < wPn (pW p)) ∧ (0 ≤ c ∧ c < wPn (pW p)) ∧ ¬ a = c) → m_X12_meet a c M (fun r2 M2 => Good N (-1) r2 M2) := fun q => by
    unfold m_X12_meet m_X12_meet_J21
    refine y_isPerson hy hp ha (fun q1 q2 => ⟨by decide, fun z => absurd z (by decide), fun _ => ?_⟩) (fun _ => ⟨by decide, fun _ => fin hp hx hy (by decide), fun z => absurd rfl z⟩)
    refine y_isPerson hy hp hc (fun q3 q4 => ⟨by decide, fun z => absurd z (by decide), fun _ => ?_⟩) (fun _ => ⟨by decide, fun _ => fin hp hx hy (by decide), fun z => absurd rfl z⟩)
    exact ⟨ha, hc, fun _ => fin hp hx hy (by decide), fun z => absurd ⟨⟨q1, q2⟩, ⟨q3, q4⟩, z⟩ q⟩
  unfold m_X11_meet m_X11_meet_J21
  refine x_isPerson hx hp ha (fun q1 q2 => ⟨by decide, fun z => absurd z (by decide), fun _ => ?_⟩) (fun q => ⟨by decide, fun _ => hno (fun z => q z.1), fun z => absurd rfl z⟩)
  refine x_isPerson hx hp hc (fun q3 q4 => ⟨by decide, fun z => absurd z (by decide), fun _ => ⟨ha, hc, fun q => hno (fun z => z.2.2 q), fun q5 => ?_⟩⟩) (fun q => ⟨by decide, fun _ => hno (fun z => q z.2.1), fun z => absurd rfl z⟩)
  obtain ⟨n, rfl⟩ : ∃ n : Nat, a = n := ⟨a.toNat, by omega⟩
  obtain ⟨k, rfl⟩ : ∃ n : Nat, c = n := ⟨c.toNat, by omega⟩
  refine x_daysAhead hx hp ?_
  rw [m1.2.2.1]
  refine x_copy46 hx hp fun M1 hx1 o1 s1 => ⟨most p + 1, x_meet_l (M0 := M) hp (by omega) (by omega) (fun r M2 hx2 o2 f2 => ?_) (most p) 1 M1 (by omega) (by omega) hx1 o1 s1 (fun j j1 j2 => by omega)⟩
  have hy2 := hy.st o2
  unfold m_X12_meet m_X12_meet_J21
  refine y_isPerson hy2 hp ha (fun _ _ => ⟨by decide, fun z => absurd z (by decide), fun _ => ?_⟩) (fun q => by omega)
  refine y_isPerson hy2 hp hc (fun _ _ => ⟨by decide, fun z => absurd z (by decide), fun _ => ⟨ha, hc, fun z => absurd z q5, fun _ => ?_⟩⟩) (fun q => by omega)
  refine y_copy1 hy2 hp fun M3 hy3 o3 s3 k3 => ⟨most p + 1, y_meet_l (M0 := M2) hp (by omega) (by omega) (fun r' M4 hy4 o4 f4 => ?_) (most p) 1 M3 _ (by omega) (by omega) hy3 o3 s3 k3 (fun j j1 j2 => by omega)⟩
  rw [f4.eq f2]
  exact fin hp (hx2.st o4) hy4 (f2.I (by omega))
/-! round -/
def asP (W : TW) (S T : TS) : Prop := ∀ q : Nat, q < wPn W → sSp T q = sSp S q
theorem x_as_l {Q : Int → Mem → Prop} {W : TW} {S T : TS} (hW : WOK W) (hT : SOK W T) (hS : SOK W S) (s1 : SX M 40 W S) (s2 : SX M 46 W T) (h1 : asP W S T → Q 1 M) (h0 : ¬ asP W S T → Q 0 M) :
    ∀ (d k : Nat), k + d = wPn W → (∀ j : Nat, j < k → sSp T j = sSp S j) → m_X6_hasSpotsOf_L2 Q 46 40 (wPn W : Nat) (d + 1) k M
  | 0, k, hk, hn => by
    have w2 := hW.2.1
    unfold m_X6_hasSpotsOf_L2
    exact ⟨by omega, by omega, fun _ => h1 (fun q hq => hn q (by omega)), fun q => by omega⟩
  | d + 1, k, hk, hn => by
    have w2 := hW.2.1
    have w1 := hW.1
    have g1 := hT.2.2.2.1 k (by omega)
    have g2 := hS.2.2.2.1 k (by omega)
    unfold m_X6_hasSpotsOf_L2
    rw [s1.2.2.2.1 k (by omega), s2.2.2.2.1 k (by omega)]
    refine ⟨by omega, by omega, fun q => by omega, fun _ => ⟨by omega, by omega, by omega, by omega, fun q => ?_, fun q => h0 (fun z => q (z k (by omega)))⟩⟩
    refine x_as_l hW hT hS s1 s2 h1 h0 d (k + 1) (by omega) (fun j j2 => ?_)
    by_cases z : j = k
    · subst z; exact q
    · exact hn j (by omega)
theorem y_as_l {Q : Int → Mem → Prop} {W : TW} {S T : TS} (hT' : TY M b W) (hb : M 199 13 = b) (hW : WOK W) (hT : SOK W T) (hS : SOK W S) (s1 : SY M 0 W S) (s2 : SY M 1 W T) (h1 : asP W S T → Q 1 M) (h0 : ¬ asP W S T → Q 0 M) :
    ∀ (d k : Nat), k + d = wPn W → (∀ j : Nat, j < k → sSp T j = sSp S j) → m_X12_isAsNow_L2 Q (d + 1) k M
  | 0, k, hk, hn => by
    have w2 := hW.2.1
    have b1 := hT'.1
    unfold m_X12_isAsNow_L2
    rw [hb, hT'.2.2.1]
    exact ⟨by omega, by omega, by omega, fun _ => h1 (fun q hq => hn q (by omega)), fun q => by omega⟩
  | d + 1, k, hk, hn => by
    have w2 := hW.2.1
    have b1 := hT'.1
    have w1 := hW.1
    have g1 := hT.2.2.2.1 k (by omega)
    have g2 := hS.2.2.2.1 k (by omega)
    have e1 := s1.2.2.2.1 k (by omega)
    have e2 := s2.2.2.2.1 k (by omega)
    rw [show 6 * (0 : Int) + k = k by omega] at e1
    rw [show 6 * (1 : Int) + k = 6 + k by omega] at e2
    unfold m_X12_isAsNow_L2
    rw [hb, hT'.2.2.1, e1, e2]
    refine ⟨by omega, by omega, by omega, fun q => by omega, fun _ => ⟨by omega, by omega, by omega, by omega, fun q => ?_, fun q => h0 (fun z => q (z k (by omega)))⟩⟩
    refine y_as_l hT' hb hW hT hS s1 s2 h1 h0 d (k + 1) (by omega) (fun j j2 => ?_)
    by_cases z : j = k
    · subst z; exact q
    · exact hn j (by omega)
def rdP (p : PT) (k : Nat) : Prop := asP (pW p) (pS p) (itP (pW p) (pS p) k)
theorem x_round_l {Q : Int → Mem → Prop} {M0 : Mem} (hp : POK N p) (h : ∀ r M', IX M' t p → stX M0 M' → frR (rdP p) (most p) r → Q r M') :
    ∀ (d k : Nat) (M : Mem), k + d = most p + 1 → 1 ≤ k → IX M t p → stX M0 M → SX M 46 (pW p) (itP (pW p) (pS p) (k - 1)) → (∀ j, 1 ≤ j → j < k → ¬ rdP p j) → m_X11_round_L18 Q (most p) (d + 1) k M
  | 0, k, M, hk, k1, hx, s0, hs, hn => by
    have m1 := most_le hp
    unfold m_X11_round_L18
    exact ⟨by omega, by omega, fun _ => h _ M hx s0 (Or.inl ⟨rfl, fun j j1 j2 => hn j j1 (by omega)⟩), fun q => by omega⟩
  | d + 1, k, M, hk, k1, hx, s0, hs, hn => by
    have m1 := most_le hp
    have ok := itP_ok hp.2.2.1.1.1 (k - 1) (by omega)
    have ok2 := itP_ok hp.2.2.1.1.1 k (by omega)
    have kk : itP (pW p) (pS p) k = passP (pW p) (itP (pW p) (pS p) (k - 1)) := by
      obtain ⟨j, rfl⟩ : ∃ j, k = j + 1 := ⟨k - 1, by omega⟩
      rfl
    unfold m_X11_round_L18
    refine ⟨by omega, by omega, fun q => by omega, fun _ => ?_⟩
    refine x_day46 hx hp hs ok fun M1 hx1 o1 s1 d1 => x_pass46 hx1 hp s1 d1 fun M2 hx2 o2 s2 => ?_
    rw [← kk] at s2
    rw [hx2.2.1.1, hx2.2.1.2.2.1.2.2.1]
    refine ⟨hx2.2.1.2.2.1.1, by decide, by decide, _, x_as_l hp.2.1.1 ok2 hp.2.2.1.1.1 hx2.2.2.1.1 s2 (fun z => ?_) (fun z => ?_) (wPn (pW p)) 0 (by omega) (fun j hj => by omega)⟩
    · exact ⟨by decide, fun z => absurd z (by decide), fun _ => h _ M2 hx2 ((s0.tr o1).tr o2) (Or.inr ⟨k, rfl, k1, by omega, z, hn⟩)⟩
    · refine ⟨by decide, fun _ => ?_, fun z => absurd rfl z⟩
      refine x_round_l hp h d (k + 1) M2 (by omega) (by omega) hx2 ((s0.tr o1).tr o2) s2 (fun j j1 j2 => ?_)
      by_cases y : j = k
      · subst y; exact z
      · exact hn j j1 (by omega)
theorem y_round_l {Q : Int → Mem → Prop} {M0 : Mem} (hp : POK N p) (h : ∀ r M', IY M' b p → stY M0 M' → frR (rdP p) (most p) r → Q r M') :
    ∀ (d k : Nat) (M : Mem) (kp : List (Int × Int × Int)), k + d = most p + 1 → 1 ≤ k → IY M b p → stY M0 M → SY M 1 (pW p) (itP (pW p) (pS p) (k - 1)) → KY M 1 kp → (∀ j, 1 ≤ j → j < k → ¬ rdP p j) → m_X12_round_L8 Q (d + 1) k M
  | 0, k, M, kp, hk, k1, hy, s0, hs, hkp, hn => by
    have m1 := most_le hp
    have m2 := m1.2.2.2 k
    unfold m_X12_round_L8
    exact y_isAhead hy hp (by omega) (by decide) rfl (fun _ _ _ => by omega) (fun _ => ⟨by decide, fun _ => h _ M hy s0 (Or.inl ⟨rfl, fun j j1 j2 => hn j j1 (by omega)⟩), fun z => absurd rfl z⟩)
  | d + 1, k, M, kp, hk, k1, hy, s0, hs, hkp, hn => by
    have m1 := most_le hp
    have m2 := m1.2.2.2 k
    have ok := itP_ok hp.2.2.1.1.1 (k - 1) (by omega)
    have ok2 := itP_ok hp.2.2.1.1.1 k (by omega)
    have kk : itP (pW p) (pS p) k = passP (pW p) (itP (pW p) (pS p) (k - 1)) := by
      obtain ⟨j, rfl⟩ : ∃ j, k = j + 1 := ⟨k - 1, by omega⟩
      rfl
    unfold m_X12_round_L8
    refine y_isAhead hy hp (by omega) (by decide) rfl (fun _ _ _ => ⟨by decide, fun z => absurd z (by decide), fun _ => ?_⟩) (fun z => by omega)
    refine y_pass1 hy hp hs ok hkp fun M1 hy1 o1 s1 k1' d1 => ?_
    rw [← kk] at s1
    refine ⟨_, y_as_l hy1.2.1.2.1 hy1.2.1.1 hp.2.1.1 ok2 hp.2.2.1.1.1 hy1.2.2.1.1 s1 (fun z => ?_) (fun z => ?_) (wPn (pW p)) 0 (by omega) (fun j hj => by omega)⟩
    · exact ⟨by decide, fun z => absurd z (by decide), fun _ => h _ M1 hy1 (s0.tr o1) (Or.inr ⟨k, rfl, k1, by omega, z, hn⟩)⟩
    · refine ⟨by decide, fun _ => ?_, fun z => absurd rfl z⟩
      refine y_round_l hp h d (k + 1) M1 _ (by omega) (by omega) hy1 (s0.tr o1) s1 k1' (fun j j1 j2 => ?_)
      by_cases y : j = k
      · subst y; exact z
      · exact hn j j1 (by omega)
theorem s_round (hi : Inv N M) : m_X11_round M (fun r1 M1 => m_X12_round M1 (fun r2 M2 => Good N r1 r2 M2)) := by
  obtain ⟨t, b, p, hp, hx, hy⟩ := hi
  have m1 := most_le hp
  unfold m_X11_round
  refine x_daysAhead hx hp ?_
  rw [m1.2.2.1]
  refine x_copy46 hx hp fun M1 hx1 o1 s1 => ⟨most p + 1, x_round_l (M0 := M) hp (fun r M2 hx2 o2 f2 => ?_) (most p) 1 M1 (by omega) (by omega) hx1 o1 s1 (fun j j1 j2 => by omega)⟩
  have hy2 := hy.st o2
  refine y_copy1 hy2 hp fun M3 hy3 o3 s3 k3 => ⟨most p + 1, y_round_l (M0 := M2) hp (fun r' M4 hy4 o4 f4 => ?_) (most p) 1 M3 _ (by omega) (by omega) hy3 o3 s3 k3 (fun j j1 j2 => by omega)⟩
  rw [f4.eq f2]
  exact fin hp (hx2.st o4) hy4 (f2.I (by omega))
end
