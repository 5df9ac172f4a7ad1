/-! where one began, by the model -/
section
variable {N : Nat} {t b : Int} {p : PT} {M : Mem}
/-- what the model keeps of the cells -/
def bgY (M : Mem) (p : PT) (a k : Nat) : Prop := ∀ j : Nat, j < k → ∀ c : Nat, vld (pW p) c → c < 63 → M 240 (63 * (j : Int) + c) = gP p a j c
theorem y_bb_127 {Q : Int → Mem → Prop} {K : Int → Int → Mem → Prop} {K2 : Int → Mem → Prop} {a k s : Nat} {v1 v2 : Int} {M0 : Mem} (hy : IY M0 b p) (hp : POK N p) (hk : k < wPl (pW p)) (hs : 1 ≤ s ∧ s ≤ 8) (hd : rowsY M0 (pW p) (spS (pS p) a k) 9 0) (h : ∀ M', offR 240 M0 M' → bgY M' p a k → (∀ c : Nat, vld (pW p) c → c < 7 * (s + 1) → M' 240 (63 * (k : Int) + c) = gP p a k c) → K2 ((s : Int) + 1) M') :
    ∀ (d j : Nat) (M : Mem), j + d = wPl (pW p) → offR 240 M0 M → bgY M p a k → (∀ c : Nat, vld (pW p) c → c < 7 * s + j → M 240 (63 * (k : Int) + c) = gP p a k c) → m_X12_beganBits_L127 K K2 Q v1 v2 (k : Nat) (s : Nat) (d + 1) j M
  | 0, j, M, hj, h1, hb, h2 => by
    have w1 := hp.2.1.1.1
    have b1 := hy.2.1.2.1.1
    unfold m_X12_beganBits_L127
    rw [h1 199 (by decide), h1 201 (by decide), hy.2.1.1, hy.2.1.2.1.2.1]
    refine ⟨by omega, by omega, by omega, fun _ => h M h1 hb (fun c c1 c2 => h2 c c1 ?_), fun q => by omega⟩
    have := c1.2
    omega
  | d + 1, j, M, hj, h1, hb, h2 => by
    have w1 := hp.2.1.1.1
    have b1 := hy.2.1.2.1.1
    have hT : TY M b (pW p) := hy.2.1.2.1.off (fun c c1 c2 => h1 c (by omega))
    have hd1 : rowsY M (pW p) (spS (pS p) a k) 9 0 := fun i q x y => by rw [h1 236 (by decide)]; exact hd i q x y
    unfold m_X12_beganBits_L127
    rw [h1 199 (by decide), h1 201 (by decide), hy.2.1.1, hy.2.1.2.1.2.1]
    refine ⟨by omega, by omega, by omega, fun q => by omega, fun _ => ?_⟩
    refine y_manyD hT (by rw [h1 199 (by decide)]; exact hy.2.1.1) hp.2.1.1 (spS_ok hp.2.2.1.1.1 (by omega)) hd1 (by omega) (by omega) ⟨by omega, fun M1 e1 => ?_⟩
    rw [Int.toNat_natCast] at e1
    refine y_bb_127 hy hp hk hs hd h d (j + 1) M1 (by omega) (h1.up e1) (fun i hi c c1 c2 => ?_) (fun c c1 c2 => ?_)
    · have c7 := c1.1
      rw [e1]
      simp only [up_get, true_and]
      rw [if_neg (by omega)]
      exact hb i hi c c1 c2
    · rw [e1]
      simp only [up_get, true_and]
      by_cases z : c = 7 * s + j
      · rw [if_pos (by omega)]
        unfold gP
        rw [z, show (7 * s + j) / 7 = s by omega, show (7 * s + j) % 7 = j by omega]
      · rw [if_neg (by omega)]
        exact h2 c c1 (by omega)
theorem y_bb_117 {Q : Int → Mem → Prop} {K : Int → Int → Mem → Prop} {a k : Nat} {v1 v2 : Int} {M0 : Mem} (hy : IY M0 b p) (hp : POK N p) (hk : k < wPl (pW p)) (hd : rowsY M0 (pW p) (spS (pS p) a k) 9 0) (h : ∀ M', offR 240 M0 M' → bgY M' p a (k + 1) → K v2 ((k : Int) + 1) M') :
    ∀ (d s : Nat) (M : Mem), s + d = 9 → 1 ≤ s → offR 240 M0 M → bgY M p a k → (∀ c : Nat, vld (pW p) c → c < 7 * s → M 240 (63 * (k : Int) + c) = gP p a k c) → m_X12_beganBits_L117 K Q v1 v2 (k : Nat) (d + 1) s M
  | 0, s, M, hj, s1, h1, hb, h2 => by
    unfold m_X12_beganBits_L117
    refine ⟨by omega, fun _ => h M h1 (fun i hi c c1 c2 => ?_), fun q => by omega⟩
    by_cases z : i = k
    · subst z; exact h2 c c1 (by omega)
    · exact hb i (by omega) c c1 c2
  | d + 1, s, M, hj, s1, h1, hb, h2 => by
    unfold m_X12_beganBits_L117
    refine ⟨by omega, fun q => by omega, fun _ => ⟨wPl (pW p) + 1, y_bb_127 (M0 := M0) hy hp hk (by omega) hd (fun M1 o1 b1 r1 => ?_) (wPl (pW p)) 0 M (by omega) h1 hb (fun c c1 c2 => h2 c c1 (by omega))⟩⟩
    exact y_bb_117 hy hp hk hd h d (s + 1) M1 (by omega) (by omega) o1 b1 r1
theorem y_bb_44 {Q : Int → Mem → Prop} {K : Int → Int → Mem → Prop} {a k r : Nat} {v1 : Int} (hy : IY M b p) (hp : POK N p) (hk : k < wPl (pW p)) (hd : rowsY M (pW p) (spS (pS p) a k) 9 0) (h1 : snP p a k → m_X12_beganBits_J112 K Q v1 (k : Nat) (r : Nat) (zshl 1 (k : Nat)) M) (h0 : ¬ snP p a k → m_X12_beganBits_J112 K Q v1 (k : Nat) (r : Nat) 0 M) :
    ∀ (d j : Nat) (f : Int), j + d = (pSe p).length → (f = 1 ∧ (∀ i : Nat, i < j → cntP (walkP (pW p) (spS (pS p) a k) ((pSe p).getD i (0, 0, 0)).1.toNat) (wPn (pW p)) ((pSe p).getD i (0, 0, 0)).2.1 = ((pSe p).getD i (0, 0, 0)).2.2)) ∨ (f = 0 ∧ ¬ snP p a k) → m_X12_beganBits_L44 K Q v1 (r : Nat) (k : Nat) (d + 1) f j M
  | 0, j, f, hj, hr => by
    have l := hp.1.2.2.2.2.2.1
    have e := hy.1.2.2.2.2.2.1
    unfold m_X12_beganBits_L44
    rw [e]
    refine ⟨by omega, by omega, fun _ => ⟨by omega, fun z => ?_, fun z => ?_⟩, fun q => by omega⟩
    · rcases hr with ⟨r1, r2⟩ | ⟨r1, r2⟩
      · omega
      · exact h0 r2
    · rcases hr with ⟨r1, r2⟩ | ⟨r1, r2⟩
      · exact h1 (fun i hi => r2 i (by omega))
      · omega
  | d + 1, j, f, hj, hr => by
    have l := hp.1.2.2.2.2.2.1
    have e := hy.1.2.2.2.2.2.1
    have so := se_ok hp (j := j) (by omega)
    have w1 := hp.2.1.1.1
    have w2 := hp.2.1.1.2.1
    obtain ⟨r1, r2, r3⟩ := hy.1.2.2.2.2.2.2.1 j (by omega)
    have cr := cntP_rng (walkP (pW p) (spS (pS p) a k) ((pSe p).getD j (0, 0, 0)).1.toNat) ((pSe p).getD j (0, 0, 0)).2.1 (wPn (pW p))
    unfold m_X12_beganBits_L44 m_X12_beganBits_J90 m_X12_beganBits_J91
    rw [e, r1, r2]
    refine ⟨by omega, by omega, fun q => by omega, fun _ => ⟨by omega, fun z => ?_, fun z => ⟨by omega, by omega, ?_⟩⟩⟩
    · rcases hr with ⟨q1, q2⟩ | ⟨q1, q2⟩
      · omega
      · exact y_bb_44 hy hp hk hd h1 h0 d (j + 1) 0 (by omega) (Or.inr ⟨rfl, q2⟩)
    · rcases hr with ⟨q1, q2⟩ | ⟨q1, q2⟩
      · refine y_manyD hy.2.1.2.1 hy.2.1.1 hp.2.1.1 (spS_ok hp.2.2.1.1.1 (by omega)) hd (by omega) (by omega) ?_
        rw [r3]
        refine ⟨by omega, by omega, by omega, fun y => ?_, fun y => ?_⟩
        · refine y_bb_44 hy hp hk hd h1 h0 d (j + 1) 1 (by omega) (Or.inl ⟨rfl, fun i hi => ?_⟩)
          by_cases c : i = j
          · subst c; exact y
          · exact q2 i (by omega)
        · exact y_bb_44 hy hp hk hd h1 h0 d (j + 1) 0 (by omega) (Or.inr ⟨rfl, fun s => y (s j (by omega))⟩)
      · omega
theorem y_bb_4 {Q : Int → Mem → Prop} {a : Nat} {M0 : Mem} (hp : POK N p) (ha : a < wPn (pW p)) (h : ∀ (r : Nat) M', IY M' b p → stY M0 M' → isSet (snP p a) (wPl (pW p)) r → bgY M' p a (wPl (pW p)) → Q r M') :
    ∀ (d k r : Nat) (M : Mem), k + d = wPl (pW p) → IY M b p → stY M0 M → isSet (snP p a) k r → bgY M p a k → m_X12_beganBits_L4 Q (a : Nat) (d + 1) r k M
  | 0, k, r, M, hk, hy, s0, hr, hb => by
    have w1 := hp.2.1.1.1
    have b1 := hy.2.1.2.1.1
    unfold m_X12_beganBits_L4
    rw [hy.2.1.1, hy.2.1.2.1.2.1]
    refine ⟨by omega, by omega, by omega, fun _ => ?_, fun q => by omega⟩
    rw [show k = wPl (pW p) by omega] at hr hb
    exact h r M hy s0 hr hb
  | d + 1, k, r, M, hk, hy, s0, hr, hb => by
    have w1 := hp.2.1.1.1
    have w2 := hp.2.1.1.2.1
    have b1 := hy.2.1.2.1.1
    have rl := hr.lt
    have r7 : 2 ^ k ≤ 2 ^ 7 := Nat.pow_le_pow_right (by decide) (by omega)
    unfold m_X12_beganBits_L4
    rw [hy.2.1.1, hy.2.1.2.1.2.1]
    refine ⟨by omega, by omega, by omega, fun q => by omega, fun _ => ?_⟩
    refine y_copies (by decide) (by decide) hy.2.2.1.1 hp.2.2.1.1.1 hp.2.1.1 hy.2.2.1.2 fun M1 o1 s1 k1 => ⟨by omega, fun M2 e2 => ?_⟩
    have hy1 := hy.scr hp o1.scr
    have o2 : othY 1 M1 M2 := othY.sp e2 (by omega)
    have hy2 := hy1.scr hp o2.scr
    have s2 : SY M2 1 (pW p) (spS (pS p) a k) := by
      obtain ⟨h1, h2, h3, h4, h5⟩ := s1
      refine ⟨h1, ?_, ?_, fun q hq => ?_, ?_, ?_⟩
      · rw [e2, up_ne _ (by decide)]; exact h2
      · rw [e2, up_ne _ (by decide)]; exact h3
      · have h4q := h4 q hq
        rw [e2]
        show up M1 228 (6 + (a : Int)) (k : Int) 228 (6 * 1 + (q : Int)) = if (q : Int) = a then (k : Int) else sSp (pS p) q
        simp only [up_get, true_and]
        by_cases z : (q : Int) = a
        · rw [if_pos (by omega), if_pos z]
        · rw [if_neg (by omega), if_neg z, h4q]
      · rw [e2, up_ne _ (by decide)]; exact h5.1
      · rw [e2, up_ne _ (by decide)]; exact h5.2
    have sok : SOK (pW p) (spS (pS p) a k) := spS_ok hp.2.2.1.1.1 (by omega)
    refine y_runs hy2.2.1.2.1 s2 hp.2.1.1 sok hy2.2.1.1 fun M3 o3 d3 => ?_
    have hy3 := hy2.scr hp o3.scr
    have st3 := (o1.st.tr o2.st).tr o3.scr.st
    have b3 : bgY M3 p a k := fun i hi c c1 c2 => by
      rw [o3 240 (by decide), o2.1 240 (by decide), o1.1 240 (by decide)]
      exact hb i hi c c1 c2
    have nx : ∀ r', isSet (snP p a) (k + 1) r' → ∃ fu, m_X12_beganBits_L117 (m_X12_beganBits_L4 Q (a : Nat) (d + 1)) Q (a : Nat) (r' : Nat) (k : Nat) fu 1 M3 := fun r' hr' => by
      refine ⟨9, y_bb_117 (M0 := M3) (a := a) hy3 hp (by omega) d3 (fun M4 o4 b4 => ?_) 8 1 M3 (by omega) (by omega) offR.rf b3 (fun c c1 c2 => by have := c1.1; omega)⟩
      have z4 : scrY M3 M4 := ⟨fun c c1 c2 => o4 c c2, fun i _ => by rw [o4 227 (by decide), o4 229 (by decide), o4 230 (by decide), o4 232 (by decide)]; exact ⟨rfl, rfl, rfl, rfl⟩, fun i _ => by rw [o4 228 (by decide)], fun i _ => by rw [o4 231 (by decide)], fun i _ => by rw [o4 233 (by decide)]⟩
      exact y_bb_4 hp ha h d (k + 1) r' M4 (by omega) (hy3.scr hp z4) ((s0.tr st3).tr z4.st) hr' b4
    refine ⟨_, y_bb_44 (a := a) hy3 hp (by omega) d3 (fun z => ?_) (fun z => ?_) (pSe p).length 0 1 (by omega) (Or.inl ⟨rfl, fun i hi => by omega⟩)⟩
    · unfold m_X12_beganBits_J112
      rw [z_shl1 (by omega), Int.toNat_natCast, z_or (by omega) (by omega)]
      exact nx _ (hr.y z)
    · unfold m_X12_beganBits_J112
      rw [show (0 : Int) = ((0 : Nat) : Int) from rfl, z_or (by omega) (by omega), Nat.or_zero]
      exact nx _ (hr.n z)
theorem y_b_93 {Q : Int → Mem → Prop} {K : Int → Int → Int → Mem → Prop} {K2 : Int → Int → Mem → Prop} {v2 v4 v5 v6 m : Int} {B x : Nat} {g : Nat → Int} (hB : B < 128) (hx : x < 7) (h6 : 7 ≤ v6 ∧ v6 < 63) (hm : 0 ≤ m ∧ m ≤ 7) (hg : ∀ a : Nat, a < 7 → B.testBit a = true → M 240 (63 * (a : Int) + v6) = g a ∧ 0 ≤ g a ∧ g a < 7) (h : ∀ e, e = (if B.testBit x = true then al B g 7 (g x) else 0) → K2 (if m < e then e else m) ((x : Int) + 1) M) :
    ∀ (d j : Nat), j + d = 7 → m_X12_began_L93 K K2 Q v2 (B : Nat) v4 v5 v6 m (x : Nat) (d + 1) (if B.testBit x = true then al B g j (g x) else 0) j M
  | 0, j, hj => by
    have : j = 7 := by omega
    subst this
    have a7 := al_rng B g (g x) 7
    have hh := h _ rfl
    have er : 0 ≤ (if B.testBit x = true then al B g 7 (g x) else 0) ∧ (if B.testBit x = true then al B g 7 (g x) else 0) ≤ 7 := by split <;> omega
    unfold m_X12_began_L93 m_X12_began_J177
    generalize (if B.testBit x = true then al B g 7 (g x) else 0) = e at *
    refine ⟨by decide, fun _ => ⟨by omega, by omega, fun z => ?_, fun z => ?_⟩, fun q => absurd (show (7 : Int) ≤ (7 : Nat) by decide) q⟩
    · rw [if_neg (by omega)] at hh; exact hh
    · rw [if_pos (by omega)] at hh; exact hh
  | d + 1, j, hj => by
    have ih := y_b_93 (Q := Q) (K := K) (v2 := v2) (v4 := v4) (v5 := v5) hB hx h6 hm hg h d (j + 1) (by omega)
    have st : al B g (j + 1) (g x) = al B g j (g x) + if B.testBit j = true ∧ g j = g x then 1 else 0 := rfl
    unfold m_X12_began_L93 m_X12_began_J153 m_X12_began_J154
    refine ⟨by omega, fun q => by omega, fun _ => y_has2I (by omega) (by omega) ?_⟩
    rw [Int.toNat_natCast]
    cases tx : B.testBit x
    · rw [tx] at ih
      refine ⟨by decide, fun _ => ?_, fun z => absurd rfl z⟩
      exact ih
    · rw [tx, if_pos rfl] at ih
      obtain ⟨x1, x2, x3⟩ := hg x hx tx
      refine ⟨by decide, fun z => absurd z (by decide), fun _ => y_has2I (by omega) (by omega) ?_⟩
      rw [Int.toNat_natCast]
      cases tj : B.testBit j
      · rw [st, if_neg (fun z => by rw [tj] at z; exact absurd z.1 (by decide))] at ih
        exact ⟨by decide, fun _ => ih, fun z => absurd rfl z⟩
      · obtain ⟨y1, y2, y3⟩ := hg j (by omega) tj
        refine ⟨by decide, fun z => absurd z (by decide), fun _ => ⟨by omega, by omega, ?_⟩⟩
        rw [x1, y1]
        refine ⟨by omega, by omega, fun z => ?_, fun z => ?_⟩
        · rw [st, if_pos ⟨tj, z.symm⟩] at ih; exact ih
        · rw [st, if_neg (fun y => z y.2.symm)] at ih; exact ih
theorem y_b_80 {Q : Int → Mem → Prop} {K : Int → Int → Int → Mem → Prop} {v2 v4 v5 v6 : Int} {B : Nat} {g : Nat → Int} (hB : B < 128) (h6 : 7 ≤ v6 ∧ v6 < 63) (h5 : inI v5) (hg : ∀ a : Nat, a < 7 → B.testBit a = true → M 240 (63 * (a : Int) + v6) = g a ∧ 0 ≤ g a ∧ g a < 7) (h1 : ∀ m, isMx B g 7 m → m < v5 → K v6 m (v6 + 1) M) (h0 : ∀ m, isMx B g 7 m → ¬ m < v5 → K v4 v5 (v6 + 1) M) :
    ∀ (d x : Nat) (m : Int), x + d = 7 → 0 ≤ m → m ≤ 7 → (∀ a, a < x → B.testBit a = true → al B g 7 (g a) ≤ m) → (m = 0 ∨ ∃ a, al B g 7 (g a) = m) → m_X12_began_L80 K Q v2 (B : Nat) v4 v5 v6 (d + 1) m x M
  | 0, x, m, hx, m0, m7, i1, i2 => by
    have mx : isMx B g 7 m := by
      refine ⟨fun v => ?_, ?_⟩
      · by_cases c : al B g 7 v = 0
        · omega
        · obtain ⟨a, a1, a2, a3⟩ := al_some c
          have := i1 a (by omega) a2
          rw [a3] at this
          exact this
      · rcases i2 with z | ⟨a, z⟩
        · refine ⟨g 0, ?_⟩
          have r := al_rng B g (g 0) 7
          by_cases c : al B g 7 (g 0) = 0
          · omega
          · obtain ⟨a, a1, a2, a3⟩ := al_some c
            have := i1 a (by omega) a2
            rw [a3] at this
            omega
        · exact ⟨g a, z⟩
    unfold m_X12_began_L80 m_X12_began_J203
    exact ⟨by omega, fun _ => ⟨by omega, h5, fun z => h1 m mx z, fun z => h0 m mx z⟩, fun q => by omega⟩
  | d + 1, x, m, hx, m0, m7, i1, i2 => by
    unfold m_X12_began_L80
    refine ⟨by omega, fun q => by omega, fun _ => ⟨8, ?_⟩⟩
    have := y_b_93 (M := M) (Q := Q) (K := K) (K2 := m_X12_began_L80 K Q v2 (B : Nat) v4 v5 v6 (d + 1)) (v2 := v2) (v4 := v4) (v5 := v5) (v6 := v6) (m := m) (x := x) (g := g) hB (by omega) h6 ⟨m0, m7⟩ hg (fun e he => ?_) 7 0 (by omega)
    · have z : (if B.testBit x = true then al B g 0 (g x) else 0) = 0 := by split <;> rfl
      rw [z] at this
      exact this
    · have a7 := al_rng B g (g x) 7
      have er : 0 ≤ e ∧ e ≤ 7 := by rw [he]; split <;> omega
      refine y_b_80 hB h6 h5 hg h1 h0 d (x + 1) _ (by omega) (by split <;> omega) (by split <;> omega) (fun a ha ta => ?_) ?_
      · by_cases c : a = x
        · subst c
          rw [if_pos ta] at he
          split <;> omega
        · have := i1 a (by omega) ta
          split <;> omega
      · by_cases c : m < e
        · rw [if_pos c]
          right
          by_cases tx : B.testBit x = true
          · rw [if_pos tx] at he
            exact ⟨x, he.symm⟩
          · rw [if_neg tx] at he
            omega
        · rw [if_neg c]
          exact i2
theorem y_b_43 {Q : Int → Mem → Prop} {v2 : Int} {a B : Nat} (hy : IY M b p) (hp : POK N p) (hB : isSet (snP p a) (wPl (pW p)) B) (hB0 : B ≠ 0) (hb : bgY M p a (wPl (pW p))) (h : ∀ v l, bgR p a B v l → inI v → m_X12_began_J209 Q v2 v l M) :
    ∀ (d c : Nat) (v l : Int), c + d = 63 → 7 ≤ c → inI v → inI l → (v = -1 → l = 100000000) → lsR (moP p a B) (pW p) c v l → m_X12_began_L43 Q v2 (B : Nat) (d + 1) v l c M
  | 0, c, v, l, hc, c7, iv, il, vl, hl => by
    have : c = 63 := by omega
    subst this
    unfold m_X12_began_L43
    exact ⟨by decide, fun _ => h v l ⟨hB, Or.inr ⟨hB0, hl⟩⟩ iv, fun q => absurd (show (63 : Int) ≤ (63 : Nat) by decide) q⟩
  | d + 1, c, v, l, hc, c7, iv, il, vl, hl => by
    have w1 := hp.2.1.1.1
    have Bl := hB.lt
    have b7 : 2 ^ wPl (pW p) ≤ 2 ^ 7 := Nat.pow_le_pow_right (by decide) w1
    have b1 := hy.2.1.2.1.1
    unfold m_X12_began_L43 m_X12_began_J203
    rw [hy.2.1.1, hy.2.1.2.1.2.1, Int.tmod_eq_emod_of_nonneg (by omega)]
    refine ⟨by omega, fun q => by omega, fun _ => ⟨by omega, fun q => by omega, fun _ => ⟨by omega, by omega, by omega, by omega, fun q => ?_, fun q => ?_⟩⟩⟩
    · have vl2 : vld (pW p) c := ⟨c7, by omega⟩
      refine ⟨8, y_b_80 (M := M) (g := fun k => gP p a k c) (by omega) (by omega) il (fun k hk tk => ⟨hb k ((hB k).mp tk).1 c vl2 (by omega), gP_b hp a k c⟩) (fun m hm z => ?_) (fun m hm z => ?_) 7 0 0 (by omega) (by omega) (by omega) (fun x hx => by omega) (Or.inl rfl)⟩
      · have mo : moP p a B c = m := mxF_eq hm
        have mr := hm.rng
        have := hl.new vl2 (fun _ => by rw [mo]; exact z)
        rw [mo] at this
        exact y_b_43 hy hp hB hB0 hb h d (c + 1) c m (by omega) (by omega) (by omega) (by omega) (fun z => by omega) this
      · have mo : moP p a B c = m := mxF_eq hm
        have mr := hm.rng
        by_cases e : v = -1
        · have := vl e
          omega
        · exact y_b_43 hy hp hB hB0 hb h d (c + 1) v l (by omega) (by omega) iv il vl (hl.keep e (by rw [mo]; omega))
    · refine y_b_43 hy hp hB hB0 hb h d (c + 1) v l (by omega) (by omega) iv il vl (hl.ext (by omega) (fun e e1 e2 z => ?_))
      have : e = c := by omega
      subst this
      have := z.2
      omega
theorem bgR.eq {a B C : Nat} {v l w m : Int} (h : bgR p a B v l) (k : bgR p a C w m) : B = C ∧ v = w ∧ (¬ v = -1 → l = m) := by
  obtain ⟨h1, h2⟩ := h
  obtain ⟨k1, k2⟩ := k
  have e := h1.eq k1
  subst e
  refine ⟨rfl, ?_⟩
  rcases h2 with ⟨z1, z2⟩ | ⟨z1, z2⟩
  · rcases k2 with ⟨y1, y2⟩ | ⟨y1, y2⟩
    · exact ⟨by rw [z2, y2], fun z => absurd z2 z⟩
    · exact absurd z1 y1
  · rcases k2 with ⟨y1, y2⟩ | ⟨y1, y2⟩
    · exact absurd y1 z1
    · exact z2.eq y2
theorem bgR.rng {a B : Nat} {v l : Int} (h : bgR p a B v l) : v = -1 ∨ (0 ≤ v ∧ v < 63 ∧ 0 ≤ l ∧ l ≤ 7) := by
  rcases h.2 with ⟨z1, z2⟩ | ⟨z1, z2⟩
  · exact Or.inl z2
  · rcases z2 with ⟨y1, y2⟩ | ⟨c, y1, y2, y3, y4, y5⟩
    · exact Or.inl y1
    · right
      have : 0 ≤ moP p a B c ∧ moP p a B c ≤ 7 := by
        unfold moP mxF
        split
        · next hh => have := (Classical.choose_spec hh).rng; omega
        · omega
      omega
theorem y_began {Q : Int → Mem → Prop} {a : Nat} {c : Int} (hy : IY M b p) (hp : POK N p) (ha : a < wPn (pW p)) (hc : 0 ≤ c ∧ c ≤ 3) (h : ∀ (B : Nat) v l r M', IY M' b p → stY M M' → bgR p a B v l → r = (if c = 0 then (B : Int) else if v = -1 then -1 else if c = 1 then ((v.toNat / 7 : Nat) : Int) else if c = 2 then ((v.toNat % 7 : Nat) : Int) else l) → Q r M') : m_X12_began (a : Nat) c M Q := by
  have w1 := hp.2.1.1.1
  have w2 := hp.2.1.1.2.1
  unfold m_X12_began m_X12_beganBits
  refine y_isPerson hy hp (by omega) (fun _ _ => ⟨by decide, fun z => absurd z (by decide), fun _ => ?_⟩) (fun q => by omega)
  refine y_is2 (by omega) (by decide) (by decide) (fun _ _ => ⟨by decide, fun z => absurd z (by decide), fun _ => ?_⟩) (fun q => by omega)
  refine ⟨_, y_bb_4 (M0 := M) (a := a) hp ha (fun B M1 hy1 o1 hB hb => ?_) (wPl (pW p)) 0 0 M (by omega) hy stY.rf (isSet.z _) (fun j hj => by omega)⟩
  have Bl := hB.lt
  have b7 : 2 ^ wPl (pW p) ≤ 2 ^ 7 := Nat.pow_le_pow_right (by decide) w1
  have last : ∀ v l, bgR p a B v l → inI v → ¬ c = 0 → m_X12_began_J209 Q c v l M1 := fun v l hr iv c0 => by
    have rg := hr.rng
    unfold m_X12_began_J209 m_X12_began_J247
    refine ⟨iv, fun z => h B v l _ M1 hy1 o1 hr (by rw [if_neg c0, if_pos z]), fun z => ⟨by omega, fun q => ⟨iv, ?_⟩, fun q => ⟨by omega, fun q2 => ⟨iv, ?_⟩, fun q2 => ?_⟩⟩⟩
    · rw [Int.tdiv_eq_ediv_of_nonneg (by omega)]
      exact h B v l _ M1 hy1 o1 hr (by rw [if_neg c0, if_neg z, if_pos q]; omega)
    · rw [Int.tmod_eq_emod_of_nonneg (by omega)]
      exact h B v l _ M1 hy1 o1 hr (by rw [if_neg c0, if_neg z, if_neg q, if_pos q2]; omega)
    · exact h B v l _ M1 hy1 o1 hr (by rw [if_neg c0, if_neg z, if_neg q, if_neg q2])
  by_cases B0 : B = 0
  · have hr : bgR p a B (-1) 100000000 := ⟨hB, Or.inl ⟨B0, rfl⟩⟩
    refine ⟨by omega, fun z => h B (-1) 100000000 _ M1 hy1 o1 hr (by rw [if_pos z]), fun z => ⟨1, ?_⟩⟩
    unfold m_X12_began_L43
    refine ⟨by decide, fun q => absurd q (by decide), fun _ => ⟨by omega, fun _ => last _ _ hr (by decide) z, fun q => by omega⟩⟩
  · by_cases c0 : c = 0
    · -- the cell does not matter
      have ex : ∃ v l, bgR p a B v l := by
        have go : ∀ n : Nat, ∃ v l, lsR (moP p a B) (pW p) n v l := by
          intro n
          induction n with
          | zero => exact ⟨-1, 0, Or.inl ⟨rfl, fun c hc => by omega⟩⟩
          | succ n ih =>
            obtain ⟨v, l, hl⟩ := ih
            by_cases vv : vld (pW p) n
            · by_cases q : ¬ v = -1 ∧ l ≤ moP p a B n
              · exact ⟨v, l, hl.keep q.1 q.2⟩
              · exact ⟨_, _, hl.new vv (fun z => by omega)⟩
            · refine ⟨v, l, hl.ext (by omega) (fun e e1 e2 => ?_)⟩
              have : e = n := by omega
              subst this
              exact vv
        obtain ⟨v, l, hl⟩ := go 63
        exact ⟨v, l, hB, Or.inr ⟨B0, hl⟩⟩
      obtain ⟨v, l, hr⟩ := ex
      exact ⟨by omega, fun z => h B v l _ M1 hy1 o1 hr (by rw [if_pos z]), fun z => absurd c0 z⟩
    · refine ⟨by omega, fun z => absurd z c0, fun z => ⟨_, y_b_43 hy1 hp hB B0 hb (fun v l hr iv => last v l hr iv c0) 56 7 (-1) 100000000 (by omega) (by omega) (by decide) (by decide) (fun _ => rfl) (Or.inl ⟨rfl, fun c hc y => by have := y.1; omega⟩)⟩⟩
theorem s_began {a c : Int} (hi : Inv N M) (ha : inI a) (hc : inI c) : m_X11_began a c M (fun r1 M1 => m_X12_began a c M1 (fun r2 M2 => Good N r1 r2 M2)) := by
  obtain ⟨t, b, p, hp, hx, hy⟩ := hi
  have w1 := hp.2.1.1.1
  have hno : ¬ ((0 ≤ a ∧ a < wPn (pW p)) ∧ (0 ≤ c ∧ c ≤ 3)) → m_X12_began a c M (fun r2 M2 => Good N (-1) r2 M2) := fun q => by
    unfold m_X12_began m_X12_began_J17
    refine y_isPerson hy hp ha (fun q1 q2 => ⟨by decide, fun z => absurd z (by decide), fun _ => ?_⟩) (fun _ => ⟨by decide, fun _ => fin hp hx hy (by decide), fun z => absurd rfl z⟩)
    exact y_is2 hc (by decide) (by decide) (fun q3 q4 => absurd ⟨⟨q1, q2⟩, q3, q4⟩ q) (fun _ => ⟨by decide, fun _ => fin hp hx hy (by decide), fun z => absurd rfl z⟩)
  unfold m_X11_began m_X11_began_J17
  refine x_isPerson hx hp ha (fun q1 q2 => ⟨by decide, fun z => absurd z (by decide), fun _ => ⟨hc, fun q => hno (by omega), fun q3 => ⟨hc, fun q4 => ?_, fun q => hno (by omega)⟩⟩⟩) (fun q => ⟨by decide, fun _ => hno (fun z => q z.1), fun z => absurd rfl z⟩)
  obtain ⟨n, rfl⟩ : ∃ n : Nat, a = n := ⟨a.toNat, by omega⟩
  refine x_findB hx hp (by omega) fun B v l M1 hx1 o1 hr e4 ht => ?_
  have Bl := hr.1.lt
  have b7 : 2 ^ wPl (pW p) ≤ 2 ^ 7 := Nat.pow_le_pow_right (by decide) w1
  have rg := hr.rng
  have hy1 := hy.st o1
  have fi : ∀ r, inI r → r = (if c = 0 then (B : Int) else if v = -1 then -1 else if c = 1 then ((v.toNat / 7 : Nat) : Int) else if c = 2 then ((v.toNat % 7 : Nat) : Int) else l) → m_X12_began (n : Nat) c M1 (fun r2 M2 => Good N r r2 M2) := fun r ir er => by
    refine y_began hy1 hp (by omega) (by omega) fun B' v' l' r' M2 hy2 o2 hr' er' => ?_
    obtain ⟨z1, z2, z3⟩ := hr.eq hr'
    have : r' = r := by
      rw [er, er', ← z1, ← z2]
      by_cases c0 : c = 0
      · rw [if_pos c0, if_pos c0]
      · rw [if_neg c0, if_neg c0]
        by_cases v1 : v = -1
        · rw [if_pos v1, if_pos v1]
        · rw [if_neg v1, if_neg v1, z3 v1]
    rw [this]
    exact fin hp (hx1.st o2) hy2 ir
  have tl : (v = -1 ∧ M1 187 5 = -1 ∧ M1 187 6 = -1 ∧ M1 187 7 = -1) ∨ (¬ v = -1 ∧ M1 187 5 = ((v.toNat / 7 : Nat) : Int) ∧ M1 187 6 = ((v.toNat % 7 : Nat) : Int) ∧ M1 187 7 = l) := by
    rcases ht with z | ⟨e, z1, z2, z3, z4, z5⟩
    · exact Or.inl z
    · right
      subst z1
      rw [Int.toNat_natCast]
      exact ⟨by omega, z2, z3, z4⟩
  refine ⟨hc, fun z => fi _ (by omega) (by rw [if_pos z, e4]), fun z => ?_, fun z => ?_, fun z => ?_⟩
  · rcases tl with ⟨y1, y2, y3, y4⟩ | ⟨y1, y2, y3, y4⟩
    · exact fi _ (by omega) (by rw [if_neg (by omega), if_pos y1, y2])
    · exact fi _ (by omega) (by rw [if_neg (by omega), if_neg y1, if_pos z, y2])
  · rcases tl with ⟨y1, y2, y3, y4⟩ | ⟨y1, y2, y3, y4⟩
    · exact fi _ (by omega) (by rw [if_neg (by omega), if_pos y1, y3])
    · exact fi _ (by omega) (by rw [if_neg (by omega), if_neg y1, if_neg (by omega), if_pos z, y3])
  · rcases tl with ⟨y1, y2, y3, y4⟩ | ⟨y1, y2, y3, y4⟩
    · exact fi _ (by omega) (by rw [if_neg (by omega), if_pos y1, y4])
    · exact fi _ (by omega) (by rw [if_neg (by omega), if_neg y1, if_neg (by omega), if_neg (by omega), y4])
end
