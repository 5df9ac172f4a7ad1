/-! what is asked of the state as it stands -/
def Inv (N : Nat) (M : Mem) : Prop := ∃ (t b : Int) (p : PT), POK N p ∧ IX M t p ∧ IY M b p
def Good (N : Nat) (r1 r2 : Int) (M : Mem) : Prop := inI r1 ∧ r1 = r2 ∧ Inv (N + 1) M
theorem POK.mono {N : Nat} {p : PT} (h : POK N p) : POK (N + 1) p := by
  obtain ⟨⟨a1, a2, a3, a4⟩, h2⟩ := h
  exact ⟨⟨a1, a2, fun i hi => ⟨(a3 i hi).1, by have := (a3 i hi).2; omega⟩, a4⟩, h2⟩
theorem fin {N : Nat} {t b r : Int} {p : PT} {M : Mem} (hp : POK N p) (hx : IX M t p) (hy : IY M b p) (hr : inI r) : Good N r r M := ⟨hr, rfl, t, b, p, hp.mono, hx, hy⟩
theorem fin1 {N : Nat} {t b r : Int} {p : PT} {M : Mem} (hp : POK (N + 1) p) (hx : IX M t p) (hy : IY M b p) (hr : inI r) : Good N r r M := ⟨hr, rfl, t, b, p, hp, hx, hy⟩
theorem j_min {a b : Int} {M : Mem} {Q : Int → Mem → Prop} (ha : inI a) (hb : inI b) (h : Q (if b < a then b else a) M) : m_J9_min_7cf53 a b M Q := by
  unfold m_J9_min_7cf53 m_J9_min_7cf53_J10
  refine ⟨ha, hb, fun c => ?_, fun c => ?_⟩
  · rw [if_pos c] at h; exact h
  · rw [if_neg c] at h; exact h
theorem j_max {a b : Int} {M : Mem} {Q : Int → Mem → Prop} (ha : inI a) (hb : inI b) (h : Q (if a < b then b else a) M) : m_J9_max_7cf53 a b M Q := by
  unfold m_J9_max_7cf53 m_J9_max_7cf53_J10
  refine ⟨ha, hb, fun c => ?_, fun c => ?_⟩
  · rw [if_pos c] at h; exact h
  · rw [if_neg c] at h; exact h
section
variable {N : Nat} {t b : Int} {p : PT} {M : Mem} {Q : Int → Mem → Prop} {a c : Int}
theorem x_isPlace (hx : IX M t p) (hp : POK N p) (ha : inI a) (h1 : 0 ≤ a → a < wPl (pW p) → Q 1 M) (h0 : ¬ (0 ≤ a ∧ a < wPl (pW p)) → Q 0 M) : m_X11_isPlace a M Q := by
  obtain ⟨-, ⟨k1, k2, k3, -⟩, -⟩ := hx
  have w := hp.2.1.1.1
  unfold m_X11_isPlace m_X11_isPlace_J19 m_X11_isPlace_J20
  rw [k1, k3.2.1]
  exact ⟨ha, fun _ => ⟨by decide, h0 (by omega)⟩, fun _ => ⟨k3.1, ha, by omega, fun _ => ⟨by decide, h0 (by omega)⟩, fun _ => ⟨by decide, h1 (by omega) (by omega)⟩⟩⟩
theorem x_isPerson (hx : IX M t p) (hp : POK N p) (ha : inI a) (h1 : 0 ≤ a → a < wPn (pW p) → Q 1 M) (h0 : ¬ (0 ≤ a ∧ a < wPn (pW p)) → Q 0 M) : m_X11_isPerson a M Q := by
  obtain ⟨-, ⟨k1, k2, k3, -⟩, -⟩ := hx
  have w := hp.2.1.1.2.1
  unfold m_X11_isPerson m_X11_isPerson_J19 m_X11_isPerson_J20
  rw [k1, k3.2.2.1]
  exact ⟨ha, fun _ => ⟨by decide, h0 (by omega)⟩, fun _ => ⟨k3.1, ha, by omega, fun _ => ⟨by decide, h0 (by omega)⟩, fun _ => ⟨by decide, h1 (by omega) (by omega)⟩⟩⟩
theorem x_isFrame (hx : IX M t p) (hp : POK N p) (ha : inI a) (h1 : 0 ≤ a → a < (sRe (pS p)).length → Q 1 M) (h0 : ¬ (0 ≤ a ∧ a < (sRe (pS p)).length) → Q 0 M) : m_X11_isFrame a M Q := by
  obtain ⟨-, -, ⟨k1, k2, k3⟩, -⟩ := hx
  have w := hp.2.2.1.1.2.1
  have e : M 42 0 = _ := k1.2.2.2.2.1
  unfold m_X11_isFrame m_X11_isFrame_J22 m_X11_isFrame_J23
  rw [e]
  exact ⟨ha, fun _ => ⟨by decide, h0 (by omega)⟩, fun _ => ⟨ha, by omega, fun _ => ⟨by decide, h0 (by omega)⟩, fun _ => ⟨by decide, h1 (by omega) (by omega)⟩⟩⟩
theorem x_isStep (ha : inI a) (h1 : 1 ≤ a → a ≤ 8 → Q 1 M) (h0 : ¬ (1 ≤ a ∧ a ≤ 8) → Q 0 M) : m_X11_isStep a M Q := by
  unfold m_X11_isStep m_X11_isStep_J15 m_X11_isStep_J16
  exact ⟨ha, fun _ => ⟨by decide, h0 (by omega)⟩, fun _ => ⟨ha, fun _ => ⟨by decide, h0 (by omega)⟩, fun _ => ⟨by decide, h1 (by omega) (by omega)⟩⟩⟩
theorem y_isPlace (hy : IY M b p) (hp : POK N p) (ha : inI a) (h1 : 0 ≤ a → a < wPl (pW p) → Q 1 M) (h0 : ¬ (0 ≤ a ∧ a < wPl (pW p)) → Q 0 M) : m_X12_isPlace a M Q := by
  obtain ⟨-, ⟨k1, k3, -⟩, -⟩ := hy
  have w := hp.2.1.1.1
  have k4 := k3.1
  unfold m_X12_isPlace m_X12_isPlace_J21 m_X12_isPlace_J22
  rw [k1, k3.2.1]
  exact ⟨ha, fun _ => ⟨by decide, h0 (by omega)⟩, fun _ => ⟨by omega, ha, by omega, fun _ => ⟨by decide, h0 (by omega)⟩, fun _ => ⟨by decide, h1 (by omega) (by omega)⟩⟩⟩
theorem y_isPerson (hy : IY M b p) (hp : POK N p) (ha : inI a) (h1 : 0 ≤ a → a < wPn (pW p) → Q 1 M) (h0 : ¬ (0 ≤ a ∧ a < wPn (pW p)) → Q 0 M) : m_X12_isPerson a M Q := by
  obtain ⟨-, ⟨k1, k3, -⟩, -⟩ := hy
  have w := hp.2.1.1.2.1
  have k4 := k3.1
  unfold m_X12_isPerson m_X12_isPerson_J21 m_X12_isPerson_J22
  rw [k1, k3.2.2.1]
  exact ⟨ha, fun _ => ⟨by decide, h0 (by omega)⟩, fun _ => ⟨by omega, ha, by omega, fun _ => ⟨by decide, h0 (by omega)⟩, fun _ => ⟨by decide, h1 (by omega) (by omega)⟩⟩⟩
theorem y_is2 {lo hi : Int} (ha : inI a) (hb : inI lo) (hc : inI hi) (h1 : lo ≤ a → a ≤ hi → Q 1 M) (h0 : ¬ (lo ≤ a ∧ a ≤ hi) → Q 0 M) : m_X12_is a lo hi M Q := by
  refine y_is ha hb hc ?_
  split
  · next h => exact h1 h.1 h.2
  · next h => exact h0 h
theorem y_isAhead {lo hi : Int} (hy : IY M b p) (hp : POK N p) (ha : inI a) (hb : 0 ≤ lo ∧ lo ≤ 1) (hc : hi = 40) (h1 : lo ≤ a → a ≤ 40 → a ≤ 999 - sDay (pS p) → Q 1 M) (h0 : ¬ (lo ≤ a ∧ a ≤ 40 ∧ a ≤ 999 - sDay (pS p)) → Q 0 M) : m_X12_isAhead a lo hi M Q := by
  have e : M 227 0 = _ := hy.2.2.1.1.2.1
  have w1 := hp.2.2.1.1.1.1
  have w2 := hp.2.2.1.1.1.2.1
  subst hc
  unfold m_X12_isAhead m_X12_isAhead_J27 m_X12_isAhead_J28
  refine y_is2 ha (by omega) (by omega) (fun q1 q2 => ?_) (fun q => ?_)
  · rw [e]
    exact ⟨by decide, fun q => absurd q (by decide), fun _ => ⟨by omega, by omega, fun _ => ⟨by decide, h0 (by omega)⟩, fun _ => ⟨by decide, h1 q1 q2 (by omega)⟩⟩⟩
  · exact ⟨by decide, fun _ => ⟨by decide, h0 (by omega)⟩, fun q => absurd rfl q⟩
theorem x_daysAhead (hx : IX M t p) (hp : POK N p) (h : Q (if 999 - sDay (pS p) < 40 then 999 - sDay (pS p) else 40) M) : m_X11_daysAhead M Q := by
  have e : M 40 0 = _ := hx.2.2.1.1.2.1
  have w1 := hp.2.2.1.1.1.1
  have w2 := hp.2.2.1.1.1.2.1
  unfold m_X11_daysAhead
  rw [e]
  exact j_min (by decide) (by omega) h
theorem x_told (hx : IX M t p) (hp : POK N p) (h : Q (if 40 < (pK p).length then 40 else ((pK p).length : Nat)) M) : m_X11_told M Q := by
  have e : M 40 4 = _ := hx.2.2.1.2.1
  have w1 := hp.2.2.1.1.2.2
  have w2 := hp.2.2.1.1.1.2.1
  unfold m_X11_told
  rw [e]
  refine j_min (by omega) (by decide) ?_
  by_cases c : 40 < (pK p).length
  · rw [if_pos c] at h; rw [if_pos (by omega)]; exact h
  · rw [if_neg c] at h; rw [if_neg (by omega)]; exact h
/-- the class's day stands -/
theorem x_thisDay (hx : IX M t p) (hp : POK N p) (h : ∀ M', IX M' t p → stX M M' → dayX M' 52 (pW p) (pS p) → Q 52 M') : m_X11_thisDay M Q := by
  obtain ⟨x1, x2, x3, x4, x5⟩ := hx
  have ht := isTown x2.2.2.1.1
  have e2 := x2.1
  unfold m_X11_thisDay m_X11_thisDay_J27
  rcases x5 with c | c
  · rw [c, e2]
    refine ⟨by decide, fun _ => ⟨x2.2.2.1.1, x_goThrough (by decide) x2.2.2.1 x3.1 hp.2.1.1 hp.2.2.1.1.1 fun M1 o1 d1 M2 e => ?_⟩, fun q => absurd rfl q⟩
    have z : ∀ a, a ≠ 0 → (a < 52 ∨ 56 < a) → a ≠ t + 13 → a ≠ t + 16 → M2 a = M a := fun a a0 a1 a2 a3 => by rw [e, up_ne _ a0, o1 a a1 a2 a3]
    have z0 : ∀ k, k ≠ 8 → M2 0 k = M 0 k := fun k hk => by
      rw [e]
      simp only [up_get]
      rw [if_neg (fun q => hk q.2), o1 0 (by decide) (by omega) (by omega)]
    have d2 : dayX M2 52 (pW p) (pS p) := by
      unfold dayX at *
      rw [e, up_ne _ (by decide), up_ne _ (by decide)]
      exact d1
    refine h M2 ⟨?_, ⟨?_, ?_, ?_, ?_⟩, ⟨?_, ?_, ?_⟩, ?_, Or.inr ⟨by rw [e]; simp [up_get], d2⟩⟩ (fun a ha => z a (by omega) (by omega) (by omega) (by omega)) d2
    · unfold aX rw1 rw3 at *
      rw [z 1 (by decide) (by decide) (by omega) (by omega), z 2 (by decide) (by decide) (by omega) (by omega), z 3 (by decide) (by decide) (by omega) (by omega), z 198 (by decide) (by decide) (by omega) (by omega), z 188 (by decide) (by decide) (by omega) (by omega), z 185 (by decide) (by decide) (by omega) (by omega), z 186 (by decide) (by decide) (by omega) (by omega), z 187 (by decide) (by decide) (by omega) (by omega), z0 13 (by decide)]
      exact x1
    · rw [z0 2 (by decide), e2]
    · rw [z0 3 (by decide), x2.2.1]
    · exact x2.2.2.1.keep (fun a a1 a2 a3 => z a (by omega) (by omega) (by omega) (by omega))
    · rw [z t (by omega) (by omega) (by omega) (by omega), z (t + 1) (by omega) (by omega) (by omega) (by omega), z (t + 4) (by omega) (by omega) (by omega) (by omega)]
      exact x2.2.2.2
    · exact x3.1.rows (fun a a1 a2 => z a (by omega) (by omega) (by omega) (by omega))
    · rw [z 40 (by decide) (by decide) (by omega) (by omega), x3.2.1]
    · unfold rw3 at *
      rw [z 64 (by decide) (by decide) (by omega) (by omega)]
      exact x3.2.2
    · unfold uX
      rw [z 62 (by decide) (by decide) (by omega) (by omega)]
      refine ⟨x4.1, x4.2.1, x4.2.2.1, fun j hj => ?_⟩
      obtain ⟨m1, m2⟩ := x4.2.2.2 j hj
      have : 65 ≤ slX (M 62 1) j ∧ slX (M 62 1) j ≤ 179 := by unfold slX; omega
      refine ⟨m1.rows (fun a a1 a2 => z a (by omega) (by omega) (by omega) (by omega)), ?_⟩
      rw [z _ (by omega) (by omega) (by omega) (by omega), m2]
  · rw [c.1]
    exact ⟨by decide, fun q => absurd q (by decide), fun _ => h M ⟨x1, x2, x3, x4, Or.inr c⟩ stX.rf c.2⟩
end
/-- the model's bits -/
theorem bit_step : ∀ n : Nat, n < 256 → n ≠ 0 → pop (n &&& (n - 1)) + 1 = pop n ∧ (n &&& (n - 1)) < 256 := by decide +kernel
theorem pop_0 : pop 0 = 0 := by decide
theorem pop_pos : ∀ n : Nat, n < 256 → n ≠ 0 → pop n ≠ 0 := by decide +kernel
theorem pop_le : ∀ n : Nat, n < 256 → pop n ≤ 8 := by decide +kernel
theorem y_bits_l {M : Mem} {Q : Int → Mem → Prop} : ∀ (f n : Nat) (v : Int), n < 256 → pop n = f → Q (v + f) M → m_X12_bits_L4 Q (f + 1) v n M
  | 0, n, v, hn, hf, h => by
    unfold m_X12_bits_L4
    have : n = 0 := by
      by_cases c : n = 0
      · exact c
      · exact absurd hf (pop_pos n hn c)
    subst this
    refine ⟨by decide, fun _ => ?_, fun q => absurd rfl q⟩
    rw [show v + ((0 : Nat) : Int) = v by omega] at h
    exact h
  | f + 1, n, v, hn, hf, h => by
    unfold m_X12_bits_L4
    have n0 : n ≠ 0 := fun e => by rw [e, pop_0] at hf; omega
    have s := bit_step n hn n0
    refine ⟨by omega, fun q => by omega, fun _ => ?_⟩
    rw [show (n : Int) - 1 = ((n - 1 : Nat) : Int) by omega, z_and (by omega)]
    exact y_bits_l f _ _ s.2 (by omega) (by rw [show v + 1 + (f : Int) = v + ((f + 1 : Nat) : Int) by omega]; exact h)
theorem y_bits {a : Int} {M : Mem} {Q : Int → Mem → Prop} (ha : 0 ≤ a ∧ a < 256) (h : Q (pop a.toNat : Nat) M) : m_X12_bits a M Q := by
  have := y_bits_l (M := M) (Q := Q) (pop a.toNat) a.toNat 0 (by omega) rfl (by rw [show (0 : Int) + (pop a.toNat : Nat) = (pop a.toNat : Nat) by omega]; exact h)
  rw [toNat_i ha.1] at this
  exact ⟨_, this⟩
/-- who is where, by the model -/
theorem y_who_l {b st pl : Int} {pn : Nat} {f : Int → Int} {M : Mem} {Q : Int → Mem → Prop} (hb : M 199 13 = b) (hb2 : b = 0 ∨ b = 1) (hpn : M 205 b = (pn : Nat)) (h6 : pn ≤ 6) (hs : 0 ≤ st ∧ st ≤ 8) (hf : ∀ p : Nat, p < pn → M 236 (6 * st + p) = f p) (hr : ∀ p : Nat, p < pn → inI (f p)) (hp : inI pl) (h : Q (whoP f pn pl : Nat) M) :
    ∀ (d k : Nat), k + d = pn → m_X12_whoAt_L5 Q st pl (d + 1) (whoP f k pl : Nat) k M
  | 0, k, hd => by
    unfold m_X12_whoAt_L5
    rw [hb, hpn]
    refine ⟨by omega, by omega, by omega, fun _ => ?_, fun q => by omega⟩
    rw [show k = pn by omega]
    exact h
  | d + 1, k, hd => by
    unfold m_X12_whoAt_L5 m_X12_whoAt_J44
    rw [hb, hpn, hf k (by omega)]
    have l1 := whoP_lt f pl k
    have l2 : 2 ^ k ≤ 2 ^ 6 := Nat.pow_le_pow_right (by decide) (by omega)
    have ih := y_who_l hb hb2 hpn h6 hs hf hr hp h d (k + 1) (by omega)
    have e : whoP f (k + 1) pl = whoP f k pl ||| if f k = pl then 2 ^ k else 0 := rfl
    refine ⟨by omega, by omega, by omega, fun q => by omega, fun _ => ⟨by omega, hr k (by omega), hp, fun q => ?_, fun q => ?_⟩⟩
    · rw [z_shl1 (by omega), Int.toNat_natCast, z_or (by omega) (by omega)]
      rw [e, if_pos q] at ih
      exact ih
    · rw [show (0 : Int) = ((0 : Nat) : Int) from rfl, z_or (by omega) (by omega)]
      rw [e, if_neg q] at ih
      exact ih
theorem y_whoAt {b st pl : Int} {pn : Nat} {f : Int → Int} {M : Mem} {Q : Int → Mem → Prop} (hb : M 199 13 = b) (hb2 : b = 0 ∨ b = 1) (hpn : M 205 b = (pn : Nat)) (h6 : pn ≤ 6) (hs : 0 ≤ st ∧ st ≤ 8) (hf : ∀ p : Nat, p < pn → M 236 (6 * st + p) = f p) (hr : ∀ p : Nat, p < pn → inI (f p)) (hp : inI pl) (h : Q (whoP f pn pl : Nat) M) : m_X12_whoAt st pl M Q :=
  ⟨_, y_who_l hb hb2 hpn h6 hs hf hr hp h pn 0 (by omega)⟩
