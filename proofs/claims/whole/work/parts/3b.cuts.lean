/-! the smallest set: cuts, crowd -/
def bsB (A : Nat → Prop) (m : Nat) (r : Int) : Prop := (r = -1 ∧ ∀ s, s < m → ¬ A s) ∨ (∃ k : Nat, r = k ∧ k < m ∧ A k ∧ ∀ s, s < m → A s → pop k < pop s ∨ (pop k = pop s ∧ k ≤ s))
theorem bsB.z (A : Nat → Prop) : bsB A 0 (-1) := Or.inl ⟨rfl, fun s hs => by omega⟩
theorem bsB.eq {A : Nat → Prop} {m : Nat} {r s : Int} (h : bsB A m r) (k : bsB A m s) : r = s := by
  rcases h with ⟨h1, h2⟩ | ⟨i, h1, h2, h3, h4⟩
  · rcases k with ⟨k1, k2⟩ | ⟨j, k1, k2, k3, k4⟩
    · rw [h1, k1]
    · exact absurd k3 (h2 j k2)
  · rcases k with ⟨k1, k2⟩ | ⟨j, k1, k2, k3, k4⟩
    · exact absurd h3 (k2 i h2)
    · have a := h4 j k2 k3
      have b := k4 i h2 h3
      rw [h1, k1]
      omega
theorem bsB.I {A : Nat → Prop} {m : Nat} {r : Int} (h : bsB A m r) (hm : m ≤ 256) : inI r := by
  rcases h with ⟨h1, h2⟩ | ⟨i, h1, h2, h3⟩ <;> omega
theorem bsB.skip {A : Nat → Prop} {m : Nat} {r : Int} (h : bsB A m r) (ha : ¬ A m) : bsB A (m + 1) r := by
  rcases h with ⟨h1, h2⟩ | ⟨i, h1, h2, h3, h4⟩
  · refine Or.inl ⟨h1, fun s hs => ?_⟩
    by_cases c : s = m
    · subst c; exact ha
    · exact h2 s (by omega)
  · refine Or.inr ⟨i, h1, by omega, h3, fun s hs as => ?_⟩
    by_cases c : s = m
    · subst c; exact absurd as ha
    · exact h4 s (by omega) as
theorem bsB.more {A : Nat → Prop} {m : Nat} {r : Int} (h : bsB A m r) (hr : ¬ r = -1) (hm : pop r.toNat ≤ pop m) : bsB A (m + 1) r := by
  rcases h with ⟨h1, h2⟩ | ⟨i, h1, h2, h3, h4⟩
  · exact absurd h1 hr
  · rw [h1, Int.toNat_natCast] at hm
    refine Or.inr ⟨i, h1, by omega, h3, fun s hs as => ?_⟩
    by_cases c : s = m
    · subst c; omega
    · exact h4 s (by omega) as
theorem bsB.take {A : Nat → Prop} {m : Nat} {r : Int} (h : bsB A m r) (hr : ¬ r = -1 → pop m < pop r.toNat) (ha : A m) : bsB A (m + 1) m := by
  refine Or.inr ⟨m, rfl, by omega, ha, fun s hs as => ?_⟩
  rcases h with ⟨h1, h2⟩ | ⟨i, h1, h2, h3, h4⟩
  · by_cases c : s = m
    · subst c; omega
    · exact absurd as (h2 s (by omega))
  · have := hr (by omega)
    rw [h1, Int.toNat_natCast] at this
    by_cases c : s = m
    · subst c; omega
    · have := h4 s (by omega) as
      omega
theorem pop_pow : ∀ n : Nat, n < 9 → ∀ s : Nat, s < 2 ^ n → pop s ≤ n := by decide +kernel
/-- frames cut by a set, from the last -/
def rmP (s : Nat) : Nat → List (Int × Int × Int) → List (Int × Int × Int)
  | 0, l => l
  | k + 1, l => rmP s k (if s.testBit k then l.eraseIdx k else l)
theorem rmP_ok {W : TW} {s : Nat} : ∀ {k : Nat} {l : List (Int × Int × Int)}, reOK W l → reOK W (rmP s k l)
  | 0, _, h => h
  | k + 1, l, h => by
    unfold rmP
    refine rmP_ok ?_
    split
    · exact h.erase
    · exact h
theorem rmP_hi {s n : Nat} {l : List (Int × Int × Int)} (h : s < 2 ^ n) : ∀ d : Nat, rmP s (n + d) l = rmP s n l
  | 0 => rfl
  | d + 1 => by
    show rmP s (n + d) (if s.testBit (n + d) then l.eraseIdx (n + d) else l) = _
    rw [Nat.testBit_lt_two_pow (Nat.lt_of_lt_of_le h (Nat.pow_le_pow_right (by decide) (by omega)))]
    exact rmP_hi h d
theorem rmP_all : ∀ {k : Nat} {l : List (Int × Int × Int)} {s : Nat}, (∀ i, i < k → s.testBit i = true) → l.length = k → rmP s k l = []
  | 0, l, s, _, h => by
    unfold rmP
    exact List.eq_nil_of_length_eq_zero h
  | k + 1, l, s, h, hl => by
    unfold rmP
    rw [h k (by omega), if_pos rfl]
    refine rmP_all (fun i hi => h i (by omega)) ?_
    rw [List.length_eraseIdx_of_lt (by omega)]
    omega
section
variable {N : Nat} {t b : Int} {p : PT} {M : Mem}
def cutP (p : PT) (s : Nat) : Prop := agP (pW p) (reS (pS p) (rmP s (sRe (pS p)).length (sRe (pS p)))) = 1
theorem cutP_all : cutP p (2 ^ (sRe (pS p)).length - 1) := by
  unfold cutP
  rw [rmP_all (fun i hi => by rw [Nat.testBit_two_pow_sub_one]; simp [hi]) rfl]
  unfold agP trN
  rfl
theorem x_wo_l {Q : Int → Mem → Prop} {s n : Nat} {M0 : Mem} (hp : POK N p) (hs8 : s < 256) (h : ∀ M', IX M' t p → stX M0 M' → Q (agP (pW p) (reS (pS p) (rmP s n (sRe (pS p))))) M') :
    ∀ (k : Nat) (M : Mem) (l : List (Int × Int × Int)), k ≤ 8 → k ≤ l.length → reOK (pW p) l → IX M t p → stX M0 M → SX M 46 (pW p) (reS (pS p) l) → rmP s k l = rmP s n (sRe (pS p)) → m_X11_agreesWithout_L24 Q s (k + 1) ((k : Int) - 1) M
  | 0, M, l, k8, kl, ok, hx, s0, hs, he => by
    unfold m_X11_agreesWithout_L24
    refine ⟨by decide, fun _ => ?_, fun q => absurd (show ((0 : Nat) : Int) - 1 < 0 by decide) q⟩
    rw [hx.2.1.1]
    have kt := isTown hx.2.1.2.2.1.1
    refine ⟨hx.2.1.2.2.1.1, x_agreesIn (by decide) hx.2.1.2.2.1 hs hp.2.1.1 (hp.2.2.1.1.1.re ok) fun M1 o1 => ⟨agP_01 _ _, ?_⟩⟩
    have := h M1 (hx.scr (o1.scr kt)) (s0.tr (o1.scr kt).st)
    rw [← he] at this
    exact this
  | k + 1, M, l, k8, kl, ok, hx, s0, hs, he => by
    have e := z_bit (a := s) (k := k) (by omega) (by omega)
    have l9 := ok.1
    unfold m_X11_agreesWithout_L24 m_X11_agreesWithout_J48
    rw [show ((k + 1 : Nat) : Int) - 1 = k by omega, e, show (k : Int) + (-1) = (k : Int) - 1 by omega]
    rw [show rmP s (k + 1) l = rmP s k (if s.testBit k then l.eraseIdx k else l) from rfl] at he
    refine ⟨by omega, fun q => by omega, fun _ => ?_⟩
    cases c : s.testBit k
    · rw [c] at he
      exact ⟨by decide, fun z => absurd z (by decide), fun _ => x_wo_l hp hs8 h k M l (by omega) (by omega) ok hx s0 hs he⟩
    · rw [c] at he
      refine ⟨by decide, fun _ => x_remove (l := l) (by decide) hs.2.2.2.2 l9 (by omega) fun M1 o1 r1 => ?_, fun z => absurd rfl z⟩
      have s1 : SX M1 46 (pW p) (reS (pS p) (l.eraseIdx k)) := hs.re (S := reS (pS p) l) o1 r1
      have z1 : scrX M M1 := ⟨fun a a1 a2 a3 a4 a5 a6 a7 => o1 a (by omega), by rw [o1 187 (by decide)]⟩
      exact x_wo_l hp hs8 h k M1 _ (by omega) (by rw [List.length_eraseIdx_of_lt (by omega)]; omega) ok.erase (hx.scr z1) (s0.tr z1.st) s1 he
theorem x_without {Q : Int → Mem → Prop} {s : Nat} (hx : IX M t p) (hp : POK N p) (hs8 : s < 256) (h : ∀ M', IX M' t p → stX M M' → Q (agP (pW p) (reS (pS p) (rmP s (sRe (pS p)).length (sRe (pS p))))) M') : m_X11_agreesWithout s M Q := by
  unfold m_X11_agreesWithout
  refine x_copy46 hx hp fun M1 hx1 o1 s1 => ⟨(sRe (pS p)).length + 1, ?_⟩
  have e : M1 42 0 = _ := hx1.2.2.1.1.2.2.2.2.1
  rw [e]
  exact x_wo_l (M0 := M) hp hs8 h _ M1 (sRe (pS p)) hp.2.2.1.1.2.1 (Nat.le_refl _) hp.2.2.1.1.1.2.2.2.2 hx1 o1 s1 rfl
theorem x_cuts_25 {Q : Int → Mem → Prop} {K : Int → Mem → Prop} {n z : Nat} {M0 : Mem} (hp : POK N p) (hn : n = (sRe (pS p)).length) (hz : z ≤ n) (hQ : ∀ r M', IX M' t p → stX M0 M' → bsB (cutP p) (2 ^ n) r → Q r M') (hK : ∀ M', IX M' t p → stX M0 M' → (∀ s, s < 2 ^ n → cutP p s → z < pop s) → K ((z : Int) + 1) M') :
    ∀ (d k : Nat) (M : Mem), k + d = 2 ^ n → IX M t p → stX M0 M → (∀ s, s < 2 ^ n → cutP p s → z < pop s ∨ (z = pop s ∧ k ≤ s)) → m_X11_cuts_L25 K Q (n : Nat) (2 ^ n : Nat) z (d + 1) k M
  | 0, k, M, hk, hx, s0, hi => by
    have l8 := hp.2.2.1.1.2.1
    have n8 : 2 ^ n ≤ 2 ^ 8 := Nat.pow_le_pow_right (by decide) (by omega)
    unfold m_X11_cuts_L25
    exact ⟨by omega, by omega, fun _ => hK M hx s0 (fun s h1 h2 => by have := hi s h1 h2; omega), fun q => by omega⟩
  | d + 1, k, M, hk, hx, s0, hi => by
    have l8 := hp.2.2.1.1.2.1
    have n8 : 2 ^ n ≤ 2 ^ 8 := Nat.pow_le_pow_right (by decide) (by omega)
    have p8 := pop_le k (by omega)
    have nx : (z = pop k → ¬ cutP p k) → ∀ s, s < 2 ^ n → cutP p s → z < pop s ∨ (z = pop s ∧ k + 1 ≤ s) := fun h0 s h1 h2 => by
      have := hi s h1 h2
      by_cases c : s = k
      · subst c
        by_cases e : z = pop s
        · exact absurd h2 (h0 e)
        · omega
      · omega
    unfold m_X11_cuts_L25 m_X11_cuts_J52
    refine ⟨by omega, by omega, fun q => by omega, fun _ => j_bitCount (by omega) ?_⟩
    rw [Int.toNat_natCast]
    refine ⟨by omega, by omega, fun q => x_without hx hp (by omega) fun M1 hx1 o1 => ?_, fun q => x_cuts_25 hp hn hz hQ hK d (k + 1) M (by omega) hx s0 (nx (fun e => absurd (by omega) q))⟩
    rcases agP_01 (pW p) (reS (pS p) (rmP k (sRe (pS p)).length (sRe (pS p)))) with y | y
    · rw [y]
      refine ⟨by decide, fun _ => x_cuts_25 hp hn hz hQ hK d (k + 1) M1 (by omega) hx1 (s0.tr o1) (nx (fun _ w => ?_)), fun w => absurd rfl w⟩
      unfold cutP at w
      rw [y] at w
      exact absurd w (by decide)
    · rw [y]
      refine ⟨by decide, fun w => absurd w (by decide), fun _ => hQ _ M1 hx1 (s0.tr o1) (Or.inr ⟨k, rfl, by omega, y, fun s h1 h2 => ?_⟩)⟩
      have := hi s h1 h2
      omega
theorem x_cuts_17 {Q : Int → Mem → Prop} {n : Nat} {M0 : Mem} (hp : POK N p) (hn : n = (sRe (pS p)).length) (hQ : ∀ r M', IX M' t p → stX M0 M' → bsB (cutP p) (2 ^ n) r → Q r M') :
    ∀ (d z : Nat) (M : Mem), z + d = n + 1 → IX M t p → stX M0 M → (∀ s, s < 2 ^ n → cutP p s → z ≤ pop s) → m_X11_cuts_L17 Q (n : Nat) (2 ^ n : Nat) (d + 1) z M
  | 0, z, M, hk, hx, s0, hi => by
    have l8 := hp.2.2.1.1.2.1
    have p0 : 0 < 2 ^ n := Nat.two_pow_pos n
    have a := hi (2 ^ n - 1) (by omega) (by rw [hn]; exact cutP_all)
    have c := pop_pow n (by omega) (2 ^ n - 1) (by omega)
    omega
  | d + 1, z, M, hk, hx, s0, hi => by
    have l8 := hp.2.2.1.1.2.1
    unfold m_X11_cuts_L17
    refine ⟨by omega, by omega, fun q => by omega, fun _ => ⟨2 ^ n + 1, x_cuts_25 hp hn (by omega) hQ (fun M1 hx1 o1 h1 => x_cuts_17 hp hn hQ d (z + 1) M1 (by omega) hx1 o1 (fun s a c => h1 s a c)) (2 ^ n) 0 M (by omega) hx s0 (fun s a c => ?_)⟩⟩
    have := hi s a c
    omega
theorem y_ct_44 {Q : Int → Mem → Prop} {K : Int → Int → Mem → Prop} {v : Int} {s n : Nat} {M0 : Mem} (hp : POK N p) (hs8 : s < 256) (h : ∀ M', IY M' b p → stY M0 M' → (agP (pW p) (reS (pS p) (rmP s n (sRe (pS p)))) = 1 → K s ((s : Int) + 1) M') ∧ (¬ agP (pW p) (reS (pS p) (rmP s n (sRe (pS p)))) = 1 → K v ((s : Int) + 1) M')) :
    ∀ (k : Nat) (M : Mem) (l : List (Int × Int × Int)), k ≤ 8 → (∀ i, i < k → s.testBit i = true → i < l.length) → reOK (pW p) l → IY M b p → stY M0 M → SY M 1 (pW p) (reS (pS p) l) → rmP s k l = rmP s n (sRe (pS p)) → m_X12_cuts_L44 K Q v s (k + 1) ((k : Int) - 1) M
  | 0, M, l, k8, kl, ok, hy, s0, hs, he => by
    unfold m_X12_cuts_L44 m_X12_cuts_J78
    refine ⟨by decide, fun _ => ?_, fun q => absurd (show ((0 : Nat) : Int) - 1 < 0 by decide) q⟩
    refine y_isAgreed hy.2.1.2.1 hs hp.2.1.1 (hp.2.2.1.1.1.re ok) hy.2.1.1 fun M1 o1 _ => ?_
    have := h M1 (hy.scr hp o1.scr) (s0.tr o1.scr.st)
    rw [← he] at this
    unfold rmP at this
    rcases agP_01 (pW p) (reS (pS p) l) with y | y
    · rw [y] at this ⊢
      exact ⟨by decide, fun _ => this.2 (by decide), fun w => absurd rfl w⟩
    · rw [y] at this ⊢
      exact ⟨by decide, fun w => absurd w (by decide), fun _ => this.1 rfl⟩
  | k + 1, M, l, k8, kl, ok, hy, s0, hs, he => by
    have l9 := ok.1
    unfold m_X12_cuts_L44 m_X12_cuts_J62
    rw [show ((k + 1 : Nat) : Int) - 1 = k by omega, show (k : Int) + (-1) = (k : Int) - 1 by omega]
    rw [show rmP s (k + 1) l = rmP s k (if s.testBit k then l.eraseIdx k else l) from rfl] at he
    refine ⟨by omega, fun q => by omega, fun _ => y_has2I (by omega) (by omega) ?_⟩
    rw [Int.toNat_natCast]
    cases c : s.testBit k
    · rw [c] at he
      exact ⟨by decide, fun _ => y_ct_44 hp hs8 h k M l (by omega) (fun i hi => kl i (by omega)) ok hy s0 hs he, fun z => absurd rfl z⟩
    · rw [c] at he
      have kk := kl k (by omega) c
      refine ⟨by decide, fun z => absurd z (by decide), fun _ => y_takes (by decide) hs.2.2.2.2 l9 kk fun M1 o1 r1 z1 => ?_⟩
      have s1 : SY M1 1 (pW p) (reS (pS p) (l.eraseIdx k)) := hs.re (S := reS (pS p) l) z1 r1
      exact y_ct_44 hp hs8 h k M1 _ (by omega) (fun i hi _ => by rw [List.length_eraseIdx_of_lt kk]; have : k < l.length := kk; omega) ok.erase (hy.scr hp o1.scr) (s0.tr o1.st) s1 he
theorem y_ct_35 {Q : Int → Mem → Prop} {K : Int → Int → Mem → Prop} {v : Int} {s : Nat} (hy : IY M b p) (hp : POK N p) (hs8 : s < 2 ^ (sRe (pS p)).length) (h : ∀ M', IY M' b p → stY M M' → (cutP p s → K s ((s : Int) + 1) M') ∧ (¬ cutP p s → K v ((s : Int) + 1) M')) : m_X12_cuts_J35 K Q v s M := by
  have l8 := hp.2.2.1.1.2.1
  have n8 : 2 ^ (sRe (pS p)).length ≤ 2 ^ 8 := Nat.pow_le_pow_right (by decide) (by omega)
  unfold m_X12_cuts_J35
  refine y_copy1 hy hp fun M1 hy1 o1 s1 _ => ⟨9, ?_⟩
  have := y_ct_44 (Q := Q) (K := K) (v := v) (n := (sRe (pS p)).length) (M0 := M) hp (by omega) h 8 M1 (sRe (pS p)) (by omega) (fun i hi z => ?_) hp.2.2.1.1.1.2.2.2.2 hy1 o1 s1 ?_
  · exact this
  · by_cases c : i < (sRe (pS p)).length
    · exact c
    · rw [Nat.testBit_lt_two_pow (Nat.lt_of_lt_of_le hs8 (Nat.pow_le_pow_right (by decide) (by omega)))] at z
      exact absurd z (by decide)
  · have := rmP_hi (l := sRe (pS p)) hs8 (8 - (sRe (pS p)).length)
    rwa [show (sRe (pS p)).length + (8 - (sRe (pS p)).length) = 8 by omega] at this
theorem y_cuts_4 {Q : Int → Mem → Prop} {n : Nat} {M0 : Mem} (hp : POK N p) (hn : n = (sRe (pS p)).length) (hQ : ∀ r M', IY M' b p → stY M0 M' → bsB (cutP p) (2 ^ n) r → Q r M') :
    ∀ (d k : Nat) (v : Int) (M : Mem), k + d = 2 ^ n → IY M b p → stY M0 M → bsB (cutP p) k v → m_X12_cuts_L4 Q (d + 1) v k M
  | 0, k, v, M, hk, hy, s0, hb => by
    have l8 := hp.2.2.1.1.2.1
    have n8 : 2 ^ n ≤ 2 ^ 8 := Nat.pow_le_pow_right (by decide) (by omega)
    have e : M 230 0 = _ := hy.2.2.1.1.2.2.2.2.1
    unfold m_X12_cuts_L4
    rw [e, ← hn, z_shl1 (by omega), Int.toNat_natCast]
    refine ⟨by omega, by omega, fun _ => hQ v M hy s0 ?_, fun q => by omega⟩
    rw [show 2 ^ n = k by omega]
    exact hb
  | d + 1, k, v, M, hk, hy, s0, hb => by
    have l8 := hp.2.2.1.1.2.1
    have n8 : 2 ^ n ≤ 2 ^ 8 := Nat.pow_le_pow_right (by decide) (by omega)
    have e : M 230 0 = _ := hy.2.2.1.1.2.2.2.2.1
    have vI := hb.I (by omega)
    have p8 := pop_le k (by omega)
    have v8 : v = -1 ∨ (0 ≤ v ∧ v < 256) := by
      rcases hb with ⟨h1, h2⟩ | ⟨i, h1, h2, h3⟩ <;> omega
    have go : (¬ v = -1 → pop k < pop v.toNat) → ∀ M1, IY M1 b p → stY M0 M1 → m_X12_cuts_J35 (m_X12_cuts_L4 Q (d + 1)) Q v k M1 := fun hv M1 hy1 o1 => by
      refine y_ct_35 hy1 hp (by rw [← hn]; omega) fun M2 hy2 o2 => ⟨fun z => ?_, fun z => ?_⟩
      · exact y_cuts_4 hp hn hQ d (k + 1) k M2 (by omega) hy2 (o1.tr o2) (hb.take hv z)
      · exact y_cuts_4 hp hn hQ d (k + 1) v M2 (by omega) hy2 (o1.tr o2) (hb.skip z)
    unfold m_X12_cuts_L4 m_X12_cuts_J78
    rw [e, ← hn, z_shl1 (by omega), Int.toNat_natCast]
    refine ⟨by omega, by omega, fun q => by omega, fun _ => ⟨vI, fun q => go (fun z => absurd q z) M hy s0, fun q => y_bits (by omega) (y_bits (by omega) ?_)⟩⟩
    rw [Int.toNat_natCast]
    have p9 := pop_le v.toNat (by omega)
    exact ⟨by omega, by omega, fun z => go (fun _ => by omega) M hy s0, fun z => y_cuts_4 hp hn hQ d (k + 1) v M (by omega) hy s0 (hb.more q (by omega))⟩
theorem s_cuts (hi : Inv N M) : m_X11_cuts M (fun r1 M1 => m_X12_cuts M1 (fun r2 M2 => Good N r1 r2 M2)) := by
  obtain ⟨t, b, p, hp, hx, hy⟩ := hi
  have l8 := hp.2.2.1.1.2.1
  have n8 : 2 ^ (sRe (pS p)).length ≤ 2 ^ 8 := Nat.pow_le_pow_right (by decide) (by omega)
  have e : M 42 0 = _ := hx.2.2.1.1.2.2.2.2.1
  unfold m_X11_cuts
  rw [e, z_shl1 (by omega), Int.toNat_natCast]
  refine ⟨_, x_cuts_17 (M0 := M) hp rfl (fun r M2 hx2 o2 f2 => ?_) ((sRe (pS p)).length + 1) 0 M (by omega) hx stX.rf (fun s _ _ => by omega)⟩
  have hy2 := hy.st o2
  refine ⟨_, y_cuts_4 (M0 := M2) hp rfl (fun r' M4 hy4 o4 f4 => ?_) (2 ^ (sRe (pS p)).length) 0 (-1) M2 (by omega) hy2 stY.rf (bsB.z _)⟩
  rw [f4.eq f2]
  exact fin hp (hx2.st o4) hy4 (f2.I (by omega))
/-! crowd -/
def waS (S : TS) (s : Nat) : TS := (sDay S, s, sSp S, sRe S)
def crwP (p : PT) (s : Nat) : Prop := agP (pW p) (waS (pS p) s) = 1
theorem waS_ok {W : TW} {S : TS} {s : Nat} (h : SOK W S) (hs : s < 64) : SOK W (waS S s) := ⟨h.1, h.2.1, hs, h.2.2.2.1, h.2.2.2.2⟩
theorem x_crowd_33 {Q : Int → Mem → Prop} {K : Int → Mem → Prop} {n z : Nat} {M0 : Mem} (hp : POK N p) (hn : n = wPn (pW p)) (hz : z ≤ n) (hQ : ∀ r M', IX M' t p → stX M0 M' → bsB (crwP p) (2 ^ n) r → Q r M') (hK : ∀ M' w, IX M' t p → stX M0 M' → SX M' 46 (pW p) (waS (pS p) w) → (∀ s, s < 2 ^ n → crwP p s → z < pop s) → K ((z : Int) + 1) M') :
    ∀ (d k w : Nat) (M : Mem), k + d = 2 ^ n → IX M t p → stX M0 M → SX M 46 (pW p) (waS (pS p) w) → (∀ s, s < 2 ^ n → crwP p s → z < pop s ∨ (z = pop s ∧ k ≤ s)) → m_X11_crowd_L33 K Q (n : Nat) (2 ^ n : Nat) z (d + 1) k M
  | 0, k, w, M, hk, hx, s0, hs, hi => by
    have w2 := hp.2.1.1.2.1
    have n8 : 2 ^ n ≤ 2 ^ 6 := Nat.pow_le_pow_right (by decide) (by omega)
    unfold m_X11_crowd_L33
    exact ⟨by omega, by omega, fun _ => hK M w hx s0 hs (fun s h1 h2 => by have := hi s h1 h2; omega), fun q => by omega⟩
  | d + 1, k, w, M, hk, hx, s0, hs, hi => by
    have w2 := hp.2.1.1.2.1
    have n8 : 2 ^ n ≤ 2 ^ 6 := Nat.pow_le_pow_right (by decide) (by omega)
    have p8 := pop_le k (by omega)
    have nx : (z = pop k → ¬ crwP p k) → ∀ s, s < 2 ^ n → crwP p s → z < pop s ∨ (z = pop s ∧ k + 1 ≤ s) := fun h0 s h1 h2 => by
      have := hi s h1 h2
      by_cases c : s = k
      · subst c
        by_cases e : z = pop s
        · exact absurd h2 (h0 e)
        · omega
      · omega
    have kt := isTown hx.2.1.2.2.1.1
    unfold m_X11_crowd_L33 m_X11_crowd_J81
    refine ⟨by omega, by omega, fun q => by omega, fun _ => j_bitCount (by omega) ?_⟩
    rw [Int.toNat_natCast]
    refine ⟨by omega, by omega, fun q M1 e1 => ?_, fun q => x_crowd_33 hp hn hz hQ hK d (k + 1) w M (by omega) hx s0 hs (nx (fun e => absurd (by omega) q))⟩
    have z1 : offS 46 M M1 := offS.rf.up e1 (by decide)
    have hx1 := hx.scr z1.scr
    have s1 : SX M1 46 (pW p) (waS (pS p) k) := by
      obtain ⟨h1, h2, h3, h4, h5⟩ := hs
      refine ⟨h1, ?_, ?_, ?_, ?_⟩
      · rw [e1]; simp only [up_get]; rw [if_neg (by decide)]; exact h2
      · rw [e1]; simp [up_get, waS]
      · rw [e1, up_ne _ (by decide)]; exact h4
      · exact h5.off (by rw [e1, up_ne _ (by decide)]) (by rw [e1, up_ne _ (by decide)]) (by rw [e1, up_ne _ (by decide)]) (by rw [e1, up_ne _ (by decide)])
    rw [hx1.2.1.1]
    refine ⟨hx.2.1.2.2.1.1, x_agreesIn (by decide) hx1.2.1.2.2.1 s1 hp.2.1.1 (waS_ok hp.2.2.1.1.1 (by omega)) fun M2 o2 => ?_⟩
    have hx2 := hx1.scr (o2.scr kt)
    have st2 := (s0.tr z1.scr.st).tr (o2.scr kt).st
    have s2 := s1.off (by decide) hx.2.1.2.2.1.1 o2
    rcases agP_01 (pW p) (waS (pS p) k) with y | y
    · rw [y]
      refine ⟨by decide, fun _ => x_crowd_33 hp hn hz hQ hK d (k + 1) k M2 (by omega) hx2 st2 s2 (nx (fun _ w => ?_)), fun w => absurd rfl w⟩
      unfold crwP at w
      rw [y] at w
      exact absurd w (by decide)
    · rw [y]
      refine ⟨by decide, fun w => absurd w (by decide), fun _ => hQ _ M2 hx2 st2 (Or.inr ⟨k, rfl, by omega, y, fun s h1 h2 => ?_⟩)⟩
      have := hi s h1 h2
      omega
theorem x_crowd_25 {Q : Int → Mem → Prop} {n : Nat} {M0 : Mem} (hp : POK N p) (hn : n = wPn (pW p)) (hQ : ∀ r M', IX M' t p → stX M0 M' → bsB (crwP p) (2 ^ n) r → Q r M') :
    ∀ (d z w : Nat) (M : Mem), z + d = n + 1 → IX M t p → stX M0 M → SX M 46 (pW p) (waS (pS p) w) → (∀ s, s < 2 ^ n → crwP p s → z ≤ pop s) → m_X11_crowd_L25 Q (n : Nat) (2 ^ n : Nat) (d + 1) z M
  | 0, z, w, M, hk, hx, s0, hs, hi => by
    have w2 := hp.2.1.1.2.1
    unfold m_X11_crowd_L25
    refine ⟨by omega, by omega, fun _ => hQ _ M hx s0 (Or.inl ⟨rfl, fun s h1 h2 => ?_⟩), fun q => by omega⟩
    have a := hi s h1 h2
    have c := pop_pow n (by omega) s h1
    omega
  | d + 1, z, w, M, hk, hx, s0, hs, hi => by
    have w2 := hp.2.1.1.2.1
    unfold m_X11_crowd_L25
    refine ⟨by omega, by omega, fun q => by omega, fun _ => ⟨2 ^ n + 1, x_crowd_33 hp hn (by omega) hQ (fun M1 w1 hx1 o1 s1 h1 => x_crowd_25 hp hn hQ d (z + 1) w1 M1 (by omega) hx1 o1 s1 (fun s a c => h1 s a c)) (2 ^ n) 0 w M (by omega) hx s0 hs (fun s a c => ?_)⟩⟩
    have := hi s a c
    omega
theorem y_cr_38 {Q : Int → Mem → Prop} {K : Int → Int → Mem → Prop} {v : Int} {s : Nat} (hy : IY M b p) (hp : POK N p) (hs8 : s < 64) (h : ∀ M', IY M' b p → stY M M' → (crwP p s → K s ((s : Int) + 1) M') ∧ (¬ crwP p s → K v ((s : Int) + 1) M')) : m_X12_crowd_J38 K Q v s M := by
  unfold m_X12_crowd_J38 m_X12_crowd_J61
  refine y_copy1 hy hp fun M1 hy1 o1 s1 _ M2 e2 => ?_
  have o2 : othY 1 M1 M2 := othY.one e2 (by decide)
  have hy2 := hy1.scr hp o2.scr
  have s2 : SY M2 1 (pW p) (waS (pS p) s) := by
    obtain ⟨h1, h2, h3, h4, h5⟩ := s1
    refine ⟨h1, ?_, ?_, ?_, ?_, ?_⟩
    · rw [e2, up_ne _ (by decide)]; exact h2
    · rw [e2]; simp [up_get, waS]
    · rw [e2, up_ne _ (by decide)]; exact h4
    · rw [e2, up_ne _ (by decide)]; exact h5.1
    · rw [e2, up_ne _ (by decide)]; exact h5.2
  refine y_isAgreed hy2.2.1.2.1 s2 hp.2.1.1 (waS_ok hp.2.2.1.1.1 hs8) hy2.2.1.1 fun M3 o3 _ => ?_
  have := h M3 (hy2.scr hp o3.scr) ((o1.tr o2.st).tr o3.scr.st)
  unfold crwP at this
  rcases agP_01 (pW p) (waS (pS p) s) with y | y
  · rw [y] at this ⊢
    exact ⟨by decide, fun _ => this.2 (by decide), fun w => absurd rfl w⟩
  · rw [y] at this ⊢
    exact ⟨by decide, fun w => absurd w (by decide), fun _ => this.1 rfl⟩
theorem y_crowd_4 {Q : Int → Mem → Prop} {n : Nat} {M0 : Mem} (hp : POK N p) (hn : n = wPn (pW p)) (hQ : ∀ r M', IY M' b p → stY M0 M' → bsB (crwP p) (2 ^ n) r → Q r M') :
    ∀ (d k : Nat) (v : Int) (M : Mem), k + d = 2 ^ n → IY M b p → stY M0 M → bsB (crwP p) k v → m_X12_crowd_L4 Q (d + 1) v k M
  | 0, k, v, M, hk, hy, s0, hb => by
    have w2 := hp.2.1.1.2.1
    have b1 := hy.2.1.2.1.1
    have n8 : 2 ^ n ≤ 2 ^ 6 := Nat.pow_le_pow_right (by decide) (by omega)
    unfold m_X12_crowd_L4
    rw [hy.2.1.1, hy.2.1.2.1.2.2.1, ← hn, z_shl1 (by omega), Int.toNat_natCast]
    refine ⟨by omega, by omega, by omega, fun _ => hQ v M hy s0 ?_, fun q => by omega⟩
    rw [show 2 ^ n = k by omega]
    exact hb
  | d + 1, k, v, M, hk, hy, s0, hb => by
    have w2 := hp.2.1.1.2.1
    have b1 := hy.2.1.2.1.1
    have n8 : 2 ^ n ≤ 2 ^ 6 := Nat.pow_le_pow_right (by decide) (by omega)
    have vI := hb.I (by omega)
    have p8 := pop_le k (by omega)
    have v8 : v = -1 ∨ (0 ≤ v ∧ v < 256) := by
      rcases hb with ⟨h1, h2⟩ | ⟨i, h1, h2, h3⟩ <;> omega
    have go : (¬ v = -1 → pop k < pop v.toNat) → ∀ M1, IY M1 b p → stY M0 M1 → m_X12_crowd_J38 (m_X12_crowd_L4 Q (d + 1)) Q v k M1 := fun hv M1 hy1 o1 => by
      refine y_cr_38 hy1 hp (by omega) fun M2 hy2 o2 => ⟨fun z => ?_, fun z => ?_⟩
      · exact y_crowd_4 hp hn hQ d (k + 1) k M2 (by omega) hy2 (o1.tr o2) (hb.take hv z)
      · exact y_crowd_4 hp hn hQ d (k + 1) v M2 (by omega) hy2 (o1.tr o2) (hb.skip z)
    unfold m_X12_crowd_L4 m_X12_crowd_J61
    rw [hy.2.1.1, hy.2.1.2.1.2.2.1, ← hn, z_shl1 (by omega), Int.toNat_natCast]
    refine ⟨by omega, by omega, by omega, fun q => by omega, fun _ => ⟨vI, fun q => go (fun z => absurd q z) M hy s0, fun q => y_bits (by omega) (y_bits (by omega) ?_)⟩⟩
    rw [Int.toNat_natCast]
    have p9 := pop_le v.toNat (by omega)
    exact ⟨by omega, by omega, fun z => go (fun _ => by omega) M hy s0, fun z => y_crowd_4 hp hn hQ d (k + 1) v M (by omega) hy s0 (hb.more q (by omega))⟩
theorem s_crowd (hi : Inv N M) : m_X11_crowd M (fun r1 M1 => m_X12_crowd M1 (fun r2 M2 => Good N r1 r2 M2)) := by
  obtain ⟨t, b, p, hp, hx, hy⟩ := hi
  have w2 := hp.2.1.1.2.1
  have n8 : 2 ^ wPn (pW p) ≤ 2 ^ 6 := Nat.pow_le_pow_right (by decide) (by omega)
  unfold m_X11_crowd
  rw [hx.2.1.1, hx.2.1.2.2.1.2.2.1, z_shl1 (by omega), Int.toNat_natCast]
  refine ⟨hx.2.1.2.2.1.1, x_copy46 hx hp fun M1 hx1 o1 s1 => ⟨_, x_crowd_25 (M0 := M) hp rfl (fun r M2 hx2 o2 f2 => ?_) (wPn (pW p) + 1) 0 (sWa (pS p)) M1 (by omega) hx1 o1 s1 (fun s _ _ => by omega)⟩⟩
  have hy2 := hy.st o2
  refine ⟨_, y_crowd_4 (M0 := M2) hp rfl (fun r' M4 hy4 o4 f4 => ?_) (2 ^ wPn (pW p)) 0 (-1) M2 (by omega) hy2 stY.rf (bsB.z _)⟩
  rw [f4.eq f2]
  exact fin hp (hx2.st o4) hy4 (f2.I (by omega))
end
