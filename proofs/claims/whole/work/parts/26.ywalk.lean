/-! the model's day -/
def offL (L : List Int) (M M' : Mem) : Prop := ∀ a, a ∉ L → M' a = M a
theorem offR.rf {a : Int} {M : Mem} : offR a M M := fun _ _ => rfl
theorem offL.rf {L : List Int} {M : Mem} : offL L M M := fun _ _ => rfl
theorem offL.tr {L : List Int} {M M1 M2 : Mem} (h : offL L M M1) (k : offL L M1 M2) : offL L M M2 := fun a ha => by rw [k a ha, h a ha]
theorem offR.L {L : List Int} {a0 : Int} {M M1 : Mem} (h : offR a0 M M1) (ha : a0 ∈ L) : offL L M M1 := fun a k => h a (fun e => k (e ▸ ha))
theorem offL.up {L : List Int} {M M1 M2 : Mem} {a k v : Int} (h : offL L M M1) (e : M2 = up M1 a k v) (ha : a ∈ L) : offL L M M2 := fun c hc => by
  rw [e, up_ne M1 (k := k) (v := v) (show c ≠ a from fun q => hc (by rw [q]; exact ha)), h c hc]
theorem y_has2 {a : Int} {k : Nat} {M : Mem} {Q : Int → Mem → Prop} (ha : 0 ≤ a ∧ a < 2147483648) (hk : k < 32) (h : Q (if a.toNat.testBit k then 1 else 0) M) : m_X12_has2 a k M Q := by
  have e := z_bit (a := a.toNat) (k := k) hk (by omega)
  rw [toNat_i ha.1] at e
  unfold m_X12_has2 m_X12_has2_J14
  rw [e]
  cases c : a.toNat.testBit k
  · rw [c] at h
    exact ⟨by decide, fun q => absurd q (by decide), fun _ => ⟨by decide, h⟩⟩
  · rw [c] at h
    exact ⟨by decide, fun _ => ⟨by decide, h⟩, fun q => absurd rfl q⟩
theorem y_many_l {step place b : Int} {M : Mem} {Q : Int → Mem → Prop} {pn : Nat} (hb : M 199 13 = b) (hb2 : b = 0 ∨ b = 1) (hpn : M 205 b = (pn : Nat)) (h6 : pn ≤ 6) (hs : 0 ≤ step ∧ step ≤ 8) (hr : ∀ p : Nat, p < pn → inI (M 236 (6 * step + p))) (hp : inI place) (h : Q (cntP (fun p => M 236 (6 * step + p)) pn place) M) :
    ∀ d p : Nat, p + d = pn → m_X12_manyAt_L5 Q step place (d + 1) (cntP (fun p => M 236 (6 * step + p)) p place) p M
  | 0, p, hd => by
    obtain rfl : p = pn := by omega
    have cr := cntP_rng (fun p => M 236 (6 * step + p)) place p
    unfold m_X12_manyAt_L5
    rw [hb, hpn]
    exact ⟨by omega, by omega, by omega, fun _ => h, fun q => by omega⟩
  | d + 1, p, hd => by
    have ih := y_many_l hb hb2 hpn h6 hs hr hp h d (p + 1) (by omega)
    have hrp := hr p (by omega)
    have cr := cntP_rng (fun p => M 236 (6 * step + p)) place p
    unfold m_X12_manyAt_L5 m_X12_manyAt_J41
    rw [hb, hpn]
    refine ⟨by omega, by omega, by omega, fun q => by omega, fun _ => ⟨by omega, hrp, hp, fun q => ?_, fun q => ?_⟩⟩
    · simp only [cntP] at ih
      rw [if_pos q] at ih
      exact ih
    · simp only [cntP] at ih
      rw [if_neg q] at ih
      exact ih
theorem y_manyAt {step place b : Int} {M : Mem} {Q : Int → Mem → Prop} {pn : Nat} (hb : M 199 13 = b) (hb2 : b = 0 ∨ b = 1) (hpn : M 205 b = (pn : Nat)) (h6 : pn ≤ 6) (hs : 0 ≤ step ∧ step ≤ 8) (hr : ∀ p : Nat, p < pn → inI (M 236 (6 * step + p))) (hp : inI place) (h : Q (cntP (fun p => M 236 (6 * step + p)) pn place) M) : m_X12_manyAt step place M Q :=
  ⟨_, y_many_l hb hb2 hpn h6 hs hr hp h pn 0 (by omega)⟩
theorem getD_drop {α : Type} {l : List α} {k : Nat} {d : α} (h : k < l.length) : l.drop k = l.getD k d :: l.drop (k + 1) := by
  rw [List.drop_eq_getElem_cons h]
  simp [h]
theorem y_shown_l {v step place : Int} {M : Mem} {Q : Int → Mem → Prop} {l : List (Int × Int × Int)} {W : TW} (hv : 0 ≤ v ∧ v < 22) (hr : reY M v l) (hl : l.length ≤ 9) (hok : ∀ q ∈ l, frOKP W q) (hW : wPl W ≤ 7) (h1 : inI step) (h2 : inI place) (h : Q (shP l step place) M) :
    ∀ d k : Nat, k + d = l.length → shP (l.drop k) step place = shP l step place → m_X12_shownAt_L3 Q v step place (d + 1) k M
  | 0, k, hd, e => by
    unfold m_X12_shownAt_L3
    rw [hr.1]
    rw [List.drop_eq_nil_of_le (by omega)] at e
    rw [← e] at h
    exact ⟨hv, by omega, by omega, fun _ => h, fun q => by omega⟩
  | d + 1, k, hd, e => by
    have hk : k < l.length := by omega
    rw [getD_drop (d := (0, 0, 0)) hk] at e
    obtain ⟨r1, r2, r3⟩ := hr.2 k hk
    have ho : frOKP W (l.getD k (0, 0, 0)) := hok _ (by rw [List.getD_eq_getElem?_getD, List.getElem?_eq_getElem hk]; exact List.getElem_mem hk)
    have ih := y_shown_l hv hr hl hok hW h1 h2 h d (k + 1) (by omega)
    simp only [shP] at e
    unfold frOKP at ho
    unfold m_X12_shownAt_L3 m_X12_shownAt_J59
    rw [hr.1, r1, r2, r3]
    refine ⟨hv, by omega, by omega, fun q => by omega, fun _ => ⟨by omega, by omega, h1, fun q1 => ⟨by omega, by omega, h2, fun q2 => ⟨by omega, ?_⟩, fun q2 => ?_⟩, fun q1 => ?_⟩⟩
    · rw [if_pos ⟨q1, q2⟩] at e
      rw [e]; exact h
    · rw [if_neg (fun z => q2 z.2)] at e
      exact ih e
    · rw [if_neg (fun z => q1 z.1)] at e
      exact ih e
theorem y_shownAt {v step place : Int} {M : Mem} {Q : Int → Mem → Prop} {l : List (Int × Int × Int)} {W : TW} (hv : 0 ≤ v ∧ v < 22) (hr : reY M v l) (hl : reOK W l) (hW : wPl W ≤ 7) (h1 : inI step) (h2 : inI place) (h : Q (shP l step place) M) : m_X12_shownAt v step place M Q :=
  ⟨_, y_shown_l hv hr hl.1 hl.2.1 hW h1 h2 h l.length 0 (by omega) rfl⟩
theorem SY.off {M M' : Mem} {v : Int} {W : TW} {S : TS} (h : SY M v W S) (e1 : M' 227 = M 227) (e2 : M' 228 = M 228) (e3 : M' 229 = M 229) (e4 : M' 230 = M 230) (e5 : M' 231 = M 231) : SY M' v W S := by
  unfold SY reY at *
  rw [e1, e2, e3, e4, e5]
  exact h
theorem TY.off {M M' : Mem} {b : Int} {W : TW} (h : TY M b W) (e : ∀ a, 201 ≤ a → a ≤ 217 → M' a = M a) : TY M' b W := by
  unfold TY cdY at *
  rw [e 201 (by decide) (by decide), e 205 (by decide) (by decide), e 203 (by decide) (by decide), e 204 (by decide) (by decide), e 207 (by decide) (by decide), e 214 (by decide) (by decide), e 215 (by decide) (by decide), e 216 (by decide) (by decide), e 217 (by decide) (by decide)]
  exact h
set_option maxHeartbeats 1000000 in
theorem y_tells {v b step place : Int} {p : Nat} {M : Mem} {Q : Mem → Prop} {W : TW} {S : TS} {f : Int → Int} (hT : TY M b W) (hV : SY M v W S) (hW : WOK W) (hS : SOK W S) (hb : M 199 13 = b) (hp : p < wPn W) (hs : 1 ≤ step ∧ step ≤ 8) (hpl : 0 ≤ place ∧ place < wPl W) (h0 : M 236 p = sSp S p)
    (hf : ∀ q : Nat, q < wPn W → M 236 (6 * (step - 1) + q) = f q) (hfr : ∀ q : Nat, q < wPn W → 0 ≤ f q ∧ f q < wPl W) (h : ∀ M', offR 235 M M' → (∀ i, 0 ≤ i → i < 7 → M' 235 (i + 1) = envP W S f p step (f p) place i) → Q M') : m_X12_tells v p step place M Q := by
  obtain ⟨t1, t2, t3, t4, t5, t6, t7⟩ := id hT
  obtain ⟨v1, v2, v3, v4, v5⟩ := id hV
  obtain ⟨w1, w2, w3, w4, w5, w6, w7, w8⟩ := id hW
  obtain ⟨s1, s2, s3, s4, s5⟩ := id hS
  have sp := s4 p hp
  have fp := hfr p hp
  have dd := t4 (sSp S p).toNat place.toNat (by omega) (by omega)
  rw [toNat_i sp.1, toNat_i hpl.1] at dd
  obtain ⟨-, -, d1, d2, d3⟩ := dd
  have kp := t5 p hp
  have fI : ∀ q : Nat, q < wPn W → inI (M 236 (6 * (step - 1) + q)) := fun q hq => by
    rw [hf q hq]
    have := hfr q hq
    omega
  have cn : ∀ z, cntP (fun q => M 236 (6 * (step - 1) + q)) (wPn W) z = cntP f (wPn W) z := fun z => cntP_cong hf
  unfold m_X12_tells m_X12_at
  rw [hb, h0, hf p hp]
  refine ⟨by omega, by omega, by omega, by omega, fun M1 e1 M2 e2 => ⟨v1, fun M3 e3 => ?_⟩⟩
  have o3 : offR 235 M M3 := ((offR.rf.up e1).up e2).up e3
  refine y_manyAt (b := b) (by rw [o3 199 (by decide), hb]) t1 (by rw [o3 205 (by decide)]; exact t3) w2 (by omega) (by rw [o3 236 (by decide)]; exact fI) (by omega) fun M4 e4 => ⟨v1, ?_⟩
  have o4 := o3.up e4
  rw [o3 236 (by decide), cn] at e4
  rw [o4 229 (by decide), v3]
  refine y_has2 (by omega) (by omega) ?_
  rw [Int.toNat_natCast]
  have fin : ∀ x, x = seenP S p step place → m_X12_tells_J123 Q step place (M 204 (49 * b + 7 * sSp S p + place)) 235 5 x M4 := by
    intro x ex
    unfold m_X12_tells_J123 m_X12_tells_J161
    rw [ln_235]
    refine ⟨by omega, fun M5 e5 => ?_⟩
    have o5 := o4.up e5
    refine y_manyAt (b := b) (by rw [o5 199 (by decide), hb]) t1 (by rw [o5 205 (by decide)]; exact t3) w2 (by omega) (by rw [o5 236 (by decide)]; exact fI) (by omega) fun M6 e6 => ?_
    have o6 := o5.up e6
    rw [o5 236 (by decide), cn] at e6
    have last : ∀ z M7, z = (if wDi W (sSp S p) place = -1 then 9 else wDi W (sSp S p) place) → M7 = up M6 235 7 z → Q M7 := by
      intro z M7 ez e7
      refine h M7 (o6.up e7) fun i i0 i7 => ?_
      rw [e7, e6, e5, e4, e3, e2, e1]
      simp only [up_get]
      have q1 := kp
      unfold envP
      rcases (show i = 0 ∨ i = 1 ∨ i = 2 ∨ i = 3 ∨ i = 4 ∨ i = 5 ∨ i = 6 by omega) with rfl | rfl | rfl | rfl | rfl | rfl | rfl <;> simp [q1, hb, v2, ex, ez]
    rw [d3] at last
    refine ⟨by omega, fun q => ⟨by decide, fun M7 e7 => last _ M7 ?_ e7⟩, fun q => ⟨by decide, fun M7 e7 => last _ M7 ?_ e7⟩⟩
    · rw [if_pos q, if_neg (by omega)]
    · rw [if_neg q, if_pos rfl]
  cases c : (sWa S).testBit p
  · refine ⟨by decide, fun _ => fin 9 (by unfold seenP; rw [c]; rfl), fun q => absurd rfl q⟩
  · refine ⟨by decide, fun q => absurd q (by decide), fun _ => ?_⟩
    exact y_shownAt v1 (hV.off (o4 227 (by decide)) (o4 228 (by decide)) (o4 229 (by decide)) (o4 230 (by decide)) (o4 231 (by decide))).2.2.2.2 s5 w1 (by omega) (by omega) (fin _ (by unfold seenP; rw [c]; rfl))
theorem y_isTold {w b : Int} {M : Mem} {Q : Int → Mem → Prop} (hb : M 199 13 = b) (hb2 : b = 0 ∨ b = 1) (hw : w = 0 ∨ w = 1) (hr : inI (M 214 (2 * b + w))) (h : Q (if M 214 (2 * b + w) = -1 then 0 else 1) M) : m_X12_isTold w M Q := by
  unfold m_X12_isTold m_X12_isTold_J22
  rw [hb]
  refine ⟨by omega, hr, fun q => ?_, fun q => ?_⟩
  · rw [if_pos q] at h; exact ⟨by decide, h⟩
  · rw [if_neg q] at h; exact ⟨by decide, h⟩
/-- the sum of goes (w = 1) or the test of stays (w = 0), told or not -/
theorem y_goes {b : Int} {env : Int → Int} (he : envB env) {M : Mem} {W : TW} (hT : TY M b W) (hb : M 199 13 = b) (hen : ∀ i, 0 ≤ i → i < 7 → M 235 (i + 1) = env i) {k : Int → Mem → Prop} (h : ∀ M', offR 234 M M' → k (fvP (wGo W) env) M') : m_X12_isTold 1 M (fun r M5 => (inI r) ∧ ((r = 0 → k 0 M5) ∧ (¬ r = 0 → m_X12_reckons 1 M5 (fun r9 M8 => k r9 M8)))) := by
  obtain ⟨t1, t2, t3, t4, t5, t6, t7⟩ := hT
  by_cases c : wGo W = []
  · rw [if_pos c] at t7
    refine y_isTold hb t1 (by decide) (by rw [t7]; decide) ?_
    rw [if_pos t7]
    refine ⟨by decide, fun _ => ?_, fun q => absurd rfl q⟩
    have := h M offR.rf
    rw [c] at this
    exact this
  · rw [if_neg c] at t7
    have c0 := t7.1
    have c1 := t7.2.1
    have c2 := t7.2.2.1
    refine y_isTold hb t1 (by decide) (by omega) ?_
    rw [if_neg (by omega)]
    exact ⟨by decide, fun q => absurd q (by decide), fun _ => y_reckons he hb t1 (by decide) t7 hen h⟩
theorem bestP_hi {W : TW} {S : TS} {f : Int → Int} {p : Nat} {step own : Int} : ∀ n : Nat, (bestP W S f p step own n).2 = -1000001 ∨ ((bestP W S f p step own n).2 ≤ 1000000 ∧ -1000001 < (bestP W S f p step own n).2) ∨ ¬ (∀ m : Nat, m < n → bnd (fvP (wGo W) (envP W S f p step own m)))
  | 0 => Or.inl rfl
  | n + 1 => by
    by_cases hb : ∀ m : Nat, m < n + 1 → bnd (fvP (wGo W) (envP W S f p step own m))
    · have b1 := hb n (by omega)
      rcases bestP_hi (W := W) (S := S) (f := f) (p := p) (step := step) (own := own) n with h | h | h
      · unfold bestP
        split
        · exact Or.inr (Or.inl ⟨b1.2, by show -1000001 < _; omega⟩)
        · exact Or.inl h
      · unfold bestP
        split
        · exact Or.inr (Or.inl ⟨b1.2, by show -1000001 < _; omega⟩)
        · exact Or.inr (Or.inl h)
      · exact absurd (fun m hm => hb m (by omega)) h
    · exact Or.inr (Or.inr hb)
set_option maxHeartbeats 1000000 in
theorem y_best_l {v b step own : Int} {p : Nat} {M0 : Mem} {Q : Int → Mem → Prop} {W : TW} {S : TS} {f : Int → Int} (hT : TY M0 b W) (hV : SY M0 v W S) (hW : WOK W) (hS : SOK W S) (hb : M0 199 13 = b) (hp : p < wPn W) (hs : 1 ≤ step ∧ step ≤ 8) (h0 : M0 236 p = sSp S p)
    (hf : ∀ q : Nat, q < wPn W → M0 236 (6 * (step - 1) + q) = f q) (hfr : ∀ q : Nat, q < wPn W → 0 ≤ f q ∧ f q < wPl W) (hown : own = f p) (h : ∀ M', offL [234, 235] M0 M' → Q (bestP W S f p step own (wPl W)).1 M') :
    ∀ (d n : Nat) (bm mm : Int) (M : Mem), n + d = wPl W → offL [234, 235] M0 M → ((bm = -1 ∧ (n : Int) ≤ own ∧ (bestP W S f p step own n).2 = -1000001) ∨ (0 ≤ bm ∧ bm = (bestP W S f p step own n).1 ∧ mm = (bestP W S f p step own n).2 ∧ bnd mm ∧ bm < wPl W)) → m_X12_nextOf_L54 Q v p step own (d + 1) bm mm n M
  | 0, n, bm, mm, M, hd, ho, hi => by
    obtain rfl : n = wPl W := by omega
    have ow := hfr p hp
    unfold m_X12_nextOf_L54
    rw [ho 199 (by decide), hb, ho 201 (by decide), hT.2.1]
    have w7 := hW.1
    have t1 := hT.1
    refine ⟨by omega, by omega, by omega, fun _ => ?_, fun q => by omega⟩
    rcases hi with ⟨-, q, -⟩ | ⟨-, e, -⟩
    · omega
    · rw [e]; exact h M ho
  | d + 1, n, bm, mm, M, hd, ho, hi => by
    have ow := hfr p hp
    have w7 := hW.1
    have t1 := hT.1
    have hT' : TY M b W := hT.off (fun a a1 a2 => ho a (by simp; omega))
    have hV' : SY M v W S := hV.off (ho 227 (by decide)) (ho 228 (by decide)) (ho 229 (by decide)) (ho 230 (by decide)) (ho 231 (by decide))
    have hb' : M 199 13 = b := by rw [ho 199 (by decide), hb]
    have hn : n < wPl W := by omega
    have rr := hT.2.2.2.1 own.toNat n (by omega) hn
    rw [toNat_i (by omega : 0 ≤ own)] at rr
    obtain ⟨r1, r2, -⟩ := rr
    have he : envB (envP W S f p step own n) := envP_b hW hS hp (by omega) (by omega)
    have fvb := fv_b he hW.2.2.2.2.2.2.1
    have take : wRe W own n = true → m_X12_nextOf_J98 (m_X12_nextOf_L54 Q v p step own (d + 1)) Q v p step own bm mm n M := by
      intro hre
      unfold m_X12_nextOf_J98
      refine y_tells hT' hV' hW hS hb' hp hs (by omega) (by rw [ho 236 (by decide)]; exact h0) (by rw [ho 236 (by decide)]; exact hf) hfr fun M1 o1 e1 => ?_
      rw [← hown] at e1
      refine y_goes (k := fun r M5 => m_X12_nextOf_J124 (m_X12_nextOf_L54 Q v p step own (d + 1)) Q v p step own bm mm n r M5) he (hT'.off (fun a a1 a2 => o1 a (by omega))) (by rw [o1 199 (by decide), hb']) e1 fun M2 o2 => ?_
      have oo : offL [234, 235] M0 M2 := (ho.tr (o1.L (by decide))).tr (o2.L (by decide))
      unfold m_X12_nextOf_J124 m_X12_nextOf_J143 m_X12_nextOf_J151
      have newb : (bestP W S f p step own n).2 < fvP (wGo W) (envP W S f p step own n) → m_X12_nextOf_L54 Q v p step own (d + 1) n (fvP (wGo W) (envP W S f p step own n)) ((n : Int) + 1) M2 := by
        intro q
        refine y_best_l hT hV hW hS hb hp hs h0 hf hfr hown h d (n + 1) n _ M2 (by omega) oo (Or.inr ?_)
        unfold bestP
        rw [if_pos ⟨hre, q⟩]
        exact ⟨by omega, rfl, rfl, fvb, by omega⟩
      rcases hi with ⟨i1, i2, i3⟩ | ⟨i1, i2, i3, i4, i5⟩
      · exact ⟨by omega, fun _ => newb (by omega), fun q => absurd i1 q⟩
      · refine ⟨by omega, fun q => by omega, fun _ => ⟨by omega, by omega, fun q => newb (by omega), fun q => ?_⟩⟩
        refine y_best_l hT hV hW hS hb hp hs h0 hf hfr hown h d (n + 1) bm mm M2 (by omega) oo (Or.inr ?_)
        unfold bestP
        rw [if_neg (fun z => q (by rw [i3]; exact z.2))]
        exact ⟨i1, i2, i3, i4, i5⟩
    unfold m_X12_nextOf_L54 m_X12_at
    rw [hb', ho 201 (by decide), hT.2.1]
    refine ⟨by omega, by omega, by omega, fun q => by omega, fun _ => ⟨by omega, by omega, fun q => take (r2.mpr (Or.inl (by omega))), fun q => ⟨by omega, ?_, ?_, ?_⟩⟩⟩
    · rw [ho 203 (by decide)]; omega
    · rw [ho 203 (by decide)]
      intro q2
      unfold m_X12_nextOf_J151
      refine y_best_l hT hV hW hS hb hp hs h0 hf hfr hown h d (n + 1) bm mm M (by omega) ho ?_
      have nr : ¬ wRe W own n = true := fun z => by rcases r2.mp z with z | z <;> omega
      unfold bestP
      rw [if_neg (fun z => nr z.1)]
      rcases hi with ⟨i1, i2, i3⟩ | hi
      · exact Or.inl ⟨i1, by omega, i3⟩
      · exact Or.inr hi
    · rw [ho 203 (by decide)]
      intro q2
      exact take (r2.mpr (Or.inr (by omega)))
theorem y_nextOf {v b step : Int} {p : Nat} {M : Mem} {Q : Int → Mem → Prop} {W : TW} {S : TS} {f : Int → Int} (hT : TY M b W) (hV : SY M v W S) (hW : WOK W) (hS : SOK W S) (hb : M 199 13 = b) (hp : p < wPn W) (hs : 1 ≤ step ∧ step ≤ 8) (h0 : M 236 p = sSp S p)
    (hf : ∀ q : Nat, q < wPn W → M 236 (6 * (step - 1) + q) = f q) (hfr : ∀ q : Nat, q < wPn W → 0 ≤ f q ∧ f q < wPl W) (h : ∀ M', offL [234, 235] M M' → Q (nextP W S f p step) M') : m_X12_nextOf v p step M Q := by
  have ow := hfr p hp
  have w6 := hW.2.1
  unfold m_X12_nextOf
  rw [hf p hp]
  refine ⟨by omega, y_tells hT hV hW hS hb hp hs ow h0 hf hfr fun M1 o1 e1 => ?_⟩
  have he : envB (envP W S f p step (f p) (f p)) := envP_b hW hS hp (by omega) ow
  have hT' : TY M1 b W := hT.off (fun a a1 a2 => o1 a (by omega))
  have hb' : M1 199 13 = b := by rw [o1 199 (by decide), hb]
  have best : ∀ M2, offL [234, 235] M M2 → ¬ fvP (wSt W) (envP W S f p step (f p) (f p)) = 1 → m_X12_nextOf_J45 Q v p step (f p) M2 := by
    intro M2 o2 q
    refine ⟨wPl W + 1, y_best_l (hT.off (fun a a1 a2 => o2 a (by simp; omega))) (hV.off (o2 227 (by decide)) (o2 228 (by decide)) (o2 229 (by decide)) (o2 230 (by decide)) (o2 231 (by decide))) hW hS (by rw [o2 199 (by decide), hb]) hp hs (by rw [o2 236 (by decide)]; exact h0) (by rw [o2 236 (by decide)]; exact hf) hfr rfl (fun M3 o3 => ?_) (wPl W) 0 (-1) 0 M2 (by omega) offL.rf (Or.inl ⟨rfl, by omega, rfl⟩)⟩
    have := h M3 (o2.tr o3)
    unfold nextP at this
    rwa [if_neg q] at this
  obtain ⟨t1, t2, t3, t4, t5, t6, t7⟩ := id hT'
  by_cases c : wSt W = []
  · rw [if_pos c] at t6
    have t6' : M1 214 (2 * b + 0) = -1 := by rw [Int.add_zero]; exact t6
    refine y_isTold hb' t1 (by decide) (by rw [t6']; decide) ?_
    rw [if_pos t6']
    refine ⟨by decide, fun _ => best M1 (o1.L (by decide)) ?_, fun q => absurd rfl q⟩
    rw [c]; show ¬ (0 : Int) = 1; decide
  · rw [if_neg c] at t6
    have c0 := t6.1
    have c1 := t6.2.1
    have c2 := t6.2.2.1
    refine y_isTold hb' t1 (by decide) (by omega) ?_
    rw [if_neg (by omega)]
    refine ⟨by decide, fun q => absurd q (by decide), fun _ => y_reckons he hb' t1 (by decide) t6 e1 fun M2 o2 => ?_⟩
    have oo : offL [234, 235] M M2 := (o1.L (by decide)).tr (o2.L (by decide))
    have fvb := fv_b he hW.2.2.2.2.2.1
    refine ⟨by omega, fun q => ?_, fun q => best M2 oo q⟩
    have := h M2 oo
    unfold nextP at this
    rwa [if_pos q] at this
/-- the model's rows up to step k, of that step the first p people -/
def rowsY (M : Mem) (W : TW) (S : TS) (k p : Nat) : Prop := ∀ j q : Nat, q < wPn W → (j < k ∨ (j = k ∧ q < p)) → M 236 (6 * j + q) = walkP W S j q
theorem rowsY.put {M M1 : Mem} {W : TW} {S : TS} {k p : Nat} {x : Int} (h : rowsY M W S k p) (hp : p < wPn W) (h6 : wPn W ≤ 6) (e : M1 = up M 236 (6 * k + p) x) (hx : x = walkP W S k p) : rowsY M1 W S k (p + 1) := by
  intro j q hq hj
  rw [e]
  simp only [up_get]
  by_cases c : j = k ∧ q = p
  · obtain ⟨rfl, rfl⟩ := c
    simp [hx]
  · rw [if_neg (by omega)]
    exact h j q hq (by omega)
theorem walkP_succ (W : TW) (S : TS) (k p : Nat) : walkP W S (k + 1) p = nextP W S (walkP W S k) p ((k : Int) + 1) := by
  show nextP W S (walkP W S k) ((p : Int)).toNat ((k + 1 : Nat) : Int) = _
  rw [Int.toNat_natCast]
  rfl
theorem y_runs_in {v b : Int} {M0 : Mem} {Q : Mem → Prop} {K : Int → Mem → Prop} {W : TW} {S : TS} (hT : TY M0 b W) (hV : SY M0 v W S) (hW : WOK W) (hS : SOK W S) (hb : M0 199 13 = b) {k : Nat} (hk : k ≤ 7) (h : ∀ M', offL [234, 235, 236] M0 M' → rowsY M' W S (k + 1) (wPn W) → K ((k : Int) + 1 + 1) M') :
    ∀ (d p : Nat) (M : Mem), p + d = wPn W → offL [234, 235, 236] M0 M → rowsY M W S (k + 1) p → m_X12_runs_L48 K Q v ((k : Int) + 1) (d + 1) p M
  | 0, p, M, hd, ho, hr => by
    obtain rfl : p = wPn W := by omega
    have w6 := hW.2.1
    have t1 := hT.1
    unfold m_X12_runs_L48
    rw [ho 199 (by decide), hb, ho 205 (by decide), hT.2.2.1]
    exact ⟨by omega, by omega, by omega, fun _ => h M ho hr, fun q => by omega⟩
  | d + 1, p, M, hd, ho, hr => by
    have w6 := hW.2.1
    have t1 := hT.1
    have hT' : TY M b W := hT.off (fun a a1 a2 => ho a (by simp; omega))
    have hV' : SY M v W S := hV.off (ho 227 (by decide)) (ho 228 (by decide)) (ho 229 (by decide)) (ho 230 (by decide)) (ho 231 (by decide))
    have hb' : M 199 13 = b := by rw [ho 199 (by decide), hb]
    unfold m_X12_runs_L48
    rw [hb', hT'.2.2.1]
    refine ⟨by omega, by omega, by omega, fun q => by omega, fun _ => ?_⟩
    refine y_nextOf (f := walkP W S k) hT' hV' hW hS hb' (by omega) (by omega) ?_ ?_ (fun q hq => walkP_rng hS k q hq) fun M1 o1 => ⟨by omega, fun M2 e2 => ?_⟩
    · have := hr 0 p (by omega) (by omega)
      rw [← show walkP W S 0 p = sSp S p from rfl, ← this]
      congr 1
      omega
    · intro q hq
      have := hr k q hq (by omega)
      rw [← this]
      congr 1
      omega
    · have hr1 : rowsY M1 W S (k + 1) p := fun j q a c => by rw [o1 236 (by decide)]; exact hr j q a c
      refine y_runs_in hT hV hW hS hb hk h d (p + 1) M2 (by omega) ((ho.tr (fun a ha => o1 a (by simp at ha ⊢; omega))).up e2 (by decide)) (hr1.put (x := nextP W S (walkP W S k) p ((k : Int) + 1)) (by omega) w6 (by rw [e2]; rfl) (walkP_succ W S k p).symm)
theorem y_runs_out {v b : Int} {M0 : Mem} {Q : Mem → Prop} {W : TW} {S : TS} (hT : TY M0 b W) (hV : SY M0 v W S) (hW : WOK W) (hS : SOK W S) (hb : M0 199 13 = b) (h : ∀ M', offL [234, 235, 236] M0 M' → rowsY M' W S 9 0 → Q M') :
    ∀ (d k : Nat) (M : Mem), k + d = 8 → offL [234, 235, 236] M0 M → rowsY M W S (k + 1) 0 → m_X12_runs_L40 Q v (d + 1) ((k : Int) + 1) M
  | 0, k, M, hd, ho, hr => by
    obtain rfl : k = 8 := by omega
    unfold m_X12_runs_L40
    exact ⟨by decide, fun _ => h M ho hr, fun q => absurd (by decide) q⟩
  | d + 1, k, M, hd, ho, hr => by
    unfold m_X12_runs_L40
    refine ⟨by omega, fun q => by omega, fun _ => ⟨wPn W + 1, ?_⟩⟩
    refine y_runs_in hT hV hW hS hb (by omega) (fun M1 o1 r1 => ?_) (wPn W) 0 M (by omega) ho hr
    exact y_runs_out hT hV hW hS hb h d (k + 1) M1 (by omega) o1 (fun j q a c => r1 j q a (by omega))
theorem y_runs_0 {v b : Int} {M0 : Mem} {Q : Mem → Prop} {W : TW} {S : TS} (hT : TY M0 b W) (hV : SY M0 v W S) (hW : WOK W) (hS : SOK W S) (hb : M0 199 13 = b) (h : ∀ M', offL [234, 235, 236] M0 M' → rowsY M' W S 9 0 → Q M') :
    ∀ (d p : Nat) (M : Mem), p + d = wPn W → offL [234, 235, 236] M0 M → rowsY M W S 0 p → m_X12_runs_L2 Q v (d + 1) p M
  | 0, p, M, hd, ho, hr => by
    obtain rfl : p = wPn W := by omega
    have w6 := hW.2.1
    have t1 := hT.1
    unfold m_X12_runs_L2
    rw [ho 199 (by decide), hb, ho 205 (by decide), hT.2.2.1]
    refine ⟨by omega, by omega, by omega, fun _ => ⟨9, ?_⟩, fun q => by omega⟩
    exact y_runs_out hT hV hW hS hb h 8 0 M (by omega) ho (fun j q a c => hr j q a (by omega))
  | d + 1, p, M, hd, ho, hr => by
    have w6 := hW.2.1
    have t1 := hT.1
    have v1 := hV.1
    unfold m_X12_runs_L2
    rw [ho 199 (by decide), hb, ho 205 (by decide), hT.2.2.1]
    refine ⟨by omega, by omega, by omega, fun q => by omega, fun _ => ⟨by omega, by omega, fun M1 e1 => ?_⟩⟩
    rw [ho 228 (by decide), hV.2.2.2.1 p (by omega)] at e1
    exact y_runs_0 hT hV hW hS hb h d (p + 1) M1 (by omega) (ho.up e1 (by decide)) (hr.put (x := sSp S p) (by omega) w6 (by rw [e1]; congr 1; omega) rfl)
theorem y_runs {v b : Int} {M : Mem} {Q : Mem → Prop} {W : TW} {S : TS} (hT : TY M b W) (hV : SY M v W S) (hW : WOK W) (hS : SOK W S) (hb : M 199 13 = b) (h : ∀ M', offL [234, 235, 236] M M' → rowsY M' W S 9 0 → Q M') : m_X12_runs v M Q :=
  ⟨_, y_runs_0 hT hV hW hS hb h (wPn W) 0 M (by omega) offL.rf (fun j q a c => by omega)⟩
