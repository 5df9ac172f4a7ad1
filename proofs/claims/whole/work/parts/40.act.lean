/-! acts, class and model side by side -/
section
variable {N : Nat} {t b : Int} {p : PT} {M : Mem}
theorem x_act {Q : Mem → Prop} (hx : IX M t p) (hp : POK N p) (h : ∀ M', IX M' t (remP p) → stX M M' → M' 0 8 = 0 → Q M') : m_X11_act M Q := by
  unfold m_X11_act
  refine x_remember hx hp fun M1 hx1 o1 M2 e2 => ?_
  obtain ⟨x1, x2, x3, x4, x5⟩ := hx1
  have z : ∀ a, a ≠ 0 → M2 a = M1 a := fun a ha => by rw [e2, up_ne _ ha]
  have z0 : ∀ k, k ≠ 8 → M2 0 k = M1 0 k := fun k hk => by
    rw [e2]
    simp only [up_get]
    rw [if_neg (fun y => hk y.2)]
  have q8 : M2 0 8 = 0 := by rw [e2]; simp [up_get]
  have kt := isTown x2.2.2.1.1
  refine h M2 ⟨?_, ⟨?_, ?_, ?_, ?_⟩, ⟨?_, ?_, ?_⟩, ?_, Or.inl q8⟩ (o1.tr (stX.up e2 (by decide))) q8
  · unfold aX rw1 rw3 at *
    rw [z 1 (by decide), z 2 (by decide), z 3 (by decide), z 198 (by decide), z 188 (by decide), z 185 (by decide), z 186 (by decide), z 187 (by decide), z0 13 (by decide)]
    exact x1
  · rw [z0 2 (by decide)]; exact x2.1
  · rw [z0 3 (by decide)]; exact x2.2.1
  · exact x2.2.2.1.rows (fun a a1 a2 => z a (by omega))
  · rw [z t (by omega), z (t + 1) (by omega), z (t + 4) (by omega)]
    exact x2.2.2.2
  · exact x3.1.rows (fun a a1 a2 => z a (by omega))
  · rw [z 40 (by decide)]; exact x3.2.1
  · unfold rw3 at *
    rw [z 64 (by decide)]
    exact x3.2.2
  · obtain ⟨u1, u2, u3, u4⟩ := x4
    unfold uX
    rw [z 62 (by decide)]
    refine ⟨u1, u2, u3, fun j hj => ?_⟩
    obtain ⟨m1, m2⟩ := u4 j hj
    have : 65 ≤ slX (M1 62 1) j ∧ slX (M1 62 1) j ≤ 179 := by unfold slX; omega
    refine ⟨m1.rows (fun a a1 a2 => z a (by omega)), ?_⟩
    rw [z _ (by omega)]
    exact m2
/-- refused on both sides -/
theorem x_deny2 {a : Int} {K : Int → Mem → Prop} (ha : 0 ≤ a ∧ a < 6) (hx : IX M t p) (h : ∀ M', IX M' t (wRf p a) → stX M M' → K 0 M') : m_X11_deny a M (fun r M1 => (r = 0 ∨ r = 1) ∧ K r M1) :=
  x_deny ha ⟨by decide, h _ hx.ref (stX.up rfl (by decide))⟩
theorem sc_same (hp : POK N p) : ∀ j : Nat, j < (pU p).length → ((pU p).getD j dU).2 ≤ (pK p).length := fun j hj => (hp.2.2.2.2 j hj).2.1
theorem POK.up1 (hp : POK N p) : POK (N + 1) p := hp.mono
/-- a scene act: what stays -/
theorem IX.scene' {M' : Mem} {S : TS} (hx : IX M t p) (q8 : M 0 8 = 0) (e : ∀ a, (a < 40 ∨ 45 < a) → M' a = M a) (e4 : M' 40 4 = M 40 4) (hs : SX M' 40 (pW p) S) : IX M' t (wSK p S (pK p)) :=
  hx.scene (fun a _ a2 _ => e a a2) (fun k _ _ => by rw [e 0 (by decide)]) (by rw [e 0 (by decide)]) (by rw [e 0 (by decide)]; exact q8) hs (by rw [e4]; exact hx.2.2.1.2.1) (fun k hk => by rw [e 64 (by decide)]; exact hx.2.2.1.2.2 k hk)
theorem KY.keep {M' : Mem} {v : Int} {K : List (Int × Int × Int)} (h : KY M v K) (e1 : M' 232 = M 232) (e2 : M' 233 = M 233) : KY M' v K := by
  unfold KY at *
  rw [e1, e2]
  exact h
theorem POK.sc {S : TS} (hp : POK N p) (hs : SOK (pW p) S) (h8 : (sRe S).length ≤ 8) (hd : sDay S = sDay (pS p)) : POK (N + 1) (wSK (remP p) S (pK (remP p))) := by
  have hr := hp.rem.mono
  refine hr.scene ⟨hs, h8, ?_⟩ hp.2.2.1.2 (fun j hj => (hr.2.2.2.2 j hj).2.1)
  rw [hd]
  exact hp.2.2.1.1.2.2
theorem s_show {a c n : Int} (hi : Inv N M) (ha : inI a) (hc : inI c) (hn : inI n) : m_X11_show a c n M (fun r1 M1 => m_X12_show a c n M1 (fun r2 M2 => Good N r1 r2 M2)) := by
  obtain ⟨t, b, p, hp, hx, hy⟩ := hi
  have w1 := hp.2.1.1.1
  have l8 := hp.2.2.1.1.2.1
  have ok := hp.2.2.1.1.1.2.2.2.2
  have e42 : M 42 0 = _ := hx.2.2.1.1.2.2.2.2.1
  have xno : ¬ ((1 ≤ a ∧ a ≤ 8) ∧ (0 ≤ c ∧ c < wPl (pW p)) ∧ (0 ≤ n ∧ n ≤ 6) ∧ (sRe (pS p)).length < 8 ∧ idxP (sRe (pS p)) a c 0 = -1) → m_X11_show_J55 (fun r1 M1 => m_X12_show a c n M1 (fun r2 M2 => Good N r1 r2 M2)) M := fun q => by
    unfold m_X11_show_J55
    refine x_deny2 (by decide) hx fun M1 hx1 o1 => ?_
    have hy1 := hy.st o1
    have yno : m_X12_show_J50 (fun r2 M2 => Good N 0 r2 M2) M1 := by
      unfold m_X12_show_J50 m_X12_show_J63
      exact y_refuses (by decide) ⟨by decide, fun _ => ⟨by decide, fin1 hp.ref (hx1.st (stY.up rfl (by decide))) hy1.ref (by decide)⟩, fun z => absurd (show (-1 : Int) < 0 by decide) z⟩
    have e230 : M1 230 0 = _ := hy1.2.2.1.1.2.2.2.2.1
    unfold m_X12_show
    refine y_is2 ha (by decide) (by decide) (fun q1 q2 => ⟨by decide, fun z => absurd z (by decide), fun _ => ?_⟩) (fun _ => ⟨by decide, fun _ => yno, fun z => absurd rfl z⟩)
    refine y_isPlace hy1 hp hc (fun q3 q4 => ⟨by decide, fun z => absurd z (by decide), fun _ => ?_⟩) (fun _ => ⟨by decide, fun _ => yno, fun z => absurd rfl z⟩)
    refine y_is2 hn (by decide) (by decide) (fun q5 q6 => ⟨by decide, fun z => absurd z (by decide), fun _ => ?_⟩) (fun _ => ⟨by decide, fun _ => yno, fun z => absurd rfl z⟩)
    rw [e230]
    refine ⟨by omega, fun _ => yno, fun z => y_frameAt (by decide) hy1.2.2.1.1.2.2.2.2 ok w1 ha hc ?_⟩
    have ir : inI (idxP (sRe (pS p)) a c 0) := by
      by_cases z : idxP (sRe (pS p)) a c 0 = -1
      · rw [z]; decide
      · have := idxP_at (by decide) z
        omega
    exact ⟨ir, fun y => absurd ⟨⟨q1, q2⟩, ⟨q3, q4⟩, ⟨q5, q6⟩, by omega, y⟩ q, fun _ => yno⟩
  unfold m_X11_show
  refine x_isStep ha (fun q1 q2 => ⟨by decide, fun z => absurd z (by decide), fun _ => ?_⟩) (fun q => ⟨by decide, fun _ => xno (fun z => q z.1), fun z => absurd rfl z⟩)
  refine x_isPlace hx hp hc (fun q3 q4 => ⟨by decide, fun z => absurd z (by decide), fun _ => ⟨hn, fun q => xno (fun z => by omega), fun q5 => ⟨hn, fun q => xno (fun z => by omega), fun q6 => ?_⟩⟩⟩) (fun q => ⟨by decide, fun _ => xno (fun z => q z.2.1), fun z => absurd rfl z⟩)
  rw [e42]
  refine ⟨by omega, fun q => xno (fun z => by omega), fun q7 => x_indexOf (by decide) hx.2.2.1.1.2.2.2.2 ok w1 ha hc ?_⟩
  have ir : inI (idxP (sRe (pS p)) a c 0) := by
    by_cases z : idxP (sRe (pS p)) a c 0 = -1
    · rw [z]; decide
    · have := idxP_at (by decide) z
      omega
  refine ⟨ir, fun q8 => ?_, fun q => xno (fun z => q z.2.2.2.2)⟩
  have pe : putP (sRe (pS p)) a c n = sRe (pS p) ++ [(a, c, n)] := by unfold putP; rw [if_pos q8]
  have pok : reOK (pW p) (putP (sRe (pS p)) a c n) := ok.put l8 ⟨q1, q2, q3, q4, by show 0 ≤ n; omega, by show n ≤ 6; omega⟩
  have sok := hp.2.2.1.1.1.re pok
  have pl : (putP (sRe (pS p)) a c n).length ≤ 8 := by rw [pe, List.length_append]; simp; omega
  refine x_act hx hp fun M1 hx1 o1 z1 => x_reput (by decide) hx1.2.2.1.1.2.2.2.2 ok w1 l8 ha hc fun M2 o2 r2 => ?_
  have hx2 : IX M2 t (wSK (remP p) (reS (pS p) (putP (sRe (pS p)) a c n)) (pK (remP p))) := hx1.scene' z1 (fun a ha => o2 a (by omega)) (by rw [o2 40 (by decide)]) (hx1.2.2.1.1.re o2 r2)
  have hy2 := hy.st (o1.tr (fun a ha => o2 a (by omega)))
  have e230 : M2 230 0 = _ := hy2.2.2.1.1.2.2.2.2.1
  unfold m_X12_show
  refine y_is2 ha (by decide) (by decide) (fun _ _ => ⟨by decide, fun z => absurd z (by decide), fun _ => ?_⟩) (fun z => by omega)
  refine y_isPlace hy2 hp hc (fun _ _ => ⟨by decide, fun z => absurd z (by decide), fun _ => ?_⟩) (fun z => by omega)
  refine y_is2 hn (by decide) (by decide) (fun _ _ => ⟨by decide, fun z => absurd z (by decide), fun _ => ?_⟩) (fun z => by omega)
  rw [e230]
  refine ⟨by omega, fun z => by omega, fun _ => y_frameAt (by decide) hy2.2.2.1.1.2.2.2.2 ok w1 ha hc ⟨ir, fun _ => ?_, fun z => absurd q8 z⟩⟩
  refine y_keeps hy2 hp fun M3 hy3 o3 => y_shows (by decide) hy3.2.2.1.1.2.2.2.2 l8 fun M4 o4 r4 z4 => ?_
  have hy4 : IY M4 b (wSK (remP p) (reS (pS p) (putP (sRe (pS p)) a c n)) (pK (remP p))) := hy3.scene hp.rem o4 (hy3.2.2.1.1.re z4 (by rw [pe]; exact r4)) (hy3.2.2.1.2.keep (z4 _ (by decide) (by decide)) (z4 _ (by decide) (by decide))) (fun _ _ => rfl)
  exact fin1 (hp.sc sok pl rfl) (hx2.st (o3.tr o4.st)) hy4 (by decide)
theorem s_cut {a : Int} (hi : Inv N M) (ha : inI a) : m_X11_cut a M (fun r1 M1 => m_X12_cut a M1 (fun r2 M2 => Good N r1 r2 M2)) := by
  obtain ⟨t, b, p, hp, hx, hy⟩ := hi
  have w1 := hp.2.1.1.1
  have l8 := hp.2.2.1.1.2.1
  have ok := hp.2.2.1.1.1.2.2.2.2
  unfold m_X11_cut
  refine x_isFrame hx hp ha (fun q1 q2 => ⟨by decide, fun z => absurd z (by decide), fun _ => ?_⟩) (fun q => ⟨by decide, fun _ => x_deny2 (by decide) hx fun M1 hx1 o1 => ?_, fun z => absurd rfl z⟩)
  · obtain ⟨k, rfl⟩ : ∃ k : Nat, a = k := ⟨a.toNat, by omega⟩
    have kl : k < (sRe (pS p)).length := by omega
    have pl : ((sRe (pS p)).eraseIdx k).length ≤ 8 := by rw [List.length_eraseIdx_of_lt kl]; omega
    refine x_act hx hp fun M1 hx1 o1 z1 => x_remove (by decide) hx1.2.2.1.1.2.2.2.2 (by show (sRe (pS p)).length ≤ 9; omega) kl fun M2 o2 r2 => ?_
    have hx2 : IX M2 t (wSK (remP p) (reS (pS p) ((sRe (pS p)).eraseIdx k)) (pK (remP p))) := hx1.scene' z1 (fun a ha => o2 a (by omega)) (by rw [o2 40 (by decide)]) (hx1.2.2.1.1.re o2 r2)
    have hy2 := hy.st (o1.tr (fun a ha => o2 a (by omega)))
    have e230 : M2 230 0 = _ := hy2.2.2.1.1.2.2.2.2.1
    unfold m_X12_cut
    dsimp only
    rw [e230]
    refine y_is2 ha (by decide) (by omega) (fun _ _ => ⟨by decide, fun z => absurd z (by decide), fun _ => ?_⟩) (fun z => by omega)
    refine y_keeps hy2 hp fun M3 hy3 o3 => y_takes (by decide) hy3.2.2.1.1.2.2.2.2 (by show (sRe (pS p)).length ≤ 9; omega) kl fun M4 o4 r4 z4 => ?_
    have hy4 : IY M4 b (wSK (remP p) (reS (pS p) ((sRe (pS p)).eraseIdx k)) (pK (remP p))) := hy3.scene hp.rem o4 (hy3.2.2.1.1.re z4 r4) (hy3.2.2.1.2.keep (z4 _ (by decide) (by decide)) (z4 _ (by decide) (by decide))) (fun _ _ => rfl)
    exact fin1 (hp.sc (hp.2.2.1.1.1.re ok.erase) pl rfl) (hx2.st (o3.tr o4.st)) hy4 (by decide)
  · have hy1 := hy.st o1
    have e230 : M1 230 0 = _ := hy1.2.2.1.1.2.2.2.2.1
    unfold m_X12_cut m_X12_cut_J29
    rw [e230]
    refine y_is2 ha (by decide) (by omega) (fun _ _ => by omega) (fun z => ⟨by decide, fun _ => ?_, fun z => absurd rfl z⟩)
    exact y_refuses (by decide) ⟨by decide, fun _ => ⟨by decide, fin1 hp.ref (hx1.st (stY.up rfl (by decide))) hy1.ref (by decide)⟩, fun z => absurd (show (-1 : Int) < 0 by decide) z⟩
theorem s_send {a c : Int} (hi : Inv N M) (ha : inI a) (hc : inI c) : m_X11_send a c M (fun r1 M1 => m_X12_send a c M1 (fun r2 M2 => Good N r1 r2 M2)) := by
  obtain ⟨t, b, p, hp, hx, hy⟩ := hi
  have w1 := hp.2.1.1.1
  have w2 := hp.2.1.1.2.1
  have l8 := hp.2.2.1.1.2.1
  have spr := hp.2.2.1.1.1.2.2.2.1
  have xno : ¬ ((0 ≤ a ∧ a < wPn (pW p)) ∧ (0 ≤ c ∧ c < wPl (pW p)) ∧ ¬ sSp (pS p) a = c) → m_X11_send_J29 (fun r1 M1 => m_X12_send a c M1 (fun r2 M2 => Good N r1 r2 M2)) M := fun q => by
    unfold m_X11_send_J29
    refine x_deny2 (by decide) hx fun M1 hx1 o1 => ?_
    have hy1 := hy.st o1
    have yno : m_X12_send_J26 (fun r2 M2 => Good N 0 r2 M2) M1 := by
      unfold m_X12_send_J26 m_X12_send_J39
      exact y_refuses (by decide) ⟨by decide, fun _ => ⟨by decide, fin1 hp.ref (hx1.st (stY.up rfl (by decide))) hy1.ref (by decide)⟩, fun z => absurd (show (-1 : Int) < 0 by decide) z⟩
    unfold m_X12_send
    refine y_isPerson hy1 hp ha (fun q1 q2 => ⟨by decide, fun z => absurd z (by decide), fun _ => ?_⟩) (fun _ => ⟨by decide, fun _ => yno, fun z => absurd rfl z⟩)
    refine y_isPlace hy1 hp hc (fun q3 q4 => ⟨by decide, fun z => absurd z (by decide), fun _ => ?_⟩) (fun _ => ⟨by decide, fun _ => yno, fun z => absurd rfl z⟩)
    have f0 := hy1.2.2.1.1.2.2.2.1 a.toNat (by omega)
    have g0 := spr a.toNat (by omega)
    rw [step_of (by omega)] at f0 g0
    rw [show 6 * (0 : Int) + a = a by omega] at f0
    rw [f0]
    exact ⟨by omega, by omega, hc, fun _ => yno, fun z => absurd ⟨⟨q1, q2⟩, ⟨q3, q4⟩, z⟩ q⟩
  unfold m_X11_send
  refine x_isPerson hx hp ha (fun q1 q2 => ⟨by decide, fun z => absurd z (by decide), fun _ => ?_⟩) (fun q => ⟨by decide, fun _ => xno (fun z => q z.1), fun z => absurd rfl z⟩)
  refine x_isPlace hx hp hc (fun q3 q4 => ⟨by decide, fun z => absurd z (by decide), fun _ => ?_⟩) (fun q => ⟨by decide, fun _ => xno (fun z => q z.2.1), fun z => absurd rfl z⟩)
  have e0 := hx.2.2.1.1.2.2.2.1 a.toNat (by omega)
  have g0 := spr a.toNat (by omega)
  rw [step_of (by omega)] at e0 g0
  rw [show (40 : Int) + 1 = 41 from rfl] at e0
  rw [e0]
  refine ⟨by omega, by omega, hc, fun q => xno (fun z => z.2.2 q), fun q5 => ?_⟩
  obtain ⟨k, rfl⟩ : ∃ k : Nat, a = k := ⟨a.toNat, by omega⟩
  have sok : SOK (pW p) (spS (pS p) k c) := spS_ok hp.2.2.1.1.1 ⟨q3, q4⟩
  refine x_act hx hp fun M1 hx1 o1 z1 => ⟨by omega, fun M2 e2 => ?_⟩
  have o2 : ∀ a, a ≠ 41 → M2 a = M1 a := fun a ha => by rw [e2, up_ne _ ha]
  have s2 : SX M2 40 (pW p) (spS (pS p) k c) := by
    obtain ⟨h1, h2, h3, h4, h5⟩ := hx1.2.2.1.1
    refine ⟨h1, ?_, ?_, fun q hq => ?_, ?_⟩
    · rw [o2 40 (by decide)]; exact h2
    · rw [o2 40 (by decide)]; exact h3
    · have h4q := h4 q hq
      rw [e2]
      show up M1 41 (k : Int) c (40 + 1) (q : Int) = if (q : Int) = k then c else sSp (pS p) q
      simp only [up_get]
      by_cases z : (q : Int) = k
      · rw [if_pos ⟨by decide, z⟩, if_pos z]
      · rw [if_neg (fun y => z y.2), if_neg z]
        exact h4q
    · exact h5.off (by rw [o2 _ (by decide)]) (by rw [o2 _ (by decide)]) (by rw [o2 _ (by decide)]) (by rw [o2 _ (by decide)])
  have hx2 : IX M2 t (wSK (remP p) (spS (pS p) k c) (pK (remP p))) := hx1.scene' z1 (fun a ha => o2 a (by omega)) (by rw [o2 40 (by decide)]) s2
  have hy2 := hy.st (o1.tr (fun a ha => o2 a (by omega)))
  unfold m_X12_send
  refine y_isPerson hy2 hp ha (fun _ _ => ⟨by decide, fun z => absurd z (by decide), fun _ => ?_⟩) (fun z => by omega)
  refine y_isPlace hy2 hp hc (fun _ _ => ⟨by decide, fun z => absurd z (by decide), fun _ => ?_⟩) (fun z => by omega)
  have f0 := hy2.2.2.1.1.2.2.2.1 k (by omega)
  rw [show 6 * (0 : Int) + k = k by omega] at f0
  rw [f0]
  refine ⟨by omega, by omega, hc, fun z => absurd z q5, fun _ => y_keeps hy2 hp fun M3 hy3 o3 => ⟨by omega, fun M4 e4 => ?_⟩⟩
  have o4 : othY 0 M3 M4 := othY.sp e4 (by omega)
  have s4 : SY M4 0 (pW p) (spS (pS p) k c) := by
    obtain ⟨h1, h2, h3, h4, h5⟩ := hy3.2.2.1.1
    refine ⟨h1, ?_, ?_, fun q hq => ?_, ?_, ?_⟩
    · rw [e4, up_ne _ (by decide)]; exact h2
    · rw [e4, up_ne _ (by decide)]; exact h3
    · have h4q := h4 q hq
      rw [e4]
      show up M3 228 (k : Int) c 228 (6 * 0 + (q : Int)) = if (q : Int) = k then c else sSp (pS p) q
      simp only [up_get, true_and]
      by_cases z : (q : Int) = k
      · rw [if_pos (by omega), if_pos z]
      · rw [if_neg (by omega), if_neg z]
        exact h4q
    · rw [e4, up_ne _ (by decide)]; exact h5.1
    · rw [e4, up_ne _ (by decide)]; exact h5.2
  have hy4 : IY M4 b (wSK (remP p) (spS (pS p) k c) (pK (remP p))) := hy3.scene hp.rem o4 s4 (hy3.2.2.1.2.keep (by rw [e4, up_ne _ (by decide)]) (by rw [e4, up_ne _ (by decide)])) (fun _ _ => rfl)
  exact fin1 (hp.sc sok l8 rfl) (hx2.st (o3.tr o4.st)) hy4 (by decide)
theorem s_watch {a c : Int} (hi : Inv N M) (ha : inI a) (hc : inI c) : m_X11_watch a c M (fun r1 M1 => m_X12_watch a c M1 (fun r2 M2 => Good N r1 r2 M2)) := by
  obtain ⟨t, b, p, hp, hx, hy⟩ := hi
  have w2 := hp.2.1.1.2.1
  have l8 := hp.2.2.1.1.2.1
  have sw := hp.2.2.1.1.1.2.2.1
  have xno : ¬ ((0 ≤ a ∧ a < wPn (pW p)) ∧ (0 ≤ c ∧ c ≤ 1) ∧ ¬ (if (sWa (pS p)).testBit a.toNat then (1 : Int) else 0) = c) → m_X11_watch_J38 (fun r1 M1 => m_X12_watch a c M1 (fun r2 M2 => Good N r1 r2 M2)) M := fun q => by
    unfold m_X11_watch_J38
    refine x_deny2 (by decide) hx fun M1 hx1 o1 => ?_
    have hy1 := hy.st o1
    have yno : m_X12_watch_J40 (fun r2 M2 => Good N 0 r2 M2) M1 := by
      unfold m_X12_watch_J40 m_X12_watch_J53
      exact y_refuses (by decide) ⟨by decide, fun _ => ⟨by decide, fin1 hp.ref (hx1.st (stY.up rfl (by decide))) hy1.ref (by decide)⟩, fun z => absurd (show (-1 : Int) < 0 by decide) z⟩
    have hv : M1 229 0 = _ := hy1.2.2.1.1.2.2.1
    unfold m_X12_watch
    refine y_isPerson hy1 hp ha (fun q1 q2 => ⟨by decide, fun z => absurd z (by decide), fun _ => ?_⟩) (fun _ => ⟨by decide, fun _ => yno, fun z => absurd rfl z⟩)
    refine y_is2 hc (by decide) (by decide) (fun q3 q4 => ⟨by decide, fun z => absurd z (by decide), fun _ => ?_⟩) (fun _ => ⟨by decide, fun _ => yno, fun z => absurd rfl z⟩)
    rw [hv]
    refine y_has2I (by omega) (by omega) ?_
    have eq : (if (sWa (pS p)).testBit a.toNat then (1 : Int) else 0) = c := Decidable.byContradiction (fun z => q ⟨⟨q1, q2⟩, ⟨q3, q4⟩, z⟩)
    rw [eq]
    unfold m_X12_watch_J37
    exact ⟨hc, fun z => ⟨hc, by decide, fun _ => yno, fun y => absurd z y⟩, fun z => ⟨hc, by decide, fun _ => yno, fun y => absurd (by omega) y⟩⟩
  unfold m_X11_watch
  refine x_isPerson hx hp ha (fun q1 q2 => ⟨by decide, fun z => absurd z (by decide), fun _ => ⟨hc, fun q => xno (fun z => by omega), fun q3 => ⟨hc, fun q => xno (fun z => by omega), fun q4 => ?_⟩⟩⟩) (fun q => ⟨by decide, fun _ => xno (fun z => q z.1), fun z => absurd rfl z⟩)
  have hw : M 40 2 = _ := hx.2.2.1.1.2.2.1
  refine x_watchesI (by omega) (by decide) hw sw ?_
  obtain ⟨k, rfl⟩ : ∃ k : Nat, a = k := ⟨a.toNat, by omega⟩
  rw [Int.toNat_natCast] at xno ⊢
  have bi : inI (if (sWa (pS p)).testBit k then (1 : Int) else 0) := by split <;> decide
  have k6 : 2 ^ k ≤ 2 ^ 5 := Nat.pow_le_pow_right (by decide) (by omega)
  have nw : sWa (pS p) ^^^ 2 ^ k < 64 := Nat.xor_lt_two_pow (n := 6) sw (by omega)
  have sok : SOK (pW p) (waS (pS p) (sWa (pS p) ^^^ 2 ^ k)) := waS_ok hp.2.2.1.1.1 nw
  have go : ¬ (if (sWa (pS p)).testBit k then (1 : Int) else 0) = c → m_X11_act M (fun M6 => ∀ M7 : Mem, M7 = up M6 40 2 (zxor (M6 40 2) (zshl 1 (k : Int))) → (fun r1 M1 => m_X12_watch (k : Int) c M1 (fun r2 M2 => Good N r1 r2 M2)) 1 M7) := fun q5 => by
    refine x_act hx hp fun M1 hx1 o1 z1 M2 e2 => ?_
    have hw1 : M1 40 2 = _ := hx1.2.2.1.1.2.2.1
    rw [hw1, z_shl1 (by omega), Int.toNat_natCast, z_xor (show sWa (pS (remP p)) < _ from by show sWa (pS p) < _; omega) (by omega)] at e2
    have o2 : ∀ a, a ≠ 40 → M2 a = M1 a := fun a ha => by rw [e2, up_ne _ ha]
    have s2 : SX M2 40 (pW p) (waS (pS p) (sWa (pS p) ^^^ 2 ^ k)) := by
      obtain ⟨h1, h2, h3, h4, h5⟩ := hx1.2.2.1.1
      refine ⟨h1, ?_, ?_, ?_, ?_⟩
      · rw [e2]; simp only [up_get]; rw [if_neg (by decide)]; exact h2
      · rw [e2]; simp only [up_get]; rw [if_pos ⟨trivial, trivial⟩]; rfl
      · rw [o2 _ (by decide)]; exact h4
      · exact h5.off (by rw [o2 _ (by decide)]) (by rw [o2 _ (by decide)]) (by rw [o2 _ (by decide)]) (by rw [o2 _ (by decide)])
    have hx2 : IX M2 t (wSK (remP p) (waS (pS p) (sWa (pS p) ^^^ 2 ^ k)) (pK (remP p))) := hx1.scene' z1 (fun a ha => o2 a (by omega)) (by rw [e2]; simp only [up_get]; rw [if_neg (by decide)]) s2
    have hy2 := hy.st (o1.tr (fun a ha => o2 a (by omega)))
    have hv : M2 229 0 = _ := hy2.2.2.1.1.2.2.1
    have yes : m_X12_keeps M2 (fun M7 => ∀ M8 : Mem, M8 = up M7 229 0 (zxor (M7 229 0) (zshl 1 (k : Int))) → (fun r2 M2 => Good N 1 r2 M2) 1 M8) := by
      refine y_keeps hy2 hp fun M3 hy3 o3 M4 e4 => ?_
      have hv3 : M3 229 0 = _ := hy3.2.2.1.1.2.2.1
      rw [hv3, z_shl1 (by omega), Int.toNat_natCast, z_xor (show sWa (pS (remP p)) < _ from by show sWa (pS p) < _; omega) (by omega)] at e4
      have o4 : othY 0 M3 M4 := othY.one e4 (by decide)
      have s4 : SY M4 0 (pW p) (waS (pS p) (sWa (pS p) ^^^ 2 ^ k)) := by
        obtain ⟨h1, h2, h3, h4, h5⟩ := hy3.2.2.1.1
        refine ⟨h1, ?_, ?_, ?_, ?_, ?_⟩
        · rw [e4, up_ne _ (by decide)]; exact h2
        · rw [e4]; simp only [up_get]; rw [if_pos ⟨trivial, trivial⟩]; rfl
        · rw [e4, up_ne _ (by decide)]; exact h4
        · rw [e4, up_ne _ (by decide)]; exact h5.1
        · rw [e4, up_ne _ (by decide)]; exact h5.2
      have hy4 : IY M4 b (wSK (remP p) (waS (pS p) (sWa (pS p) ^^^ 2 ^ k)) (pK (remP p))) := hy3.scene hp.rem o4 s4 (hy3.2.2.1.2.keep (by rw [e4, up_ne _ (by decide)]) (by rw [e4, up_ne _ (by decide)])) (fun _ _ => rfl)
      exact fin1 (hp.sc sok l8 rfl) (hx2.st (o3.tr o4.st)) hy4 (by decide)
    show m_X12_watch (k : Int) c M2 (fun r2 M2 => Good N 1 r2 M2)
    unfold m_X12_watch
    refine y_isPerson hy2 hp ha (fun _ _ => ⟨by decide, fun z => absurd z (by decide), fun _ => ?_⟩) (fun z => by omega)
    refine y_is2 hc (by decide) (by decide) (fun _ _ => ⟨by decide, fun z => absurd z (by decide), fun _ => ?_⟩) (fun z => by omega)
    rw [hv]
    refine y_has2I (by omega) (by omega) ?_
    rw [Int.toNat_natCast]
    unfold m_X12_watch_J37
    exact ⟨hc, fun z => ⟨bi, by decide, fun y => absurd (by omega) q5, fun _ => yes⟩, fun z => ⟨bi, by decide, fun y => absurd (by omega) q5, fun _ => yes⟩⟩
  unfold m_X11_watch_J35
  refine ⟨hc, fun z => ⟨bi, by decide, fun y => xno (fun w => w.2.2 (by omega)), fun y => go (by omega)⟩, fun z => ⟨bi, by decide, fun y => xno (fun w => w.2.2 (by omega)), fun y => go (by omega)⟩⟩
end
