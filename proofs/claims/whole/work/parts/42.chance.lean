/-! long numbers by their bits; chance; letters -/
theorem iL_n (n : Nat) : iL (n : Int) = Int64.ofNat n := Int64.ofInt_eq_ofNat
theorem nL_and (a b : Nat) : Int64.ofNat a &&& Int64.ofNat b = Int64.ofNat (a &&& b) := by
  apply Int64.toBitVec_inj.1
  show BitVec.ofNat 64 a &&& BitVec.ofNat 64 b = BitVec.ofNat 64 (a &&& b)
  apply BitVec.eq_of_getLsbD_eq
  intro i hi
  simp [hi]
theorem nL_or (a b : Nat) : Int64.ofNat a ||| Int64.ofNat b = Int64.ofNat (a ||| b) := by
  apply Int64.toBitVec_inj.1
  show BitVec.ofNat 64 a ||| BitVec.ofNat 64 b = BitVec.ofNat 64 (a ||| b)
  apply BitVec.eq_of_getLsbD_eq
  intro i hi
  simp [hi]
theorem nL_ti {n : Nat} (h : n < 9223372036854775808) : (Int64.ofNat n).toInt = (n : Int) := by
  rw [← iL_n, iL_toInt (by omega)]
theorem w_and {a b : Nat} (ha : a < 9223372036854775808) : wand (a : Int) (b : Int) = ((a &&& b : Nat) : Int) := by
  unfold wand
  rw [iL_n, iL_n, nL_and, nL_ti (Nat.lt_of_le_of_lt Nat.and_le_left ha)]
theorem w_or {a b : Nat} (ha : a < 9223372036854775808) (hb : b < 9223372036854775808) : wor (a : Int) (b : Int) = ((a ||| b : Nat) : Int) := by
  unfold wor
  rw [iL_n, iL_n, nL_or, nL_ti (Nat.or_lt_two_pow (n := 63) ha hb)]
theorem s_l64 : ∀ n, n < 64 → (((iI (n : Nat)).toInt64 &&& 63).toBitVec.smod 64).toNat = n := by decide +kernel
theorem w_shl {a k : Nat} (hk : k < 64) (h : a * 2 ^ k < 9223372036854775808) : wshl (a : Int) (k : Int) = ((a * 2 ^ k : Nat) : Int) := by
  unfold wshl
  have e : Int64.ofNat a <<< ((iI (k : Int)).toInt64 &&& 63) = Int64.ofNat (a * 2 ^ k) := by
    apply Int64.toBitVec_inj.1
    rw [Int64.toBitVec_shiftLeft, BitVec.shiftLeft_eq', s_l64 k hk]
    show BitVec.ofNat 64 a <<< k = BitVec.ofNat 64 (a * 2 ^ k)
    apply BitVec.eq_of_toNat_eq
    rw [BitVec.toNat_shiftLeft, BitVec.toNat_ofNat, BitVec.toNat_ofNat, Nat.shiftLeft_eq, Nat.mod_mul_mod]
  rw [iL_n, e, nL_ti h]
theorem w_shr {a k : Nat} (hk : k < 64) (h : a < 9223372036854775808) : wshr (a : Int) (k : Int) = ((a / 2 ^ k : Nat) : Int) := by
  unfold wshr
  rw [iL_n]
  show ((Int64.ofNat a >>> ((iI (k : Int)).toInt64 &&& 63)).toBitVec).toInt = _
  rw [Int64.toBitVec_shiftRight, BitVec.sshiftRight_eq', s_l64 k hk, BitVec.toInt_sshiftRight]
  have : (Int64.ofNat a).toBitVec.toInt = (a : Int) := nL_ti h
  rw [this, Int.shiftRight_eq_div_pow]
  norm_cast
/-! chance -/
def nxS (s : Int) : Int := (1103515245 * s + 12345) % 2147483648
theorem nxS_rng (s : Int) : 0 ≤ nxS s ∧ nxS s < 2147483648 := by unfold nxS; omega
theorem wand31 {a : Int} (h : 0 ≤ a) (h2 : a < 9223372036854775808) : wand a 2147483647 = a % 2147483648 := by
  have := w_and (a := a.toNat) (b := 2147483647) (by omega)
  rw [step_of h, show (2147483647 : Nat) = 2 ^ 31 - 1 from rfl, Nat.and_two_pow_sub_one_eq_mod] at this
  rw [show (2147483647 : Int) = ((2 ^ 31 - 1 : Nat) : Int) from rfl, this]
  omega
def drw (s m : Int) : Int := (nxS s / 64) % m
theorem drw_rng {s m : Int} (h : 0 < m) : 0 ≤ drw s m ∧ drw s m < m := by
  unfold drw
  exact ⟨Int.emod_nonneg _ (by omega), Int.emod_lt_of_pos _ h⟩
section
variable {N : Nat} {t b : Int} {p : PT} {M : Mem}
theorem IX.seed {M' : Mem} {s : Int} (hx : IX M t p) (e : M' = up M 0 13 s) : IX M' t (wSd p s) := by
  refine hx.plain (fun c c1 c2 => by rw [e, up_ne _ (by omega)]) (fun k hk => by rw [e]; simp only [up_get]; rw [if_neg (by omega)]) rfl rfl rfl rfl rfl ?_
  obtain ⟨a1, a2, a3, a4, a5, a6, a7, a8, a9, a10, a11⟩ := hx.1
  rw [e]
  unfold aX rw1 rw3 at *
  rw [up_ne _ (by decide), up_ne _ (by decide), up_ne _ (by decide), up_ne _ (by decide), up_ne _ (by decide), up_ne _ (by decide), up_ne _ (by decide), up_ne _ (by decide)]
  exact ⟨a1, a2, a3, a4, a5, a6, a7, a8, a9, a10, by simp [up_get, wSd, pSd]⟩
theorem IY.seed {M' : Mem} {s : Int} (hy : IY M b p) (e : M' = up M 199 56 s) : IY M' b (wSd p s) := by
  refine hy.plain (fun c c1 => by rw [e, up_ne _ (by omega)]) (fun k hk => by rw [e]; simp only [up_get]; rw [if_neg (by omega)]) rfl rfl rfl rfl rfl ?_
  obtain ⟨a1, a2, a3, a4, a5, a6, a7, a8, a9, a10⟩ := hy.1
  rw [e]
  unfold aY rw1 at *
  rw [up_ne _ (show (200 : Int) ≠ 199 by decide), up_ne _ (show (226 : Int) ≠ 199 by decide), up_ne _ (show (237 : Int) ≠ 199 by decide), up_ne _ (show (238 : Int) ≠ 199 by decide), up_ne _ (show (239 : Int) ≠ 199 by decide), up_ne _ (show (241 : Int) ≠ 199 by decide)]
  simp only [up_get]
  exact ⟨a1, a2, a3, a4, a5, a6, a7, a8, a9, by simp [wSd, pSd]⟩
theorem POK.seed {s : Int} (hp : POK N p) (h : 0 ≤ s ∧ s < 2147483648) : POK N (wSd p s) := by
  obtain ⟨⟨a1, a2, a3, a4, a5, a6, a7, a8, a9, a10⟩, h2⟩ := hp
  exact ⟨⟨a1, a2, a3, a4, a5, a6, a7, a8, a9, h⟩, h2⟩
theorem x_draw {Q : Int → Mem → Prop} {m : Int} (hx : IX M t p) (hp : POK N p) (hm : 1 ≤ m ∧ m ≤ 100) (h : ∀ M', IX M' t (wSd p (nxS (pSd p))) → stX M M' → M' = up M 0 13 (nxS (pSd p)) → Q (drw (pSd p) m) M') : m_X11_draw m M Q := by
  have e := hx.1.2.2.2.2.2.2.2.2.2.2
  have r := hp.1.2.2.2.2.2.2.2.2.2
  have nr := nxS_rng (pSd p)
  unfold m_X11_draw m_X11_draw_J39
  rw [e, wand31 (by omega) (by omega)]
  refine ⟨by omega, fun M1 e1 => ⟨by omega, fun z => by omega, fun _ => ?_⟩⟩
  have q : M1 0 13 = nxS (pSd p) := by rw [e1]; simp [up_get, nxS]
  rw [q, Int.tdiv_eq_ediv_of_nonneg nr.1, Int.tmod_eq_emod_of_nonneg (by omega)]
  exact ⟨by omega, by omega, by omega, by omega, h M1 (hx.seed e1) (stX.up e1 (by decide)) e1⟩
theorem y_draw {Q : Int → Mem → Prop} {m : Int} (hy : IY M b p) (hp : POK N p) (hm : 1 ≤ m ∧ m ≤ 100) (h : ∀ M', IY M' b (wSd p (nxS (pSd p))) → stY M M' → Q (drw (pSd p) m) M') : m_X12_draw m M Q := by
  have e := hy.1.2.2.2.2.2.2.2.2.2
  have r := hp.1.2.2.2.2.2.2.2.2.2
  have nr := nxS_rng (pSd p)
  unfold m_X12_draw
  rw [e, Int.tmod_eq_emod_of_nonneg (by omega)]
  refine ⟨by omega, fun M1 e1 => ?_⟩
  have q : M1 199 56 = nxS (pSd p) := by rw [e1]; simp [up_get, nxS]
  rw [q, Int.tdiv_eq_ediv_of_nonneg nr.1, Int.tmod_eq_emod_of_nonneg (by omega)]
  exact ⟨by omega, by omega, by omega, by omega, by omega, h M1 (hy.seed e1) (stY.up e1 (by decide))⟩
/-- the rain of a day: how many were cut, and what then stands -/
def rnC (p : PT) : Prop := drw (pSd p) 100 < pRa p ∧ (sRe (pS p)).length ≠ 0
def rn1 (p : PT) : PT := wSd p (nxS (pSd p))
def rn2 (p : PT) : PT := wSK (wSd p (nxS (nxS (pSd p)))) (reS (pS p) ((sRe (pS p)).eraseIdx (drw (nxS (pSd p)) ((sRe (pS p)).length : Nat)).toNat)) (pK p)
theorem POK.rn2 (hp : POK N p) (h : (sRe (pS p)).length ≠ 0) : POK N (rn2 p) := by
  have l8 := hp.2.2.1.1.2.1
  have r := drw_rng (s := nxS (pSd p)) (m := ((sRe (pS p)).length : Nat)) (by omega)
  have h1 := hp.seed (s := nxS (nxS (pSd p))) (nxS_rng _)
  refine h1.scene ⟨hp.2.2.1.1.1.re hp.2.2.1.1.1.2.2.2.2.erase, ?_, hp.2.2.1.1.2.2⟩ hp.2.2.1.2 (fun j hj => (hp.2.2.2.2 j hj).2.1)
  show ((sRe (pS p)).eraseIdx _).length ≤ 8
  rw [List.length_eraseIdx_of_lt (by omega)]
  omega
theorem x_rain {Q : Int → Mem → Prop} (hx : IX M t p) (hp : POK N p) (h1 : rnC p → ∀ M', IX M' t (rn2 p) → stX M M' → Q 1 M') (h0 : ¬ rnC p → ∀ M', IX M' t (rn1 p) → stX M M' → Q 0 M') : m_X11_rainCuts M Q := by
  have l8 := hp.2.2.1.1.2.1
  have rr := hp.2.1.2.2.2.2.2
  unfold m_X11_rainCuts m_X11_rainCuts_J21 m_X11_rainCuts_J41
  refine x_draw hx hp (by decide) fun M1 hx1 o1 _ => ?_
  have dr := drw_rng (s := pSd p) (m := 100) (by decide)
  have e11 : M1 t 11 = pRa p := hx1.2.1.2.2.2.2.2.2
  have e42 : M1 42 0 = ((sRe (pS p)).length : Nat) := hx1.2.2.1.1.2.2.2.2.1
  rw [hx1.2.1.1, e11, e42]
  refine ⟨hx1.2.1.2.2.1.1, by omega, by omega, fun q => ⟨by decide, fun _ => h0 (fun z => by have := z.1; omega) M1 hx1 o1, fun z => absurd rfl z⟩, fun q => ⟨by decide, fun z => absurd z (by decide), fun _ => ⟨by omega, fun q2 => h0 (fun z => z.2 (by omega)) M1 hx1 o1, fun q2 => ?_⟩⟩⟩
  have hp1 := hp.seed (nxS_rng (pSd p))
  refine x_draw hx1 hp1 (by omega) fun M2 hx2 o2 _ => ?_
  have dr2 := drw_rng (s := nxS (pSd p)) (m := ((sRe (pS p)).length : Nat)) (by omega)
  show m_X5_remove 42 (drw (nxS (pSd p)) ((sRe (pS p)).length : Nat)) M2 _
  have rm := x_remove (M := M2) (r := 42) (l := sRe (pS p)) (k := (drw (nxS (pSd p)) ((sRe (pS p)).length : Nat)).toNat) (Q := fun M5 => ∀ M6 : Mem, M6 = up M5 0 8 0 → Q 1 M6) (by decide) hx2.2.2.1.1.2.2.2.2 (by omega) (by omega) (fun M3 o3 r3 M4 e4 => ?_)
  · rw [step_of dr2.1] at rm
    exact rm
  · refine h1 ⟨by omega, by omega⟩ M4 (hx2.scene (fun a a1 a2 a3 => by rw [e4, up_ne _ a1, o3 a (by omega)]) (fun k k1 k2 => ?_) ?_ (by rw [e4]; simp [up_get]) ?_ ?_ (fun k hk => ?_)) (((o1.tr o2).tr (fun a ha => o3 a (by omega))).tr (stX.up e4 (by decide)))
    · rw [e4]; simp only [up_get]; rw [if_neg (fun y => k1 y.2), o3 0 (by decide)]
    · rw [e4]; simp only [up_get]; rw [if_neg (by decide), o3 0 (by decide)]
    · refine (SX.re hx2.2.2.1.1 o3 r3).rows (fun a a1 a2 => by rw [e4, up_ne _ (by omega)])
    · rw [e4, up_ne _ (by decide), o3 40 (by decide)]; exact hx2.2.2.1.2.1
    · rw [e4, up_ne _ (by decide), o3 64 (by decide)]; exact hx2.2.2.1.2.2 k hk
noncomputable def chP : Nat → Int → PT → Int × PT
  | 0, c, p => (c, p)
  | d + 1, c, p => @ite (Int × PT) (rnC p) (Classical.propDecidable _) (chP d (c + 1) (dayP (rn2 p))) (chP d c (dayP (rn1 p)))
theorem chP_ok : ∀ (d : Nat) (c : Int) (p : PT), POK N p → sDay (pS p) + d ≤ 999 → POK N (chP d c p).2 ∧ c ≤ (chP d c p).1 ∧ (chP d c p).1 ≤ c + d
  | 0, c, p, h, _ => ⟨h, by show c ≤ c; omega, by show c ≤ c + (0 : Nat); omega⟩
  | d + 1, c, p, h, hd => by
    unfold chP
    by_cases z : rnC p
    · rw [if_pos z]
      have := chP_ok d (c + 1) (dayP (rn2 p)) ((h.rn2 z.2).day (by show sDay (pS p) < 999; omega)) (by show sDay (pS p) + 1 + d ≤ 999; omega)
      exact ⟨this.1, by omega, by omega⟩
    · rw [if_neg z]
      have := chP_ok d c (dayP (rn1 p)) ((h.seed (nxS_rng _)).day (by show sDay (pS p) < 999; omega)) (by show sDay (pS p) + 1 + d ≤ 999; omega)
      exact ⟨this.1, by omega, by omega⟩
theorem x_chance_l {Q : Int → Mem → Prop} {n : Nat} {M0 : Mem} : ∀ (d k : Nat) (c : Int) (p : PT) (M : Mem), POK N p → k + d = n → n ≤ 40 → sDay (pS p) + d ≤ 999 → IX M t p → stX M0 M → (∀ M', IX M' t (chP d c p).2 → stX M0 M' → Q (chP d c p).1 M') → m_X11_chance_L34 Q n (d + 1) c k M
  | 0, k, c, p, M, hp, hk, hn, hd, hx, s0, h => by
    unfold m_X11_chance_L34
    exact ⟨by omega, by omega, fun _ => h M hx s0, fun q => by omega⟩
  | d + 1, k, c, p, M, hp, hk, hn, hd, hx, s0, h => by
    unfold m_X11_chance_L34 m_X11_chance_J52
    refine ⟨by omega, by omega, fun q => by omega, fun _ => x_rain hx hp (fun rc M1 hx1 o1 => ?_) (fun rc M1 hx1 o1 => ?_)⟩
    · have hp1 := hp.rn2 rc.2
      refine ⟨by decide, fun z => absurd z (by decide), fun _ => x_thisDay hx1 hp1 fun M2 hx2 o2 d2 => ⟨by decide, x_pass hx2 hp1 d2 (by show sDay (pS p) < 999; omega) fun M3 hx3 o3 => ?_⟩⟩
      refine x_chance_l d (k + 1) (c + 1) (dayP (rn2 p)) M3 (hp1.day (by show sDay (pS p) < 999; omega)) (by omega) hn (by show sDay (pS p) + 1 + d ≤ 999; omega) hx3 (((s0.tr o1).tr o2).tr o3) ?_
      unfold chP at h
      rw [if_pos rc] at h
      exact h
    · have hp1 : POK N (rn1 p) := hp.seed (nxS_rng _)
      refine ⟨by decide, fun _ => x_thisDay hx1 hp1 fun M2 hx2 o2 d2 => ⟨by decide, x_pass hx2 hp1 d2 (by show sDay (pS p) < 999; omega) fun M3 hx3 o3 => ?_⟩, fun z => absurd rfl z⟩
      refine x_chance_l d (k + 1) (c + 0) (dayP (rn1 p)) M3 (hp1.day (by show sDay (pS p) < 999; omega)) (by omega) hn (by show sDay (pS p) + 1 + d ≤ 999; omega) hx3 (((s0.tr o1).tr o2).tr o3) ?_
      unfold chP at h
      rw [if_neg rc] at h
      rw [Int.add_zero]
      exact h
theorem y_chance_l {Q : Int → Mem → Prop} {n : Nat} {M0 : Mem} : ∀ (d k : Nat) (c : Int) (p : PT) (M : Mem), POK N p → k + d = n → n ≤ 40 → sDay (pS p) + d ≤ 999 → IY M b p → stY M0 M → (∀ M', IY M' b (chP d c p).2 → stY M0 M' → Q (chP d c p).1 M') → m_X12_chance_L25 Q n (d + 1) c k M
  | 0, k, c, p, M, hp, hk, hn, hd, hx, s0, h => by
    unfold m_X12_chance_L25
    exact ⟨by omega, by omega, fun _ => h M hx s0, fun q => by omega⟩
  | d + 1, k, c, p, M, hp, hk, hn, hd, hy, s0, h => by
    have l8 := hp.2.2.1.1.2.1
    have rr := hp.2.1.2.2.2.2.2
    unfold m_X12_chance_L25
    refine ⟨by omega, by omega, fun q => by omega, fun _ => y_draw hy hp (by decide) fun M1 hy1 o1 => ?_⟩
    have dr := drw_rng (s := pSd p) (m := 100) (by decide)
    have e11 : M1 213 b = pRa p := hy1.2.1.2.2.2.2.2
    have e42 : M1 230 0 = ((sRe (pS p)).length : Nat) := hy1.2.2.1.1.2.2.2.2.1
    have b1 := hy1.2.1.2.1.1
    have hp1 : POK N (rn1 p) := hp.seed (nxS_rng _)
    have no : ¬ rnC p → m_X12_chance_J75 (m_X12_chance_L25 Q n (d + 1)) Q n c k M1 := fun rc => by
      unfold m_X12_chance_J75
      refine y_pass0 hy1 hp1 fun M3 hy3 o3 => ?_
      refine y_chance_l d (k + 1) c (dayP (rn1 p)) M3 (hp1.day (by show sDay (pS p) < 999; omega)) (by omega) hn (by show sDay (pS p) + 1 + d ≤ 999; omega) hy3 ((s0.tr o1).tr o3) ?_
      unfold chP at h
      rw [if_neg rc] at h
      exact h
    rw [hy1.2.1.1, e11, e42]
    refine ⟨by omega, by omega, by omega, fun q => no (fun z => by have := z.1; omega), fun q => ⟨by omega, fun q2 => no (fun z => z.2 (by omega)), fun q2 => ?_⟩⟩
    have rc : rnC p := ⟨by omega, by omega⟩
    refine y_draw hy1 hp1 (by omega) fun M2 hy2 o2 => ?_
    have dr2 := drw_rng (s := nxS (pSd p)) (m := ((sRe (pS p)).length : Nat)) (by omega)
    show m_X12_takes 0 (drw (nxS (pSd p)) ((sRe (pS p)).length : Nat)) M2 _
    have rm := y_takes (M := M2) (v := 0) (l := sRe (pS p)) (k := (drw (nxS (pSd p)) ((sRe (pS p)).length : Nat)).toNat) (Q := fun M13 => m_X12_chance_J75 (m_X12_chance_L25 Q n (d + 1)) Q n (c + 1) k M13) (by decide) hy2.2.2.1.1.2.2.2.2 (by omega) (by omega) (fun M3 o3 r3 z3 => ?_)
    · rw [step_of dr2.1] at rm
      exact rm
    · have hy3 : IY M3 b (rn2 p) := IY.scene (N := N) hy2 (hp1.seed (nxS_rng _)) o3 (SY.re hy2.2.2.1.1 z3 r3) (hy2.2.2.1.2.keep (z3 _ (by decide) (by decide)) (z3 _ (by decide) (by decide))) (fun _ _ => rfl)
      have hp3 := hp.rn2 rc.2
      unfold m_X12_chance_J75
      refine y_pass0 hy3 hp3 fun M4 hy4 o4 => ?_
      refine y_chance_l d (k + 1) (c + 1) (dayP (rn2 p)) M4 (hp3.day (by show sDay (pS p) < 999; omega)) (by omega) hn (by show sDay (pS p) + 1 + d ≤ 999; omega) hy4 ((((s0.tr o1).tr o2).tr o3.st).tr o4) ?_
      unfold chP at h
      rw [if_pos rc] at h
      exact h
theorem s_chance {a : Int} (hi : Inv N M) (ha : inI a) : m_X11_chance a M (fun r1 M1 => m_X12_chance a M1 (fun r2 M2 => Good N r1 r2 M2)) := by
  obtain ⟨t, b, p, hp, hx, hy⟩ := hi
  have m1 := most_le hp
  have xno : ¬ (1 ≤ a ∧ a ≤ 40 ∧ a ≤ 999 - sDay (pS p)) → m_X11_chance_J13 (fun r1 M1 => m_X12_chance a M1 (fun r2 M2 => Good N r1 r2 M2)) M := fun q => by
    unfold m_X11_chance_J13
    refine x_refuse (by decide) ?_
    have hy1 : IY (up M 198 2 (M 198 2 + 1)) b p := hy.st (stX.up rfl (by decide))
    unfold m_X12_chance
    exact y_isAhead hy1 hp ha (by decide) rfl (fun q1 q2 q3 => absurd ⟨q1, q2, q3⟩ q) (fun _ => ⟨by decide, fun _ => y_refuses (by decide) (fin1 hp.ref (hx.ref.st (stY.up rfl (by decide))) hy1.ref (by decide)), fun z => absurd rfl z⟩)
  unfold m_X11_chance
  refine ⟨ha, fun q => xno (by omega), fun q1 => x_daysAhead hx hp ?_⟩
  rw [m1.2.2.1]
  have mk := m1.2.2.2 a
  refine ⟨ha, by omega, fun q2 => ?_, fun q => xno (fun z => by omega)⟩
  obtain ⟨n, rfl⟩ : ∃ n : Nat, a = n := ⟨a.toNat, by omega⟩
  refine x_remember hx hp fun M1 hx1 o1 => ⟨_, x_chance_l (M0 := M) n 0 0 (remP p) M1 hp.rem (by omega) (by omega) (by show sDay (pS p) + n ≤ 999; omega) hx1 o1 (fun M2 hx2 o2 => ?_)⟩
  have hy2 := hy.st o2
  have ok := chP_ok (N := N) n 0 (remP p) hp.rem (by show sDay (pS p) + n ≤ 999; omega)
  unfold m_X12_chance
  refine y_isAhead hy2 hp ha (by decide) rfl (fun _ _ _ => ⟨by decide, fun z => absurd z (by decide), fun _ => ?_⟩) (fun z => by omega)
  refine y_keeps hy2 hp fun M3 hy3 o3 => ⟨_, y_chance_l (M0 := M2) n 0 0 (remP p) M3 hp.rem (by omega) (by omega) (by show sDay (pS p) + n ≤ 999; omega) hy3 o3 (fun M4 hy4 o4 => ?_)⟩
  exact fin ok.1 (hx2.st o4) hy4 (by omega)
end
