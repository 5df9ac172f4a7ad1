/-! an image comes on, by the model -/
section
variable {N : Nat} {t b : Int} {p : PT} {M : Mem}
theorem day_or (hp : POK N p) : zor (zshl (tg p 0) 8) (tg p 1) = 256 * tg p 0 + tg p 1 := by
  have b0 := tg_b hp 0
  have b1 := tg_b hp 1
  have e := z_shl (a := (tg p 0).toNat) (k := 8) (by decide) (by omega)
  rw [step_of b0.1] at e
  rw [show (8 : Int) = ((8 : Nat) : Int) from rfl, e]
  have e2 := z_or (a := (tg p 0).toNat * 2 ^ 8) (b := (tg p 1).toNat) (by omega) (by omega)
  rw [step_of b1.1] at e2
  rw [e2]
  have := Nat.two_pow_add_eq_or_of_lt (i := 8) (b := (tg p 1).toNat) (by omega) (tg p 0).toNat
  rw [Nat.mul_comm, ← this]
  omega
theorem y_on_275 {Q : Int → Mem → Prop} {M0 : Mem} (hy : IY M0 b (wTp p [])) (hr : rw1 M0 200 (pTp p)) (hp : POK N p) (hn : ((pTp p).length : Int) = rAt p + 2 + 3 * tg p (rAt p)) (h8 : tg p (rAt p) ≤ 8) (hQ : (∀ k : Nat, (k : Int) < tg p (rAt p) → frmP p k) → ∀ M', othY 1 M0 M' → SY M' 1 (pW p) (onS p (tg p (rAt p)).toNat (wPn (pW p))) → M' 232 1 = 0 → Q 1 M') (h0 : ¬ (∀ k : Nat, (k : Int) < tg p (rAt p) → frmP p k) → ∀ M', othY 1 M0 M' → Q 0 M') :
    ∀ (d k : Nat) (M : Mem), k + d = (tg p (rAt p)).toNat → othY 1 M0 M → SY M 1 (pW p) (onS p k (wPn (pW p))) → M 232 1 = 0 → (∀ j, j < k → frmP p j) → m_X12_comesOn_L275 Q (rAt p : Nat) (d + 1) k M
  | 0, k, M, hk, o1, s1, k4, hf => by
    have br := tg_b hp (rAt p)
    have len := hp.1.1
    have er : M 200 (rAt p : Nat) = tg p (rAt p) := by rw [o1.1 200 (by decide)]; exact hr _ (by omega)
    unfold m_X12_comesOn_L275
    rw [er]
    rw [show k = (tg p (rAt p)).toNat by omega] at s1 hf
    exact ⟨by omega, by omega, by omega, fun _ => hQ (fun j hj => hf j (by omega)) M o1 s1 k4, fun q => by omega⟩
  | d + 1, k, M, hk, o1, s1, k4, hf => by
    have br := tg_b hp (rAt p)
    have len := hp.1.1
    have w1 := hp.2.1.1.1
    have hp1 : POK (N + 1) (wTp p []) := hp.tape (by simp) (fun c hc => by simp at hc)
    have hy1 : IY M b (wTp p []) := hy.scr hp1 o1.scr
    have no : ¬ frmP p k → Q 0 M := fun z => h0 (fun y => z (y k (by omega))) M o1
    have er : ∀ j : Nat, j < (pTp p).length → M 200 (j : Nat) = tg p j := fun j hj => by rw [o1.1 200 (by decide)]; exact hr j hj
    have e0 := er (rAt p) (by omega)
    have e1 := er (rAt p + 3 * k + 1) (by omega)
    have e2 := er (rAt p + 3 * k + 2) (by omega)
    have e3 := er (rAt p + 3 * k + 3) (by omega)
    have b1 := tg_b hp (rAt p + 3 * k + 1)
    have b2 := tg_b hp (rAt p + 3 * k + 2)
    have b3 := tg_b hp (rAt p + 3 * k + 3)
    have ok := frsT_ok hp k (by omega) hf
    unfold m_X12_comesOn_L275 m_X12_comesOn_J367
    rw [show ((rAt p : Nat) : Int) + 1 + 3 * (k : Int) = (rAt p + 3 * k + 1 : Nat) by omega, show ((rAt p + 3 * k + 1 : Nat) : Int) + 1 = (rAt p + 3 * k + 2 : Nat) by omega, show ((rAt p + 3 * k + 1 : Nat) : Int) + 2 = (rAt p + 3 * k + 3 : Nat) by omega, e0, e1]
    refine ⟨by omega, by omega, by omega, fun q => by omega, fun _ => ⟨by omega, y_is2 (by omega) (by decide) (by decide) (fun q1 q2 => ?_) (fun q => ⟨by decide, fun _ => no (fun z => q z.1), fun z => absurd rfl z⟩)⟩⟩
    refine ⟨by decide, fun z => absurd z (by decide), fun _ => ?_⟩
    rw [e2]
    refine ⟨by omega, y_isPlace hy1 hp1 (by omega) (fun _ q3 => ?_) (fun q => ⟨by decide, fun _ => no (fun z => q ⟨b2.1, z.2.1⟩), fun z => absurd rfl z⟩)⟩
    refine ⟨by decide, fun z => absurd z (by decide), fun _ => ?_⟩
    rw [e3]
    refine ⟨by omega, by omega, fun q => no (fun z => by have : tg p (rAt p + 3 * k + 3) ≤ _ := z.2.2.1; omega), fun q4 => ⟨by omega, by omega, ?_⟩⟩
    rw [e1, e2]
    refine y_frameAt (l := frsT p k) (by decide) s1.2.2.2.2 ok w1 (by omega) (by omega) ?_
    have ir : inI (idxP (frsT p k) (tg p (rAt p + 3 * k + 1)) (tg p (rAt p + 3 * k + 2)) 0) := by
      by_cases z : idxP (frsT p k) (tg p (rAt p + 3 * k + 1)) (tg p (rAt p + 3 * k + 2)) 0 = -1
      · rw [z]; decide
      · have := idxP_at (by decide) z
        rw [frsT_len] at this
        omega
    refine ⟨ir, fun q5 => ⟨by omega, by omega, by omega, ?_⟩, fun q => no (fun z => q z.2.2.2)⟩
    rw [e1, e2, e3]
    refine y_shows (l := frsT p k) (by decide) s1.2.2.2.2 (by rw [frsT_len]; omega) fun M1 z1 r1 f1 => ?_
    refine y_on_275 hy hr hp hn h8 hQ h0 d (k + 1) M1 (by omega) (o1.tr z1) (s1.re (S := onS p k (wPn (pW p))) f1 r1) (by rw [f1 232 (by decide) (by decide)]; exact k4) (fun j hj => ?_)
    by_cases c : j = k
    · subst c; exact ⟨⟨q1, q2⟩, q3, by show tg p _ ≤ _; omega, q5⟩
    · exact hf j (by omega)
theorem y_on_173 {Q : Int → Mem → Prop} {M0 : Mem} (hy : IY M0 b (wTp p [])) (hr : rw1 M0 200 (pTp p)) (hp : POK N p) (hn : rAt p + 2 ≤ (pTp p).length) (hQ : (∀ k : Nat, k < wPn (pW p) → manP p k) → ∀ M', othY 1 M0 M' → M' 227 = M0 227 → M' 230 = M0 230 → M' 232 = M0 232 → M' 229 1 = (wbT p (wPn (pW p)) : Nat) → (∀ q : Nat, q < wPn (pW p) → M' 228 (6 + q) = tg p (2 + 2 * q)) → ∃ fu, m_X12_comesOn_L275 Q (rAt p : Nat) fu 0 M') (h0 : ¬ (∀ k : Nat, k < wPn (pW p) → manP p k) → ∀ M', othY 1 M0 M' → Q 0 M') :
    ∀ (d k : Nat) (M : Mem), k + d = wPn (pW p) → othY 1 M0 M → M 227 = M0 227 → M 230 = M0 230 → M 232 = M0 232 → M 229 1 = (wbT p k : Nat) → (∀ q : Nat, q < k → M 228 (6 + q) = tg p (2 + 2 * q)) → (∀ j, j < k → manP p j) → m_X12_comesOn_L173 Q (rAt p : Nat) (d + 1) k M
  | 0, k, M, hk, o1, a0, a4, a5, a2, sp, hf => by
    have w2 := hp.2.1.1.2.1
    have b1 := hy.2.1.2.1.1
    have e1 : M 199 13 = b := by rw [o1.1 199 (by decide)]; exact hy.2.1.1
    have e2 : M 205 b = (wPn (pW p) : Nat) := by rw [o1.1 205 (by decide)]; exact hy.2.1.2.1.2.2.1
    unfold m_X12_comesOn_L173
    rw [e1, e2]
    rw [show k = wPn (pW p) by omega] at a2 sp hf
    exact ⟨by omega, by omega, by omega, fun _ => hQ hf M o1 a0 a4 a5 a2 sp, fun q => by omega⟩
  | d + 1, k, M, hk, o1, a0, a4, a5, a2, sp, hf => by
    have w1 := hp.2.1.1.1
    have w2 := hp.2.1.1.2.1
    have len := hp.1.1
    have ra : rAt p = 2 + 2 * wPn (pW p) := rfl
    have b1 := hy.2.1.2.1.1
    have hp1 : POK (N + 1) (wTp p []) := hp.tape (by simp) (fun c hc => by simp at hc)
    have hy1 : IY M b (wTp p []) := hy.scr hp1 o1.scr
    have e1 : M 199 13 = b := by rw [o1.1 199 (by decide)]; exact hy.2.1.1
    have e2 : M 205 b = (wPn (pW p) : Nat) := by rw [o1.1 205 (by decide)]; exact hy.2.1.2.1.2.2.1
    have er : ∀ j : Nat, j < (pTp p).length → M 200 (j : Nat) = tg p j := fun j hj => by rw [o1.1 200 (by decide)]; exact hr j hj
    have f1 := er (2 + 2 * k) (by omega)
    have f2 := er (3 + 2 * k) (by omega)
    have c1 := tg_b hp (2 + 2 * k)
    have c2 := tg_b hp (3 + 2 * k)
    have no : ¬ manP p k → Q 0 M := fun z => h0 (fun y => z (y k (by omega))) M o1
    unfold m_X12_comesOn_L173 m_X12_comesOn_J220
    rw [e1, e2, show (2 : Int) + 2 * (k : Int) = (2 + 2 * k : Nat) by omega, show (3 : Int) + 2 * (k : Int) = (3 + 2 * k : Nat) by omega, f1]
    refine ⟨by omega, by omega, by omega, fun q => by omega, fun _ => ⟨by omega, y_isPlace hy1 hp1 (by omega) (fun _ q1 => ?_) (fun q => ⟨by decide, fun _ => no (fun z => q ⟨c1.1, z.1⟩), fun z => absurd rfl z⟩)⟩⟩
    refine ⟨by decide, fun z => absurd z (by decide), fun _ => ?_⟩
    rw [f2]
    refine ⟨by omega, by omega, fun q2 => ⟨by omega, by omega, fun M1 g1 => ⟨by omega, fun M2 g2 => ?_⟩⟩, fun q => no (fun z => q z.2)⟩
    rw [f1] at g1
    have wl := wbT_lt hp k hf
    have w6 : 2 ^ k ≤ 2 ^ 5 := Nat.pow_le_pow_right (by decide) (by omega)
    have tb : tg p (3 + 2 * k) = (((tg p (3 + 2 * k)).toNat : Nat) : Int) := by omega
    have sml : (tg p (3 + 2 * k)).toNat * 2 ^ k < 64 := by
      have : (tg p (3 + 2 * k)).toNat = 0 ∨ (tg p (3 + 2 * k)).toNat = 1 := by omega
      rcases this with z | z <;> rw [z] <;> omega
    rw [g1, up_ne _ (by decide), up_ne _ (by decide), ← g1, f2, a2, tb, z_shl (by omega) (by omega), z_or (by omega) (by omega)] at g2
    refine y_on_173 hy hr hp hn hQ h0 d (k + 1) M2 (by omega) ((o1.tr (othY.sp g1 (by omega))).tr (othY.one g2 (by decide))) ?_ ?_ ?_ ?_ (fun q hq => ?_) (fun j hj => ?_)
    · rw [g2, up_ne _ (by decide), g1, up_ne _ (by decide)]; exact a0
    · rw [g2, up_ne _ (by decide), g1, up_ne _ (by decide)]; exact a4
    · rw [g2, up_ne _ (by decide), g1, up_ne _ (by decide)]; exact a5
    · rw [g2]; simp only [up_get]; rw [if_pos ⟨trivial, trivial⟩]; rfl
    · rw [g2, up_ne _ (by decide), g1]
      simp only [up_get, true_and]
      by_cases c : q = k
      · subst c; rw [if_pos rfl]
      · rw [if_neg (by omega)]; exact sp q (by omega)
    · by_cases c : j = k
      · subst c; exact ⟨q1, q2⟩
      · exact hf j (by omega)
theorem y_on_77 {Q : Int → Mem → Prop} {n : Nat} (hr : rw1 M 200 (pTp p)) (hp : POK N p) (hn : n + 1 = (pTp p).length) (h1 : tg p n = prf ((pTp p).take n) → m_X12_copies 1 0 M (fun M42 => ∀ M43 : Mem, M43 = up M42 227 1 (zor (zshl (M42 200 0) 8) (M42 200 1)) → ∀ M44 : Mem, M44 = up M43 229 1 0 → ∀ M45 : Mem, M45 = up M44 230 1 0 → ∀ M46 : Mem, M46 = up M45 232 1 0 → ∃ fu : Nat, m_X12_comesOn_L173 Q (rAt p : Nat) fu 0 M46)) (h0 : ¬ tg p n = prf ((pTp p).take n) → Q 0 M) :
    ∀ (d k : Nat), k + d = n → m_X12_comesOn_L77 Q ((pTp p).length : Nat) (rAt p : Nat) (d + 1) (prf ((pTp p).take k)) k M
  | 0, k, hk => by
    have len := hp.1.1
    have r := prf_rng ((pTp p).take n)
    have bb := tg_b hp n
    have e := hr n (by omega)
    unfold m_X12_comesOn_L77
    rw [show (((pTp p).length : Nat) : Int) - 1 = (n : Nat) by omega, e, show k = n by omega]
    exact ⟨by omega, by omega, fun _ => ⟨by omega, by show inI (tg p n); omega, by omega, fun z => h1 z, fun z => h0 z⟩, fun q => absurd (Int.le_refl _) q⟩
  | d + 1, k, hk => by
    have len := hp.1.1
    have r := prf_rng ((pTp p).take k)
    have bb := tg_b hp k
    have e := hr k (by omega)
    have e' : M 200 (k : Nat) = tg p k := e
    unfold m_X12_comesOn_L77
    rw [show (((pTp p).length : Nat) : Int) - 1 = (n : Nat) by omega, e', Int.tmod_eq_emod_of_nonneg (by omega)]
    refine ⟨by omega, by omega, fun q => by omega, fun _ => ⟨by omega, by omega, fun x hx => ?_⟩⟩
    rw [show (5 * prf ((pTp p).take k) + tg p k) % 251 = prf ((pTp p).take (k + 1)) from (prf_step (by omega)).symm] at hx
    subst hx
    exact y_on_77 hr hp hn h1 h0 d (k + 1) (by omega)
theorem y_comes {Q : Int → Mem → Prop} (hy : IY M b (wTp p [])) (hr : rw1 M 200 (pTp p)) (hp : POK N p) (h1 : onOK p → ∀ M', othY 1 M M' → SY M' 1 (pW p) (onS p (tg p (rAt p)).toNat (wPn (pW p))) → M' 232 1 = 0 → Q 1 M') (h0 : ¬ onOK p → ∀ M', othY 1 M M' → Q 0 M') : m_X12_comesOn ((pTp p).length : Nat) M Q := by
  have w1 := hp.2.1.1.1
  have w2 := hp.2.1.1.2.1
  have len := hp.1.1
  have ra : rAt p = 2 + 2 * wPn (pW p) := rfl
  have br := tg_b hp (rAt p)
  have b0 := tg_b hp 0
  have b1 := tg_b hp 1
  have bk := hy.2.1.2.1.1
  have hp1 : POK (N + 1) (wTp p []) := hp.tape (by simp) (fun c hc => by simp at hc)
  have no : ¬ onOK p → Q 0 M := fun z => h0 z M othY.rf
  unfold m_X12_comesOn m_X12_comesOn_J68
  have e205 : M 205 b = (wPn (pW p) : Nat) := hy.2.1.2.1.2.2.1
  rw [hy.2.1.1, e205, show (2 : Int) + 2 * (wPn (pW p) : Int) = (rAt p : Nat) by omega]
  refine ⟨by omega, by omega, by omega, fun q => no (fun z => by have := z.1; omega), fun q1 => ⟨by omega, ?_⟩⟩
  have er : M 200 (rAt p : Nat) = tg p (rAt p) := hr (rAt p) (by omega)
  have t0 : M 200 0 = tg p 0 := hr 0 (by omega)
  have t1 : M 200 1 = tg p 1 := hr 1 (by omega)
  rw [er, t0, t1, day_or hp]
  refine ⟨by omega, fun q => no (fun z => by have := z.2.2.2.2.2.1; omega), fun q5 => ⟨by omega, by omega, by omega, fun q2 => ⟨by omega, fun q4 => ?_, fun q => no (fun z => q z.2.2.2.1)⟩, fun q => no (fun z => q z.2.1)⟩⟩
  refine ⟨((pTp p).length - 1) + 1, y_on_77 (n := (pTp p).length - 1) hr hp (by omega) (fun q3 => ?_) (fun q3 => no (fun z => q3 z.2.2.1)) ((pTp p).length - 1) 0 (by omega)⟩
  refine y_copies (by decide) (by decide) hy.2.2.1.1 hp.2.2.1.1.1 hp.2.1.1 hy.2.2.1.2 fun M1 o1 s1 k1 M2 e2 M3 e3 M4 e4 M5 e5 => ⟨wPn (pW p) + 1, ?_⟩
  have u0 : M1 200 0 = tg p 0 := by rw [o1.1 200 (by decide)]; exact t0
  have u1 : M1 200 1 = tg p 1 := by rw [o1.1 200 (by decide)]; exact t1
  rw [u0, u1, day_or hp] at e2
  have o5 : othY 1 M M5 := (((o1.tr (othY.one e2 (by decide))).tr (othY.one e3 (by decide))).tr (othY.one e4 (by decide))).tr (othY.one e5 (by decide))
  have d5 : M5 227 1 = 256 * tg p 0 + tg p 1 := by rw [e5, up_ne _ (by decide), e4, up_ne _ (by decide), e3, up_ne _ (by decide), e2]; simp [up_get]
  have c5 : M5 230 1 = 0 := by rw [e5, up_ne _ (by decide), e4]; simp [up_get]
  have k5 : M5 232 1 = 0 := by rw [e5]; simp [up_get]
  have v5 : M5 229 1 = 0 := by rw [e5, up_ne _ (by decide), e4, up_ne _ (by decide), e3]; simp [up_get]
  have hy5 := hy.scr hp1 o5.scr
  have hr5 : rw1 M5 200 (pTp p) := fun k hk => by rw [o5.1 200 (by decide)]; exact hr k hk
  refine y_on_173 (M0 := M5) hy5 hr5 hp (by omega) (fun hm M6 o6 a0 a4 a5 a2 sp => ⟨(tg p (rAt p)).toNat + 1, ?_⟩) (fun hm M6 o6 => h0 (fun z => hm z.2.2.2.2.1) M6 (o5.tr o6)) (wPn (pW p)) 0 M5 (by omega) othY.rf rfl rfl rfl (by rw [v5]; rfl) (fun q hq => by omega) (fun j hj => by omega)
  have hy6 := hy5.scr hp1 o6.scr
  refine y_on_275 (M0 := M) hy hr hp q2 (by omega) (fun hf M7 o7 s7 k7 => h1 ⟨by omega, q2, q3, q4, hm, by omega, hf⟩ M7 o7 s7 k7) (fun hf M7 o7 => h0 (fun z => hf z.2.2.2.2.2.2) M7 o7) (tg p (rAt p)).toNat 0 M6 (by omega) (o5.tr o6) ⟨by decide, ?_, ?_, fun q hq => ?_, ?_, fun k hk => by simp [onS, frsT, sRe] at hk⟩ (by rw [a5, k5]) (fun j hj => by omega)
  · rw [a0, d5]; rfl
  · rw [a2]; rfl
  · rw [show 6 * (1 : Int) + (q : Int) = 6 + q by omega, sp q hq]
    show _ = tg p (2 + 2 * ((q : Int)).toNat)
    rw [Int.toNat_natCast]
  · rw [a4, c5]; simp [onS, frsT, sRe]
theorem y_on {Q : Int → Mem → Prop} (hy : IY M b p) (hp : POK N p) (h1 : onOK p → ∀ M', IY M' b (wOn p) → stY M M' → Q 1 M') (h0 : ¬ onOK p → ∀ M', IY M' b (wRf (wTp p []) 5) → stY M M' → Q 0 M') : m_X12_on M Q := by
  unfold m_X12_on m_X12_on_J31
  intro M1 e1
  have hy1 : IY M1 b (wTp p []) := hy.tape (fun z z1 z2 => by rw [e1, up_ne _ z1]) (fun k hk => by rw [e1]; simp only [up_get]; rw [if_neg (fun z => hk z.2)]) (by rw [e1]; simp [up_get]) (fun k hk => by simp at hk)
  have hr1 : rw1 M1 200 (pTp p) := fun k hk => by rw [e1, up_ne _ (by decide)]; exact hy.1.2.1 k hk
  have hp1 : POK (N + 1) (wTp p []) := hp.tape (by simp) (fun c hc => by simp at hc)
  rw [hy.1.1]
  refine y_comes hy1 hr1 hp (fun ok M2 o2 s2 k2 => ⟨by decide, fun z => absurd z (by decide), fun _ => ?_⟩) (fun ok M2 o2 => ⟨by decide, fun _ => ?_, fun z => absurd rfl z⟩)
  · have ky : KY M2 1 [] := ⟨by rw [k2]; rfl, fun k _ hk => by simp at hk⟩
    have hy2 := hy1.scr hp1 o2.scr
    refine y_copies (by decide) (by decide) s2 (onS_ok hp ok) hp.2.1.1 ky fun M3 o3 s3 k3 M4 e4 => ?_
    obtain ⟨a1, a2, a3⟩ := hy2.oth hp1 o3 (Or.inl rfl)
    have z : ∀ a, a ≠ 199 → M4 a = M3 a := fun a ha => by rw [e4, up_ne _ ha]
    have z9 : ∀ k, k ≠ 55 → M4 199 k = M3 199 k := fun k hk => by
      rw [e4]; simp only [up_get]
      rw [if_neg (fun y => hk y.2)]
    refine h1 ok M4 ⟨?_, ⟨?_, ?_, ?_⟩, ⟨?_, ?_⟩, ⟨?_, ?_, ?_, fun j hj => absurd hj (Nat.not_lt_zero j)⟩⟩ (((stY.up e1 (by decide)).tr (o2.st.tr o3.st)).tr (stY.up e4 (by decide)))
    · obtain ⟨q1, q2, q3, q4, q5, q6, q7, q8, q9, q10⟩ := a1
      refine ⟨?_, fun k hk => absurd hk (Nat.not_lt_zero k), ?_, ?_, ?_, ?_, ?_, ?_, ?_, ?_⟩
      · rw [z9 1 (by decide)]; exact q1
      · rw [z 226 (by decide)]; exact q3
      · rw [z9 10 (by decide)]; exact q4
      · rw [z9 11 (by decide)]; exact q5
      · rw [z9 60 (by decide)]; exact q6
      · rw [z 237 (by decide), z 238 (by decide), z 239 (by decide)]; exact q7
      · rw [z9 66 (by decide)]; exact q8
      · unfold rw1 at *; rw [z 241 (by decide)]; exact q9
      · rw [z9 56 (by decide)]; exact q10
    · rw [z9 13 (by decide)]; exact a2.1
    · exact a2.2.1.off (fun a a1 a2 => z a (by omega))
    · rw [z 218 (by decide), z 219 (by decide), z 202 (by decide), z 213 (by decide)]
      exact a2.2.2
    · exact s3.off (z _ (by decide)) (z _ (by decide)) (z _ (by decide)) (z _ (by decide)) (z _ (by decide))
    · exact k3.keep (z _ (by decide)) (z _ (by decide))
    · rw [e4]; simp [up_get, wOn, pU]
    · rw [z9 54 (by decide), a3]; exact hy2.2.2.2.2.1
    · rw [z9 54 (by decide), a3]; exact hy2.2.2.2.2.2.1
  · have hy2 := hy1.scr hp1 o2.scr
    exact y_refuses (by decide) ⟨by decide, fun _ => ⟨by decide, h0 ok _ hy2.ref (((stY.up e1 (by decide)).tr o2.st).tr (stY.up rfl (by decide)))⟩, fun z => absurd (show (-1 : Int) < 0 by decide) z⟩
theorem s_on (hi : Inv N M) : m_X11_on M (fun r1 M1 => m_X12_on M1 (fun r2 M2 => Good N r1 r2 M2)) := by
  obtain ⟨t, b, p, hp, hx, hy⟩ := hi
  refine x_on hx hp (fun ok M1 hx1 o1 => ?_) (fun no M1 hx1 o1 => ?_)
  · have br := tg_b hp (rAt p)
    have h2 : POK (N + 1) (wOn p) := by
      obtain ⟨⟨a1, a2, a3, a4⟩, h2, h3⟩ := hp.mono
      refine ⟨⟨by simp [wOn, pTp], fun c hc => by simp [wOn, pTp] at hc, a3, a4⟩, h2, ⟨⟨onS_ok hp ok, ?_, ?_⟩, fun q hq => by simp [wOn, pK] at hq⟩, by simp [wOn, pU], fun j hj => absurd hj (Nat.not_lt_zero j)⟩
      · show (frsT p (tg p (rAt p)).toNat).length ≤ 8
        rw [frsT_len]
        have := ok.2.2.2.2.2.1
        omega
      · exact (onS_ok hp ok).1
    exact y_on (hy.st o1) hp (fun _ M2 hy2 o2 => fin1 h2 (hx1.st o2) hy2 (by decide)) (fun z => absurd ok z)
  · have h2 : POK (N + 1) (wRf (wTp p []) 5) := by
      have := hp.ref (a := 5)
      obtain ⟨⟨a1, a2, a3, a4⟩, h2⟩ := this
      exact ⟨⟨by simp [wRf, wTp, pTp], fun c hc => by simp [wRf, wTp, pTp] at hc, a3, a4⟩, h2⟩
    exact y_on (hy.st o1) hp (fun z => absurd z no) (fun _ M2 hy2 o2 => fin1 h2 (hx1.st o2) hy2 (by decide))
end
