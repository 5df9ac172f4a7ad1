/-! an image comes on -/
section
variable {N : Nat} {t b : Int} {p : PT} {M : Mem}
abbrev tg (p : PT) (k : Nat) : Int := (pTp p).getD k 0
def rAt (p : PT) : Nat := 2 + 2 * wPn (pW p)
def frT (p : PT) (k : Nat) : Int × Int × Int := (tg p (rAt p + 3 * k + 1), tg p (rAt p + 3 * k + 2), tg p (rAt p + 3 * k + 3))
def frsT (p : PT) : Nat → List (Int × Int × Int)
  | 0 => []
  | k + 1 => frsT p k ++ [frT p k]
theorem frsT_len (p : PT) : ∀ k, (frsT p k).length = k
  | 0 => rfl
  | k + 1 => by simp [frsT, frsT_len p k]
def wbT (p : PT) : Nat → Nat
  | 0 => 0
  | k + 1 => wbT p k ||| (tg p (3 + 2 * k)).toNat * 2 ^ k
def manP (p : PT) (k : Nat) : Prop := tg p (2 + 2 * k) < wPl (pW p) ∧ tg p (3 + 2 * k) ≤ 1
def frmP (p : PT) (k : Nat) : Prop := (1 ≤ (frT p k).1 ∧ (frT p k).1 ≤ 8) ∧ (frT p k).2.1 < wPl (pW p) ∧ (frT p k).2.2 ≤ 6 ∧ idxP (frsT p k) (frT p k).1 (frT p k).2.1 0 = -1
def onOK (p : PT) : Prop := rAt p + 2 ≤ (pTp p).length ∧ ((pTp p).length : Int) = rAt p + 2 + 3 * tg p (rAt p) ∧ tg p ((pTp p).length - 1) = prf ((pTp p).take ((pTp p).length - 1)) ∧ 256 * tg p 0 + tg p 1 ≤ 999 ∧ (∀ k, k < wPn (pW p) → manP p k) ∧ tg p (rAt p) ≤ 8 ∧ ∀ k : Nat, (k : Int) < tg p (rAt p) → frmP p k
def onS (p : PT) (k w : Nat) : TS := (256 * tg p 0 + tg p 1, wbT p w, fun q => tg p (2 + 2 * q.toNat), frsT p k)
theorem tg_b (hp : POK N p) (k : Nat) : 0 ≤ tg p k ∧ tg p k < 256 := by
  by_cases c : k < (pTp p).length
  · exact tape_b hp c
  · unfold tg
    simp [List.getD, List.getElem?_eq_none (show (pTp p).length ≤ k by omega)]
theorem wbT_lt (hp : POK N p) : ∀ k : Nat, (∀ j, j < k → manP p j) → wbT p k < 2 ^ k
  | 0, _ => by show 0 < 1; decide
  | k + 1, h => by
    have ih := wbT_lt hp k (fun j hj => h j (by omega))
    have m := (h k (by omega)).2
    have b0 := (tg_b hp (3 + 2 * k)).1
    unfold wbT
    refine Nat.or_lt_two_pow (n := k + 1) (by rw [Nat.pow_succ]; omega) ?_
    have : (tg p (3 + 2 * k)).toNat = 0 ∨ (tg p (3 + 2 * k)).toNat = 1 := by omega
    rcases this with z | z <;> rw [z, Nat.pow_succ] <;> have := Nat.two_pow_pos k <;> omega
theorem frsT_ok (hp : POK N p) : ∀ k : Nat, k ≤ 8 → (∀ j, j < k → frmP p j) → reOK (pW p) (frsT p k)
  | 0, _, _ => ⟨by simp [frsT], fun q hq => by simp [frsT] at hq, trivial⟩
  | k + 1, k8, h => by
    have ih := frsT_ok hp k (by omega) (fun j hj => h j (by omega))
    obtain ⟨⟨f1, f2⟩, f3, f4, f5⟩ := h k (by omega)
    have := ih.put (s := (frT p k).1) (p := (frT p k).2.1) (n := (frT p k).2.2) (by rw [frsT_len]; omega) ⟨f1, f2, (tg_b hp _).1, f3, (tg_b hp _).1, f4⟩
    unfold putP at this
    rw [if_pos f5] at this
    exact this
theorem onS_ok (hp : POK N p) (h : onOK p) : SOK (pW p) (onS p (tg p (rAt p)).toNat (wPn (pW p))) := by
  obtain ⟨h1, h2, h3, h4, h5, h6, h7⟩ := h
  have w2 := hp.2.1.1.2.1
  have b0 := tg_b hp 0
  have b1 := tg_b hp 1
  have br := tg_b hp (rAt p)
  have wl := wbT_lt hp _ h5
  have w6 : 2 ^ wPn (pW p) ≤ 2 ^ 6 := Nat.pow_le_pow_right (by decide) w2
  refine ⟨by show 0 ≤ 256 * tg p 0 + tg p 1; omega, h4, by show wbT p _ < 64; omega, fun q hq => ?_, frsT_ok hp _ (by omega) (fun j hj => h7 j (by omega))⟩
  show 0 ≤ tg p (2 + 2 * ((q : Int)).toNat) ∧ tg p (2 + 2 * ((q : Int)).toNat) < _
  rw [Int.toNat_natCast]
  exact ⟨(tg_b hp _).1, (h5 q hq).1⟩
theorem x_proofI {Q : Int → Mem → Prop} {a c : Int} {l : List Int} {n : Nat} (hc : c = (n : Nat)) (ha : kd a = 20) (hr : rw1 M a l) (hb : ∀ c ∈ l, 0 ≤ c ∧ c < 256) (hn : n ≤ l.length) (hl : (n : Int) ≤ ln a) (h16 : n ≤ 1600) (h : Q (prf (l.take n)) M) : m_X4_proof a c M Q := by
  subst hc
  exact x_proof ha hr hb hn hl h16 h
/-- the class reads on -/
theorem x_on_18 {Q : Int → Mem → Prop} {M0 : Mem} (hx : IX M0 t p) (hp : POK N p) (hn : ((pTp p).length : Int) = rAt p + 2 + 3 * tg p (rAt p)) (h8 : tg p (rAt p) ≤ 8) (hQ : (∀ k : Nat, (k : Int) < tg p (rAt p) → frmP p k) → ∀ M', offS 46 M0 M' → SX M' 46 (pW p) (onS p (tg p (rAt p)).toNat (wPn (pW p))) → M' 46 4 = 0 → Q 1 M') (h0 : ¬ (∀ k : Nat, (k : Int) < tg p (rAt p) → frmP p k) → ∀ M', offS 46 M0 M' → Q 0 M') :
    ∀ (d k : Nat) (M : Mem), k + d = (tg p (rAt p)).toNat → offS 46 M0 M → SX M 46 (pW p) (onS p k (wPn (pW p))) → M 46 4 = 0 → (∀ j, j < k → frmP p j) → m_X4_readReel_L18 Q 2 (rAt p : Nat) t 48 (d + 1) k M
  | 0, k, M, hk, o1, s1, k4, hf => by
    have br := tg_b hp (rAt p)
    have len := hp.1.1
    have er : M 2 (rAt p : Nat) = tg p (rAt p) := by rw [o1 2 (by decide)]; exact hx.1.2.1 _ (by omega)
    unfold m_X4_readReel_L18
    rw [er, ln_2]
    rw [show k = (tg p (rAt p)).toNat by omega] at s1 hf
    exact ⟨by omega, by omega, by omega, fun _ => hQ (fun j hj => hf j (by omega)) M o1 s1 k4, fun q => by omega⟩
  | d + 1, k, M, hk, o1, s1, k4, hf => by
    have br := tg_b hp (rAt p)
    have len := hp.1.1
    have kt := isTown hx.2.1.2.2.1.1
    have w1 := hp.2.1.1.1
    have no : ¬ frmP p k → Q 0 M := fun z => h0 (fun y => z (y k (by omega))) M o1
    have er : ∀ j : Nat, j < (pTp p).length → M 2 (j : Nat) = tg p j := fun j hj => by rw [o1 2 (by decide)]; exact hx.1.2.1 j hj
    have e0 := er (rAt p) (by omega)
    have e1 := er (rAt p + 3 * k + 1) (by omega)
    have e2 := er (rAt p + 3 * k + 2) (by omega)
    have e3 := er (rAt p + 3 * k + 3) (by omega)
    have b1 := tg_b hp (rAt p + 3 * k + 1)
    have b2 := tg_b hp (rAt p + 3 * k + 2)
    have b3 := tg_b hp (rAt p + 3 * k + 3)
    have et : M t 0 = (wPl (pW p) : Nat) := by rw [o1 t (by omega)]; exact hx.2.1.2.2.1.2.1
    unfold m_X4_readReel_L18 m_X4_readReel_J98
    rw [show ((rAt p : Nat) : Int) + 3 * (k : Int) + 1 = (rAt p + 3 * k + 1 : Nat) by omega, show ((rAt p : Nat) : Int) + 3 * (k : Int) + 2 = (rAt p + 3 * k + 2 : Nat) by omega, show ((rAt p : Nat) : Int) + 3 * (k : Int) + 3 = (rAt p + 3 * k + 3 : Nat) by omega, e0, e1, e2, e3, ln_2]
    have ok := frsT_ok hp k (by omega) hf
    refine ⟨by omega, by omega, by omega, fun q => by omega, fun _ => ⟨by omega, by omega, by omega, x_isStep (by omega) (fun q1 q2 => ?_) (fun q => ⟨by decide, fun _ => no (fun z => q z.1), fun z => absurd rfl z⟩)⟩⟩
    refine ⟨by decide, fun z => absurd z (by decide), fun _ => ?_⟩
    rw [et]
    refine ⟨by omega, by omega, fun q => no (fun z => by have : tg p (rAt p + 3 * k + 2) < _ := z.2.1; omega), fun q3 => ⟨by omega, fun q => no (fun z => by have : tg p (rAt p + 3 * k + 3) ≤ _ := z.2.2.1; omega), fun q4 => ?_⟩⟩
    refine x_indexOf (l := frsT p k) (by decide) s1.2.2.2.2 ok w1 (by omega) (by omega) ?_
    have ir : inI (idxP (frsT p k) (tg p (rAt p + 3 * k + 1)) (tg p (rAt p + 3 * k + 2)) 0) := by
      by_cases z : idxP (frsT p k) (tg p (rAt p + 3 * k + 1)) (tg p (rAt p + 3 * k + 2)) 0 = -1
      · rw [z]; decide
      · have := idxP_at (by decide) z
        rw [frsT_len] at this
        omega
    refine ⟨ir, fun q5 => ?_, fun q => no (fun z => q z.2.2.2)⟩
    refine x_reput (l := frsT p k) (by decide) s1.2.2.2.2 ok w1 (by rw [frsT_len]; omega) (by omega) (by omega) fun M1 z1 r1 => ?_
    have pe : putP (frsT p k) (tg p (rAt p + 3 * k + 1)) (tg p (rAt p + 3 * k + 2)) (tg p (rAt p + 3 * k + 3)) = frsT p (k + 1) := by unfold putP; rw [if_pos q5]; rfl
    rw [pe] at r1
    refine x_on_18 hx hp hn h8 hQ h0 d (k + 1) M1 (by omega) (fun a ha => by rw [z1 a (by omega), o1 a ha]) (s1.re (S := onS p k (wPn (pW p))) z1 r1) (by rw [z1 46 (by decide)]; exact k4) (fun j hj => ?_)
    by_cases c : j = k
    · subst c; exact ⟨⟨q1, q2⟩, by show tg p _ < _; omega, by show tg p _ ≤ _; omega, q5⟩
    · exact hf j (by omega)
theorem x_on_7 {Q : Int → Mem → Prop} {M0 : Mem} (hx : IX M0 t p) (hp : POK N p) (hn : rAt p + 2 ≤ (pTp p).length) (hQ : (∀ k : Nat, k < wPn (pW p) → manP p k) → ∀ M', offS 46 M0 M' → M' 46 0 = M0 46 0 → M' 46 4 = M0 46 4 → M' 46 2 = (wbT p (wPn (pW p)) : Nat) → (∀ q : Nat, q < wPn (pW p) → M' 47 q = tg p (2 + 2 * q)) → Q 1 M') (h0 : ¬ (∀ k : Nat, k < wPn (pW p) → manP p k) → ∀ M', offS 46 M0 M' → Q 0 M') :
    ∀ (d k : Nat) (M : Mem), k + d = wPn (pW p) → offS 46 M0 M → M 46 0 = M0 46 0 → M 46 4 = M0 46 4 → M 46 2 = (wbT p k : Nat) → (∀ q : Nat, q < k → M 47 q = tg p (2 + 2 * q)) → (∀ j, j < k → manP p j) → m_X4_readPeople_L7 Q 2 t 46 (d + 1) k M
  | 0, k, M, hk, o1, a0, a4, a2, sp, hf => by
    have w2 := hp.2.1.1.2.1
    have kt := isTown hx.2.1.2.2.1.1
    have et : M t 5 = (wPn (pW p) : Nat) := by rw [o1 t (by omega)]; exact hx.2.1.2.2.1.2.2.1
    unfold m_X4_readPeople_L7
    rw [et]
    rw [show k = wPn (pW p) by omega] at a2 sp hf
    exact ⟨by omega, by omega, fun _ => hQ hf M o1 a0 a4 a2 sp, fun q => by omega⟩
  | d + 1, k, M, hk, o1, a0, a4, a2, sp, hf => by
    have w1 := hp.2.1.1.1
    have w2 := hp.2.1.1.2.1
    have len := hp.1.1
    have ra : rAt p = 2 + 2 * wPn (pW p) := rfl
    have kt := isTown hx.2.1.2.2.1.1
    have et : M t 5 = (wPn (pW p) : Nat) := by rw [o1 t (by omega)]; exact hx.2.1.2.2.1.2.2.1
    have et0 : M t 0 = (wPl (pW p) : Nat) := by rw [o1 t (by omega)]; exact hx.2.1.2.2.1.2.1
    have er : ∀ j : Nat, j < (pTp p).length → M 2 (j : Nat) = tg p j := fun j hj => by rw [o1 2 (by decide)]; exact hx.1.2.1 j hj
    have e1 := er (2 + 2 * k) (by omega)
    have e2 := er (3 + 2 * k) (by omega)
    have b1 := tg_b hp (2 + 2 * k)
    have b2 := tg_b hp (3 + 2 * k)
    have no : ¬ manP p k → Q 0 M := fun z => h0 (fun y => z (y k (by omega))) M o1
    unfold m_X4_readPeople_L7 m_X4_readPeople_J48
    rw [et, et0, show (2 : Int) + 2 * (k : Int) = (2 + 2 * k : Nat) by omega, show (3 : Int) + 2 * (k : Int) = (3 + 2 * k : Nat) by omega, e1, e2, ln_2]
    refine ⟨by omega, by omega, fun q => by omega, fun _ => ⟨by omega, by omega, by omega, by omega, fun q => no (fun z => by have := z.1; omega), fun q1 => ⟨by omega, fun q2 => ⟨by omega, fun M1 f1 M2 f2 => ?_⟩, fun q => no (fun z => q z.2)⟩⟩⟩
    rw [show (46 : Int) + 1 = 47 from rfl] at f1
    have wl := wbT_lt hp k hf
    have w6 : 2 ^ k ≤ 2 ^ 5 := Nat.pow_le_pow_right (by decide) (by omega)
    have tb : tg p (3 + 2 * k) = (((tg p (3 + 2 * k)).toNat : Nat) : Int) := by omega
    have sml : (tg p (3 + 2 * k)).toNat * 2 ^ k < 64 := by
      have : (tg p (3 + 2 * k)).toNat = 0 ∨ (tg p (3 + 2 * k)).toNat = 1 := by omega
      rcases this with z | z <;> rw [z] <;> omega
    rw [f1, up_ne _ (by decide), ← f1, a2, tb, z_shl (by omega) (by omega), z_or (by omega) (by omega)] at f2
    refine x_on_7 hx hp hn hQ h0 d (k + 1) M2 (by omega) (fun a ha => by rw [f2, up_ne _ (by omega), f1, up_ne _ (by omega), o1 a ha]) ?_ ?_ ?_ (fun q hq => ?_) (fun j hj => ?_)
    · rw [f2]; simp only [up_get]; rw [if_neg (by decide), f1, up_ne _ (by decide)]; exact a0
    · rw [f2]; simp only [up_get]; rw [if_neg (by decide), f1, up_ne _ (by decide)]; exact a4
    · rw [f2]; simp only [up_get]; rw [if_pos ⟨trivial, trivial⟩]; rfl
    · rw [f2, up_ne _ (by decide), f1]
      simp only [up_get, true_and]
      by_cases c : q = k
      · subst c; rw [if_pos rfl]
      · rw [if_neg (by omega)]; exact sp q (by omega)
    · by_cases c : j = k
      · subst c; exact ⟨by omega, q2⟩
      · exact hf j (by omega)
theorem x_read {Q : Int → Mem → Prop} (hx : IX M t p) (hp : POK N p) (h1 : onOK p → ∀ M', offS 46 M M' → SX M' 46 (pW p) (onS p (tg p (rAt p)).toNat (wPn (pW p))) → M' 46 4 = 0 → Q 1 M') (h0 : ¬ onOK p → ∀ M', offS 46 M M' → Q 0 M') : m_X4_read t 46 M Q := by
  have w1 := hp.2.1.1.1
  have w2 := hp.2.1.1.2.1
  have len := hp.1.1
  have ra : rAt p = 2 + 2 * wPn (pW p) := rfl
  have br := tg_b hp (rAt p)
  have b0 := tg_b hp 0
  have b1 := tg_b hp 1
  have kt := isTown hx.2.1.2.2.1.1
  have no : ¬ onOK p → Q 0 M := fun z => h0 z M offS.rf
  unfold m_X4_read m_X4_read_J65 m_X4_read_J124 m_X4_read_J125
  rw [hx.1.1, hx.2.1.2.2.1.2.2.1, show (2 : Int) + 2 * (wPn (pW p) : Int) = (rAt p : Nat) by omega]
  refine ⟨hx.2.1.2.2.1.1, by decide, by omega, by omega, fun q => no (fun z => by have := z.1; omega), fun q1 => ⟨by omega, ?_⟩⟩
  have er := hx.1.2.1 (rAt p) (by omega)
  have el := hx.1.2.1 ((pTp p).length - 1) (by omega)
  rw [show (((pTp p).length - 1 : Nat) : Int) = ((pTp p).length : Int) - 1 by omega] at el
  rw [er]
  show inI _ ∧ inI ((rAt p : Int) + 2 + 3 * tg p (rAt p)) ∧ _
  refine ⟨by omega, by omega, fun q2 => ⟨by omega, ?_⟩, fun q => no (fun z => q z.2.1)⟩
  refine x_proofI (n := (pTp p).length - 1) (by omega) (by decide) hx.1.2.1 hp.1.2.1 (by omega) (by rw [ln_2]; omega) (by omega) ?_
  rw [el]
  have pr := prf_rng ((pTp p).take ((pTp p).length - 1))
  have bl := tg_b hp ((pTp p).length - 1)
  refine ⟨by show inI (tg p _); omega, by omega, fun q3 M1 f1 M2 f2 => ?_, fun q => no (fun z => q z.2.2.1)⟩
  have t0 : M 2 0 = tg p 0 := hx.1.2.1 0 (by omega)
  have t1 : M 2 1 = tg p 1 := hx.1.2.1 1 (by omega)
  rw [t0, t1] at f1
  have o2 : offS 46 M M2 := (offS.rf.up f1 (by decide)).up f2 (by decide)
  have d2 : M2 46 0 = 256 * tg p 0 + tg p 1 := by
    rw [f2]; simp only [up_get]; rw [if_neg (by decide), f1]; simp [up_get]
  have k2 : M2 46 4 = 0 := by rw [f2]; simp [up_get]
  rw [d2]
  refine ⟨by omega, fun q => ⟨by decide, h0 (fun z => by have := z.2.2.2.1; omega) M2 o2⟩, fun q4 => ?_⟩
  refine ⟨by decide, hx.2.1.2.2.1.1, by decide, fun M3 f3 => ⟨wPn (pW p) + 1, ?_⟩⟩
  have o3 : offS 46 M M3 := o2.up f3 (by decide)
  have hx3 := hx.scr o3.scr
  refine x_on_7 (M0 := M3) hx3 hp (by omega) (fun hm M4 o4 a0 a4 a2 sp => ⟨by decide, fun z => absurd z (by decide), fun _ => ?_⟩) (fun hm M4 o4 => ⟨by decide, fun _ => ⟨by decide, h0 (fun z => hm z.2.2.2.2.1) M4 (o3.tr o4)⟩, fun z => absurd rfl z⟩) (wPn (pW p)) 0 M3 (by omega) offS.rf rfl rfl (by rw [f3]; simp [up_get, wbT]) (fun q hq => by omega) (fun j hj => by omega)
  have d3 : M3 46 0 = 256 * tg p 0 + tg p 1 := by rw [f3]; simp only [up_get]; rw [if_neg (by decide), d2]
  have k3 : M3 46 4 = 0 := by rw [f3]; simp only [up_get]; rw [if_neg (by decide), k2]
  unfold m_X4_readReel
  refine ⟨by decide, hx.2.1.2.2.1.1, by decide, fun M5 f5 => ?_⟩
  rw [show (46 : Int) + 2 = 48 from rfl] at f5 ⊢
  have o5 : offS 46 M M5 := (o3.tr o4).up f5 (by decide)
  have e5 : M5 2 (rAt p : Nat) = tg p (rAt p) := by rw [o5 2 (by decide)]; exact er
  rw [e5, ln_2]
  refine ⟨by omega, by omega, fun q5 => ⟨(tg p (rAt p)).toNat + 1, ?_⟩, fun q => ⟨by decide, fun _ => ⟨by decide, h0 (fun z => q z.2.2.2.2.2.1) M5 o5⟩, fun z => absurd rfl z⟩⟩
  refine x_on_18 (M0 := M) hx hp q2 q5 (fun hf M6 o6 s6 k6 => ⟨by decide, fun z => absurd z (by decide), fun _ => ⟨by decide, h1 ⟨by omega, q2, q3, by omega, hm, q5, hf⟩ M6 o6 s6 k6⟩⟩) (fun hf M6 o6 => ⟨by decide, fun _ => ⟨by decide, h0 (fun z => hf z.2.2.2.2.2.2) M6 o6⟩, fun z => absurd rfl z⟩) (tg p (rAt p)).toNat 0 M5 (by omega) o5 ⟨by decide, ?_, ?_, fun q hq => ?_, ?_, fun k hk => by simp [onS, frsT, sRe] at hk⟩ ?_ (fun j hj => by omega)
  · rw [f5, up_ne _ (by decide), a0, d3]; rfl
  · rw [f5, up_ne _ (by decide), a2]; rfl
  · rw [show (46 : Int) + 1 = 47 from rfl, f5, up_ne _ (by decide), sp q hq]
    show _ = tg p (2 + 2 * ((q : Int)).toNat)
    rw [Int.toNat_natCast]
  · rw [show (46 : Int) + 2 = 48 from rfl, f5]; simp [up_get, onS, frsT, sRe]
  · rw [f5, up_ne _ (by decide), a4, k3]
def wOn (p : PT) : PT := ([], pRf p, pFa p, pW p, p.2.2.2.2.1, onS p (tg p (rAt p)).toNat (wPn (pW p)), [], [], pSe p, pIm p, pSd p)
theorem x_on {Q : Int → Mem → Prop} (hx : IX M t p) (hp : POK N p) (h1 : onOK p → ∀ M', IX M' t (wOn p) → stX M M' → Q 1 M') (h0 : ¬ onOK p → ∀ M', IX M' t (wRf (wTp p []) 5) → stX M M' → Q 0 M') : m_X11_on M Q := by
  unfold m_X11_on m_X3_forget
  rw [hx.2.1.1]
  refine ⟨hx.2.1.2.2.1.1, x_read hx hp (fun ok M1 o1 s1 k1 M2 e2 => ⟨by decide, fun z => absurd z (by decide), fun _ => ?_⟩) (fun ok M1 o1 M2 e2 => ⟨by decide, fun _ => ?_, fun z => absurd rfl z⟩)⟩
  · have hx1 := hx.scr o1.scr
    have s2 : SX M2 46 (pW p) (onS p (tg p (rAt p)).toNat (wPn (pW p))) := s1.rows (fun a a1 a2 => by rw [e2, up_ne _ (by omega)])
    have k2 : M2 46 4 = 0 := by rw [e2, up_ne _ (by decide)]; exact k1
    refine x_copy (by decide) s2 (onS_ok hp ok) hp.2.1.1 (by decide) fun M3 o3 s3 k3 M4 e4 M5 e5 => ?_
    have z : ∀ a, a ≠ 0 → a ≠ 1 → a ≠ 62 → (a < 40 ∨ 51 < a) → M5 a = M a := fun a a1 a2 a3 a4 => by rw [e5, up_ne _ a1, e4, up_ne _ a3, o3 a (by omega), e2, up_ne _ a2, o1 a (by omega)]
    have z0 : ∀ k, k ≠ 8 → M5 0 k = M 0 k := fun k hk => by
      rw [e5]; simp only [up_get]
      rw [if_neg (fun y => hk y.2), e4, up_ne _ (by decide), o3 0 (by decide), e2, up_ne _ (by decide), o1 0 (by decide)]
    have z1 : ∀ k, k ≠ 1 → M5 1 k = M 1 k := fun k hk => by
      rw [e5, up_ne _ (by decide), e4, up_ne _ (by decide), o3 1 (by decide), e2]
      simp only [up_get]
      rw [if_neg (fun y => hk y.2), o1 1 (by decide)]
    have z62 : ∀ k, k ≠ 2 → M5 62 k = M 62 k := fun k hk => by
      rw [e5, up_ne _ (by decide), e4]
      simp only [up_get]
      rw [if_neg (fun y => hk y.2), o3 62 (by decide), e2, up_ne _ (by decide), o1 62 (by decide)]
    have kt := isTown hx.2.1.2.2.1.1
    obtain ⟨x1, x2, x3, x4, x5⟩ := hx
    refine h1 ok M5 ⟨?_, ⟨?_, ?_, ?_, ?_⟩, ⟨?_, ?_, fun k hk => absurd hk (Nat.not_lt_zero k)⟩, ⟨?_, ?_, ?_, fun j hj => absurd hj (Nat.not_lt_zero j)⟩, Or.inl (by rw [e5]; simp [up_get])⟩ (fun a ha => z a (by omega) (by omega) (by omega) (by omega))
    · obtain ⟨a1, a2, a3, a4, a5, a6, a7, a8, a9, a10, a11⟩ := x1
      refine ⟨?_, fun k hk => absurd hk (Nat.not_lt_zero k), ?_, ?_, ?_, ?_, ?_, ?_, ?_, ?_, ?_⟩
      · rw [e5, up_ne _ (by decide), e4, up_ne _ (by decide), o3 1 (by decide), e2]; simp [up_get, wOn, pTp]
      · rw [z 198 (by decide) (by decide) (by decide) (by decide)]; exact a3
      · rw [z1 6 (by decide)]; exact a4
      · rw [z1 7 (by decide)]; exact a5
      · unfold rw1 at *; rw [z 3 (by decide) (by decide) (by decide) (by decide)]; exact a6
      · rw [z 187 (by decide) (by decide) (by decide) (by decide)]; exact a7
      · unfold rw3 at *; rw [z 188 (by decide) (by decide) (by decide) (by decide)]; exact a8
      · rw [z 185 (by decide) (by decide) (by decide) (by decide)]; exact a9
      · unfold rw1 at *; rw [z 186 (by decide) (by decide) (by decide) (by decide)]; exact a10
      · rw [z0 13 (by decide)]; exact a11
    · rw [z0 2 (by decide)]; exact x2.1
    · rw [z0 3 (by decide)]; exact x2.2.1
    · exact x2.2.2.1.rows (fun a a1 a2 => z a (by omega) (by omega) (by omega) (by omega))
    · rw [z t (by omega) (by omega) (by omega) (by omega), z (t + 1) (by omega) (by omega) (by omega) (by omega), z (t + 4) (by omega) (by omega) (by omega) (by omega)]
      exact x2.2.2.2
    · exact s3.rows (fun a a1 a2 => by rw [e5, up_ne _ (by omega), e4, up_ne _ (by omega)])
    · rw [e5, up_ne _ (by decide), e4, up_ne _ (by decide), k3, k2]; rfl
    · rw [e5, up_ne _ (by decide), e4]; simp [up_get, wOn, pU]
    · rw [z62 1 (by decide)]; exact x4.2.1
    · rw [z62 1 (by decide)]; exact x4.2.2.1
  · have hx1 := hx.scr o1.scr
    have hx4 : IX M2 t (wTp p []) := hx1.tape (fun z z1 z2 => by rw [e2, up_ne _ z1]) (fun k hk => by rw [e2]; simp only [up_get]; rw [if_neg (fun z => hk z.2)]) (by rw [e2]; simp [up_get]) (fun k hk => by simp at hk)
    exact x_deny2 (by decide) hx4 fun M3 hx3 o3 => h0 ok M3 hx3 ((o1.scr.st.tr (stX.up e2 (by decide))).tr o3)
end
