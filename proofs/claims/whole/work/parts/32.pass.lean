/-! a day passes; frames of the model -/
theorem y_shows {v s p n : Int} {M : Mem} {Q : Mem → Prop} {l : List (Int × Int × Int)} (hv : 0 ≤ v ∧ v < 22) (hl : reY M v l) (h8 : l.length ≤ 8) (h : ∀ M', othY v M M' → reY M' v (l ++ [(s, p, n)]) → (∀ a, a ≠ 230 → a ≠ 231 → M' a = M a) → Q M') : m_X12_shows v s p n M Q := by
  unfold m_X12_shows
  rw [hl.1]
  refine ⟨hv, by omega, fun M1 e1 => ⟨by omega, fun M2 e2 => ⟨by omega, fun M3 e3 => ⟨hv, hv, fun M4 e4 => ?_⟩⟩⟩⟩
  have n3 : M3 230 v = (l.length : Nat) := by rw [e3, up_ne _ (by decide), e2, up_ne _ (by decide), e1, up_ne _ (by decide), hl.1]
  rw [n3] at e4
  refine h M4 ((((othY.re e1 (by omega)).tr (othY.re e2 (by omega))).tr (othY.re e3 (by omega))).tr (othY.one e4 (by decide))) ⟨?_, fun k hk => ?_⟩ (fun a a1 a2 => ?_)
  · rw [e4]; simp [up_get]
  · simp only [List.length_append, List.length_cons, List.length_nil] at hk
    rw [getD_app, e4, up_ne _ (by decide), e3, e2, e1]
    simp only [up_get, true_and]
    have := hl.2 k
    grind
  · rw [e4, up_ne _ a1, e3, up_ne _ a2, e2, up_ne _ a2, e1, up_ne _ a2]
theorem y_tk_l {v : Int} {M0 : Mem} {Q : Mem → Prop} {l : List (Int × Int × Int)} {k : Nat} (hv : 0 ≤ v ∧ v < 22) (hl : reY M0 v l) (h9 : l.length ≤ 9) (hk : k < l.length) (h : ∀ M', othY v M0 M' → reY M' v (l.eraseIdx k) → (∀ a, a ≠ 230 → a ≠ 231 → M' a = M0 a) → Q M') :
    ∀ (d i : Nat) (M : Mem), i + d = 3 * l.length - 3 → 3 * k ≤ i → othY v M0 M → (∀ a, a ≠ 231 → M a = M0 a) → (∀ j : Nat, j < 27 → M 231 (27 * v + j) = if 3 * k ≤ j ∧ j < i then M0 231 (27 * v + (j + 3)) else M0 231 (27 * v + j)) → m_X12_takes_L9 Q v (d + 1) (27 * v + i) M
  | 0, i, M, hd, hi, h1, h2, h3 => by
    unfold m_X12_takes_L9
    rw [h2 230 (by decide), hl.1]
    refine ⟨hv, by omega, by omega, fun _ => ⟨hv, hv, fun M1 e1 => ?_⟩, fun q => by omega⟩
    refine h M1 (h1.tr (othY.one e1 (by decide))) ⟨?_, fun j hj => ?_⟩ (fun a a1 a2 => by rw [e1, up_ne _ a1, h2 a a2])
    · rw [e1]
      simp only [up_get]
      rw [if_pos ⟨trivial, trivial⟩, List.length_eraseIdx_of_lt hk]
      omega
    · rw [List.length_eraseIdx_of_lt hk] at hj
      rw [getD_erase, e1, up_ne _ (by decide)]
      have a := h3 (3 * j) (by omega)
      have b := h3 (3 * j + 1) (by omega)
      have c := h3 (3 * j + 2) (by omega)
      rw [show 3 * (9 * v + (j : Int)) = 27 * v + (3 * j : Nat) by omega, show 27 * v + ((3 * j : Nat) : Int) + 1 = 27 * v + (3 * j + 1 : Nat) by omega, show 27 * v + ((3 * j : Nat) : Int) + 2 = 27 * v + (3 * j + 2 : Nat) by omega, a, b, c]
      by_cases z : j < k
      · rw [if_pos z, if_neg (by omega), if_neg (by omega), if_neg (by omega)]
        obtain ⟨r1, r2, r3⟩ := hl.2 j (by omega)
        rw [← r1, ← r2, ← r3]
        exact ⟨by congr 1; omega, by congr 1; omega, by congr 1; omega⟩
      · rw [if_neg z, if_pos (by omega), if_pos (by omega), if_pos (by omega)]
        obtain ⟨r1, r2, r3⟩ := hl.2 (j + 1) (by omega)
        rw [← r1, ← r2, ← r3]
        exact ⟨by congr 1; omega, by congr 1; omega, by congr 1; omega⟩
  | d + 1, i, M, hd, hi, h1, h2, h3 => by
    unfold m_X12_takes_L9
    rw [h2 230 (by decide), hl.1]
    refine ⟨hv, by omega, by omega, fun q => by omega, fun _ => ⟨by omega, by omega, fun M1 e1 => ?_⟩⟩
    have e3 := h3 (i + 3) (by omega)
    rw [if_neg (by omega)] at e3
    rw [show 27 * v + (i : Int) + 3 = 27 * v + (i + 3 : Nat) by omega, e3] at e1
    have := y_tk_l hv hl h9 hk h d (i + 1) M1 (by omega) (by omega) (h1.tr (othY.re e1 (by omega))) (fun a ha => by rw [e1, up_ne _ ha, h2 a ha]) (fun j hj => by
      rw [e1]
      simp only [up_get, true_and]
      by_cases c : j = i
      · subst c
        rw [if_pos rfl, if_pos (by omega)]
        rfl
      · rw [if_neg (by omega), h3 j hj]
        by_cases z : 3 * k ≤ j ∧ j < i
        · rw [if_pos z, if_pos (by omega)]
        · rw [if_neg z, if_neg (by omega)])
    rw [show 27 * v + (i : Int) + 1 = 27 * v + (i + 1 : Nat) by omega]
    exact this
theorem y_takes {v : Int} {M : Mem} {Q : Mem → Prop} {l : List (Int × Int × Int)} {k : Nat} (hv : 0 ≤ v ∧ v < 22) (hl : reY M v l) (h9 : l.length ≤ 9) (hk : k < l.length) (h : ∀ M', othY v M M' → reY M' v (l.eraseIdx k) → (∀ a, a ≠ 230 → a ≠ 231 → M' a = M a) → Q M') : m_X12_takes v k M Q := by
  refine ⟨3 * l.length - 3 - 3 * k + 1, ?_⟩
  have := y_tk_l hv hl h9 hk h (3 * l.length - 3 - 3 * k) (3 * k) M (by omega) (by omega) othY.rf (fun _ _ => rfl) (fun j hj => by rw [if_neg (by omega)])
  rwa [show 27 * v + ((3 * k : Nat) : Int) = 3 * (9 * v + k) by omega] at this
/-- the model writes a day down -/
theorem y_wd_59 {v m : Int} {M : Mem} {Q : Mem → Prop} {kp : List (Int × Int × Int)} {n : Nat} (hv : 0 ≤ v ∧ v < 22) (hn : M 232 v = (n : Nat)) (h39 : n ≤ 39) (hk : ∀ k : Nat, k < n → M 233 (3 * (40 * v + k)) = (kp.getD (kp.length - n + k) (0, 0, 0)).1 ∧ M 233 (3 * (40 * v + k) + 1) = (kp.getD (kp.length - n + k) (0, 0, 0)).2.1 ∧ M 233 (3 * (40 * v + k) + 2) = (kp.getD (kp.length - n + k) (0, 0, 0)).2.2) (hle : n ≤ kp.length) (hn2 : n = kp.length ∨ (n = 39 ∧ 40 ≤ kp.length))
    (h : ∀ M', othY v M M' → KY M' v (kp ++ [(M 227 v, M 230 v, m)]) → (∀ a, a ≠ 232 → a ≠ 233 → M' a = M a) → Q M') : m_X12_writesDown_J59 Q v m M := by
  unfold m_X12_writesDown_J59
  rw [hn]
  refine ⟨hv, hv, by omega, fun M1 e1 => ⟨hv, by omega, fun M2 e2 => ⟨by omega, fun M3 e3 => ⟨hv, hv, fun M4 e4 => ?_⟩⟩⟩⟩
  have n3 : M3 232 v = (n : Nat) := by rw [e3, up_ne _ (by decide), e2, up_ne _ (by decide), e1, up_ne _ (by decide), hn]
  rw [n3] at e4
  rw [e1, up_ne _ (by decide), ← e1] at e2
  have len : (kp ++ [(M 227 v, M 230 v, m)]).length = kp.length + 1 := by simp
  have mm : (if kp.length + 1 < 40 then kp.length + 1 else 40) = n + 1 := by
    rcases hn2 with z | z
    · by_cases c : kp.length + 1 < 40
      · rw [if_pos c]; omega
      · rw [if_neg c]; omega
    · rw [if_neg (by omega)]; omega
  refine h M4 ((((othY.ke e1 (by omega)).tr (othY.ke e2 (by omega))).tr (othY.ke e3 (by omega))).tr (othY.one e4 (by decide))) ⟨?_, fun k hk1 hk2 => ?_⟩ (fun a a1 a2 => ?_)
  · rw [e4, len]
    simp only [up_get, true_and, if_true]
    have : ((if kp.length + 1 < 40 then kp.length + 1 else 40 : Nat) : Int) = ((n + 1 : Nat) : Int) := by rw [mm]
    by_cases c : kp.length + 1 < 40
    · rw [if_pos c] at this ⊢; omega
    · rw [if_neg c] at this ⊢; omega
  · rw [len] at hk2 ⊢
    rw [mm, getD_app, e4, up_ne _ (by decide), e3, e2, e1]
    simp only [up_get, true_and]
    have := hk k
    have e0 : kp.length + 1 - (n + 1) + k = kp.length - n + k := by omega
    grind
  · rw [e4, up_ne _ a1, e3, up_ne _ a2, e2, up_ne _ a2, e1, up_ne _ a2]
theorem y_wd_16 {v m : Int} {M0 : Mem} {Q : Mem → Prop} (hv : 0 ≤ v ∧ v < 22) (h40 : M0 232 v = 40) (h : ∀ M', othY v M0 M' → M' 232 v = 39 → (∀ j : Nat, j < 117 → M' 233 (120 * v + j) = M0 233 (120 * v + (j + 3))) → (∀ a, a ≠ 232 → a ≠ 233 → M' a = M0 a) → m_X12_writesDown_J59 Q v m M') :
    ∀ (d i : Nat) (M : Mem), i + d = 117 → othY v M0 M → (∀ a, a ≠ 233 → M a = M0 a) → (∀ j : Nat, j < 120 → M 233 (120 * v + j) = if j < i then M0 233 (120 * v + (j + 3)) else M0 233 (120 * v + j)) → m_X12_writesDown_L16 Q v m (d + 1) (120 * v + i) M
  | 0, i, M, hd, h1, h2, h3 => by
    unfold m_X12_writesDown_L16
    refine ⟨by omega, by omega, fun _ => ⟨hv, hv, fun M1 e1 => ?_⟩, fun q => by omega⟩
    rw [h2 232 (by decide), h40] at e1
    refine h M1 (h1.tr (othY.one e1 (by decide))) (by rw [e1]; simp [up_get]) (fun j hj => ?_) (fun a a1 a2 => by rw [e1, up_ne _ a1, h2 a a2])
    rw [e1, up_ne _ (by decide), h3 j (by omega), if_pos (by omega)]
  | d + 1, i, M, hd, h1, h2, h3 => by
    unfold m_X12_writesDown_L16
    refine ⟨by omega, by omega, fun q => by omega, fun _ => ⟨by omega, by omega, fun M1 e1 => ?_⟩⟩
    have e3 := h3 (i + 3) (by omega)
    rw [if_neg (by omega)] at e3
    rw [show 120 * v + (i : Int) + 3 = 120 * v + (i + 3 : Nat) by omega, e3] at e1
    have := y_wd_16 (m := m) (Q := Q) hv h40 h d (i + 1) M1 (by omega) (h1.tr (othY.ke e1 (by omega))) (fun a ha => by rw [e1, up_ne _ ha, h2 a ha]) (fun j hj => by
      rw [e1]
      simp only [up_get, true_and]
      by_cases c : j = i
      · subst c
        rw [if_pos rfl, if_pos (by omega)]
        rfl
      · rw [if_neg (by omega), h3 j hj]
        by_cases z : j < i
        · rw [if_pos z, if_pos (by omega)]
        · rw [if_neg z, if_neg (by omega)])
    rw [show 120 * v + (i : Int) + 1 = 120 * v + (i + 1 : Nat) by omega]
    exact this
theorem y_writesDown {v m : Int} {M : Mem} {Q : Mem → Prop} {kp : List (Int × Int × Int)} (hv : 0 ≤ v ∧ v < 22) (hK : KY M v kp) (h : ∀ M', othY v M M' → KY M' v (kp ++ [(M 227 v, M 230 v, m)]) → (∀ a, a ≠ 232 → a ≠ 233 → M' a = M a) → Q M') : m_X12_writesDown v m M Q := by
  obtain ⟨k1, k2⟩ := hK
  unfold m_X12_writesDown
  by_cases c : kp.length < 40
  · rw [if_pos c] at k1
    rw [k1]
    refine ⟨hv, by omega, fun q => by omega, fun _ => y_wd_59 (n := kp.length) hv k1 (by omega) (fun k hk => ?_) (by omega) (Or.inl rfl) h⟩
    have := k2 k (by omega) hk
    rwa [if_pos c] at this
  · rw [if_neg c] at k1
    rw [k1]
    refine ⟨hv, by decide, fun _ => ⟨118, ?_⟩, fun q => absurd rfl q⟩
    have := y_wd_16 (m := m) (Q := Q) hv k1 (fun M1 o1 a1 a2 a3 => ?_) 117 0 M (by omega) othY.rf (fun _ _ => rfl) (fun j hj => by rw [if_neg (by omega)])
    · rwa [show 120 * v + ((0 : Nat) : Int) = 120 * v by omega] at this
    · refine y_wd_59 (n := 39) (kp := kp) hv a1 (by omega) (fun k hk => ?_) (by omega) (Or.inr ⟨rfl, by omega⟩) (fun M2 o2 b1 b2 => h M2 (o1.tr o2) ?_ (fun a z1 z2 => by rw [b2 a z1 z2, a3 a z1 z2]))
      · have x := a2 (3 * k) (by omega)
        have y := a2 (3 * k + 1) (by omega)
        have z := a2 (3 * k + 2) (by omega)
        obtain ⟨r1, r2, r3⟩ := k2 (k + 1) (by omega) (by omega)
        rw [if_neg c, show kp.length - 40 + (k + 1) = kp.length - 39 + k by omega] at r1 r2 r3
        rw [← r1, ← r2, ← r3, show 3 * (40 * v + (k : Int)) = 120 * v + (3 * k : Nat) by omega, show 120 * v + ((3 * k : Nat) : Int) + 1 = 120 * v + (3 * k + 1 : Nat) by omega, show 120 * v + ((3 * k : Nat) : Int) + 2 = 120 * v + (3 * k + 2 : Nat) by omega, x, y, z]
        exact ⟨by congr 1; omega, by congr 1; omega, by congr 1; omega⟩
      · rwa [a3 227 (by decide) (by decide), a3 230 (by decide) (by decide)] at b1
/-- the scene behind a day, and what is kept of it -/
def passP (W : TW) (S : TS) : TS := (sDay S + 1, sWa S, walkP W S 8, [])
noncomputable def rowP (W : TW) (S : TS) : Int × Int × Int := (sDay S, ((sRe S).length : Nat), trN W S (sRe S) (sRe S).length)
theorem y_ps_18 {v b ag : Int} {M0 : Mem} {Q : Int → Mem → Prop} {W : TW} {S : TS} {kp : List (Int × Int × Int)} (hT : TY M0 b W) (hV : SY M0 v W S) (hW : WOK W) (hb : M0 199 13 = b) (hd : rowsY M0 W S 9 0) (hK : KY M0 v kp) (ha : ag = 0 ∨ ag = 1) (h : ∀ M', othY v M0 M' → SY M' v W (passP W S) → KY M' v kp → rowsY M' W S 9 0 → Q ag M') :
    ∀ (d p : Nat) (M : Mem), p + d = wPn W → othY v M0 M → (∀ a, a ≠ 228 → M a = M0 a) → (∀ q : Nat, q < p → M 228 (6 * v + q) = walkP W S 8 q) → m_X12_passes_L18 Q v ag (d + 1) p M
  | 0, p, M, hd0, h1, h2, h3 => by
    have t1 := hT.1
    have w2 := hW.2.1
    have v1 := hV.1
    unfold m_X12_passes_L18
    rw [h2 199 (by decide), hb, h2 205 (by decide), hT.2.2.1]
    refine ⟨by omega, by omega, by omega, fun _ => ⟨v1, fun M1 e1 => ⟨v1, v1, fun M2 e2 => ⟨ha, ?_⟩⟩⟩, fun q => by omega⟩
    rw [e1, up_ne _ (by decide), ← e1, h2 227 (by decide), hV.2.1] at e2
    refine h M2 ((h1.tr (othY.one e1 (by decide))).tr (othY.one e2 (by decide))) ⟨v1, ?_, ?_, fun q hq => ?_, ?_, fun k hk => by simp [passP, sRe] at hk⟩ ⟨?_, fun k a c => ?_⟩ (fun j q a c => ?_)
    · rw [e2]; simp [up_get, passP]
    · rw [e2, up_ne _ (by decide), e1, up_ne _ (by decide), h2 229 (by decide)]; exact hV.2.2.1
    · rw [e2, up_ne _ (by decide), e1, up_ne _ (by decide), h3 q (by omega)]; rfl
    · rw [e2, up_ne _ (by decide), e1]; simp [up_get, passP, sRe]
    · rw [e2, up_ne _ (by decide), e1, up_ne _ (by decide), h2 232 (by decide)]; exact hK.1
    · rw [e2, up_ne _ (by decide), e1, up_ne _ (by decide), h2 233 (by decide)]; exact hK.2 k a c
    · rw [e2, up_ne _ (by decide), e1, up_ne _ (by decide), h2 236 (by decide)]; exact hd j q a c
  | d + 1, p, M, hd0, h1, h2, h3 => by
    have t1 := hT.1
    have w2 := hW.2.1
    have v1 := hV.1
    unfold m_X12_passes_L18
    rw [h2 199 (by decide), hb, h2 205 (by decide), hT.2.2.1]
    refine ⟨by omega, by omega, by omega, fun q => by omega, fun _ => ⟨by omega, by omega, fun M1 e1 => ?_⟩⟩
    have r := hd 8 p (by omega) (by omega)
    rw [h2 236 (by decide), show (48 : Int) + p = 6 * (8 : Nat) + p by omega, r] at e1
    refine y_ps_18 hT hV hW hb hd hK ha h d (p + 1) M1 (by omega) (h1.tr (othY.sp e1 (by omega))) (fun a z => by rw [e1, up_ne _ z, h2 a z]) (fun q hq => ?_)
    rw [e1]
    simp only [up_get]
    by_cases c : q = p
    · subst c; simp
    · rw [if_neg (by omega)]; exact h3 q (by omega)
theorem agP_01 (W : TW) (S : TS) : agP W S = 0 ∨ agP W S = 1 := by
  unfold agP
  split
  · exact Or.inr rfl
  · exact Or.inl rfl
theorem y_passes {v b : Int} {M : Mem} {Q : Int → Mem → Prop} {W : TW} {S : TS} {kp : List (Int × Int × Int)} (hT : TY M b W) (hV : SY M v W S) (hW : WOK W) (hS : SOK W S) (hb : M 199 13 = b) (hK : KY M v kp) (h : ∀ M', othY v M M' → SY M' v W (passP W S) → KY M' v (kp ++ [rowP W S]) → rowsY M' W S 9 0 → Q (agP W S) M') : m_X12_passes v M Q := by
  refine y_isAgreed hT hV hW hS hb fun M1 o1 d1 => ?_
  have hV1 : SY M1 v W S := hV.off (o1 227 (by decide)) (o1 228 (by decide)) (o1 229 (by decide)) (o1 230 (by decide)) (o1 231 (by decide))
  have hT1 : TY M1 b W := hT.off (fun a a1 a2 => o1 a (by simp; omega))
  have hb1 : M1 199 13 = b := by rw [o1 199 (by decide), hb]
  have hK1 : KY M1 v kp := by
    unfold KY at *
    rw [o1 232 (by decide), o1 233 (by decide)]
    exact hK
  refine y_trues hT1 hb1 hV.1 hV1.2.2.2.2 hW hS hS.2.2.2.2 d1 (y_writesDown hV.1 hK1 fun M2 o2 k2 r2 => ⟨wPn W + 1, ?_⟩)
  rw [hV1.2.1, hV1.2.2.2.2.1] at k2
  refine y_ps_18 (M0 := M2) (S := S) (hT1.off (fun a a1 a2 => r2 a (by omega) (by omega))) (hV1.off (r2 227 (by decide) (by decide)) (r2 228 (by decide) (by decide)) (r2 229 (by decide) (by decide)) (r2 230 (by decide) (by decide)) (r2 231 (by decide) (by decide))) hW (by rw [r2 199 (by decide) (by decide), hb1]) (fun j q a c => by rw [r2 236 (by decide) (by decide)]; exact d1 j q a c) k2 (agP_01 W S) (fun M3 o3 s3 k3 d3 => h M3 ((o1.oth.tr o2).tr o3) s3 k3 d3) (wPn W) 0 M2 (by omega) othY.rf (fun _ _ => rfl) (fun q hq => by omega)
