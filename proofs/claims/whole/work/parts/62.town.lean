/-! town -/
def wFa (p : PT) (e : Int × Int) : PT := (pTp p, pRf p, e, p.2.2.2)
def pFl (p : PT) (e : Int × Int) : PT := wRf (wTp (wFa p e) []) 1
def nW (D : TD) : TW := ((dNa D).length, (dNb D).length, dRe D, fun i j => dst (aD D) i.toNat j.toNat, dKi D, dSt D, dGo D)
def nP (p : PT) (D : TD) : PT := ([], pRf p, (0, -1), nW D, (dNa D, dNb D, (dRo D : Int), dRa D), (0, dWa D, dHo D, dFr D), [], [], [], pIm p, pSd p)
section
variable {N : Nat} {t b : Int} {p : PT} {M : Mem} {D : TD}
theorem POK.flt {e : Int × Int} (h : POK N p) (h1 : inI e.1) (h2 : inI e.2) : POK (N + 1) (pFl p e) := by
  obtain ⟨⟨a1, a2, a3, a4, a5, a6⟩, p2, p3, p4⟩ := h
  refine ⟨⟨by show ([] : List Int).length ≤ 1600; decide, fun c hc => absurd hc (List.not_mem_nil), fun i hi => ?_, h1, h2, a6⟩, p2, p3, p4⟩
  have := a3 i hi
  show 0 ≤ (if (i : Int) = 1 then pRf p i + 1 else pRf p i) ∧ (if (i : Int) = 1 then pRf p i + 1 else pRf p i) ≤ ((N + 1 : Nat) : Int)
  split <;> omega
theorem IX.flt {M' : Mem} {e : Int × Int} (hx : IX M t p) (z : ∀ a, a ≠ 1 → a ≠ 4 → a ≠ 5 → a ≠ 198 → (a < 29 - t ∨ 29 - t + 16 < a) → M' a = M a) (h1 : M' 1 1 = 0) (h6 : M' 1 6 = e.1) (h7 : M' 1 7 = e.2) (h8 : ∀ i, M' 198 i = if i = 1 then M 198 i + 1 else M 198 i) : IX M' t (pFl p e) := by
  obtain ⟨⟨a1, a2, a3, a4, a5, a6, a7, a8, a9, a10, a11⟩, ⟨k1, k2, k3, k4⟩, ⟨s1, s2, s3⟩, ⟨l1, l2, l3, l4⟩, d⟩ := hx
  have k := isTown k3.1
  refine ⟨⟨h1, fun j hj => absurd hj (Nat.not_lt_zero j), fun i hi => ?_, h6, h7, ?_, ?_, ?_, ?_, ?_, ?_⟩, ⟨?_, ?_, k3.rows (fun a p1 p2 => z a (by omega) (by omega) (by omega) (by omega) (by omega)), ?_⟩, ⟨s1.rows (fun a p1 p2 => z a (by omega) (by omega) (by omega) (by omega) (by omega)), ?_, ?_⟩, ?_, ?_⟩
  · rw [h8]
    show _ = if (i : Int) = 1 then pRf p i + 1 else pRf p i
    split <;> rw [a3 i hi]
  · unfold rw1 at *
    rw [z 3 (by decide) (by decide) (by decide) (by decide) (by omega)]
    exact a6
  · rw [z 187 (by decide) (by decide) (by decide) (by decide) (by omega)]; exact a7
  · unfold rw3 at *
    rw [z 188 (by decide) (by decide) (by decide) (by decide) (by omega)]
    exact a8
  · rw [z 185 (by decide) (by decide) (by decide) (by decide) (by omega)]; exact a9
  · unfold rw1 at *
    rw [z 186 (by decide) (by decide) (by decide) (by decide) (by omega)]
    exact a10
  · rw [z 0 (by decide) (by decide) (by decide) (by decide) (by omega)]; exact a11
  · rw [z 0 (by decide) (by decide) (by decide) (by decide) (by omega)]; exact k1
  · rw [z 0 (by decide) (by decide) (by decide) (by decide) (by omega)]; exact k2
  · rw [z t (by omega) (by omega) (by omega) (by omega) (by omega), z (t + 1) (by omega) (by omega) (by omega) (by omega) (by omega), z (t + 4) (by omega) (by omega) (by omega) (by omega) (by omega)]
    exact k4
  · rw [z 40 (by decide) (by decide) (by decide) (by decide) (by omega)]; exact s2
  · unfold rw3 at *
    rw [z 64 (by decide) (by decide) (by decide) (by decide) (by omega)]
    exact s3
  · unfold uX
    rw [z 62 (by decide) (by decide) (by decide) (by decide) (by omega)]
    refine ⟨l1, l2, l3, fun j hj => ?_⟩
    obtain ⟨m1, m2⟩ := l4 j hj
    have : 65 ≤ slX (M 62 1) j ∧ slX (M 62 1) j ≤ 179 := by unfold slX; omega
    refine ⟨m1.rows (fun a p1 p2 => z a (by omega) (by omega) (by omega) (by omega) (by omega)), ?_⟩
    rw [z _ (by omega) (by omega) (by omega) (by omega) (by omega)]
    exact m2
  · unfold dX dayX at *
    rw [z 0 (by decide) (by decide) (by decide) (by decide) (by omega), z (52 + 1) (by decide) (by decide) (by decide) (by decide) (by omega), z (52 + 2) (by decide) (by decide) (by decide) (by decide) (by omega)]
    exact d
/-- the other bank is written: this one stays -/
theorem TY.bank {M' : Mem} {W : TW} (h : TY M b W) (hW : WOK W) (z : ∀ a, 201 ≤ a → a ≤ 219 → ∀ i, (i < szY a * (1 - b) ∨ szY a * (1 - b) + szY a ≤ i) → M' a i = M a i) : TY M' b W := by
  obtain ⟨h1, h2, h3, h4, h5, h6, h7⟩ := h
  have w1 := hW.1
  have w2 := hW.2.1
  have one : ∀ a, a = 201 ∨ a = 205 → M' a b = M a b := fun a ha => z a (by omega) (by omega) b (by rcases ha with rfl | rfl <;> simp [szY] <;> omega)
  have cd : ∀ {w : Int} {cs : List Int}, w = 0 ∨ w = 1 → cdY M b w cs → cdY M' b w cs := fun {w cs} hw hc => by
    obtain ⟨c1, c2, c3, c4, c5⟩ := hc
    have e4 : M' 214 (2 * b + w) = M 214 (2 * b + w) := z 214 (by decide) (by decide) _ (by simp [szY]; omega)
    have e5 : M' 215 (2 * b + w) = M 215 (2 * b + w) := z 215 (by decide) (by decide) _ (by simp [szY]; omega)
    unfold cdY
    rw [e4, e5]
    refine ⟨c1, c2, c3, fun j hj => ?_, c5⟩
    rw [z 216 (by decide) (by decide) _ (by simp [szY]; omega), z 217 (by decide) (by decide) _ (by simp [szY]; omega)]
    exact c4 j hj
  refine ⟨h1, by rw [one 201 (by decide), h2], by rw [one 205 (by decide), h3], fun i j hi hj => ?_, fun q hq => ?_, ?_, ?_⟩
  · rw [z 203 (by decide) (by decide) _ (by simp [szY]; omega), z 204 (by decide) (by decide) _ (by simp [szY]; omega)]
    exact h4 i j hi hj
  · rw [z 207 (by decide) (by decide) _ (by simp [szY]; omega)]
    exact h5 q hq
  · by_cases c : wSt W = []
    · rw [if_pos c] at h6 ⊢
      rw [z 214 (by decide) (by decide) _ (by simp [szY]; omega), h6]
    · rw [if_neg c] at h6 ⊢
      exact cd (Or.inl rfl) h6
  · by_cases c : wGo W = []
    · rw [if_pos c] at h7 ⊢
      rw [z 214 (by decide) (by decide) _ (by simp [szY]; omega), h7]
    · rw [if_neg c] at h7 ⊢
      exact cd (Or.inr rfl) h7
theorem IY.flt {M' : Mem} {e : Int × Int} (hy : IY M b p) (hp : POK N p) (z : ∀ a, (a = 200 ∨ 227 ≤ a) → M' a = M a) (zb : ∀ a, 201 ≤ a → a ≤ 219 → ∀ i, (i < szY a * (1 - b) ∨ szY a * (1 - b) + szY a ≤ i) → M' a i = M a i) (zk : ∀ k, keepW k → k ≠ 1 → k ≠ 2 → k ≠ 10 → k ≠ 11 → k ≠ 34 → M' 199 k = M 199 k) (h1 : M' 199 1 = 0) (h10 : M' 199 10 = e.1) (h11 : M' 199 11 = e.2) (h6 : ∀ i, M' 226 i = if i = 1 then M 226 i + 1 else M 226 i) : IY M' b (pFl p e) := by
  obtain ⟨⟨a1, a2, a3, a4, a5, a6, a7, a8, a9, a10⟩, ⟨k1, k2, k3, k4, k5, k6⟩, ⟨s1, s2⟩, ⟨l1, l2, l3, l4⟩⟩ := hy
  have hW := hp.2.1.1
  have hb := k2.1
  refine ⟨⟨h1, fun j hj => absurd hj (Nat.not_lt_zero j), fun i hi => ?_, h10, h11, ?_, ?_, ?_, ?_, ?_⟩, ⟨?_, k2.bank hW zb, fun i hi => ?_, fun i hi => ?_, ?_, ?_⟩, ⟨s1.off (z _ (by decide)) (z _ (by decide)) (z _ (by decide)) (z _ (by decide)) (z _ (by decide)), ?_⟩, ?_⟩
  · rw [h6]
    show _ = if (i : Int) = 1 then pRf p i + 1 else pRf p i
    split <;> rw [a3 i hi]
  · rw [zk 60 (by omega) (by decide) (by decide) (by decide) (by decide) (by decide)]; exact a6
  · rw [z 237 (by decide), z 238 (by decide), z 239 (by decide)]; exact a7
  · rw [zk 66 (by omega) (by decide) (by decide) (by decide) (by decide) (by decide)]; exact a8
  · unfold rw1 at *
    rw [z 241 (by decide)]
    exact a9
  · rw [zk 56 (by omega) (by decide) (by decide) (by decide) (by decide) (by decide)]; exact a10
  · rw [zk 13 (by omega) (by decide) (by decide) (by decide) (by decide) (by decide)]; exact k1
  · have := hW.1
    have hi2 : i < wPl (pW p) := hi
    rw [zb 218 (by decide) (by decide) _ (by simp [szY]; omega)]
    exact k3 i hi
  · have := hW.2.1
    have hi2 : i < wPn (pW p) := hi
    rw [zb 219 (by decide) (by decide) _ (by simp [szY]; omega)]
    exact k4 i hi
  · rw [zb 202 (by decide) (by decide) _ (by simp [szY]; omega)]; exact k5
  · rw [zb 213 (by decide) (by decide) _ (by simp [szY]; omega)]; exact k6
  · unfold KY at *
    rw [z 232 (by decide), z 233 (by decide)]
    exact s2
  · unfold uY
    rw [zk 55 (by omega) (by decide) (by decide) (by decide) (by decide) (by decide), zk 54 (by omega) (by decide) (by decide) (by decide) (by decide) (by decide)]
    refine ⟨l1, l2, l3, fun j hj => ?_⟩
    obtain ⟨m1, m2⟩ := l4 j hj
    refine ⟨m1.off (z _ (by decide)) (z _ (by decide)) (z _ (by decide)) (z _ (by decide)) (z _ (by decide)), ?_⟩
    unfold KY at *
    rw [z 232 (by decide), z 233 (by decide)]
    exact m2
theorem nW_ok {s : Nat} (h : DOK D s) : WOK (nW D) := by
  obtain ⟨h1, h2, h3, h4, h5, h6, h7, h8, h9, h10, h11, h12, h13, h14, h15, h16⟩ := h
  refine ⟨h1, h2, fun i hi => h12 i hi, fun i j hi hj => ?_, fun q hq => ?_, h13, h14, h15⟩
  · have := dsT_rng (aD D) i j 7
    show -1 ≤ dsT (aD D) ((i : Nat) : Int).toNat ((j : Nat) : Int).toNat 7 ∧ dsT (aD D) ((i : Nat) : Int).toNat ((j : Nat) : Int).toNat 7 ≤ 6
    rw [Int.toNat_natCast, Int.toNat_natCast]
    omega
  · have := h11 q hq
    exact ⟨this.2.2.1, this.2.2.2⟩
theorem getD_memL {l : List (List Int)} {i : Nat} (hi : i < l.length) : l.getD i [] ∈ l := by
  rw [List.getD_eq_getElem?_getD, List.getElem?_eq_getElem hi]
  exact List.getElem_mem hi
theorem POK.new {s : Nat} (hp : POK N p) (h : DOK D s) : POK (N + 1) (nP p D) := by
  obtain ⟨⟨a1, a2, a3, a4, a5, a6, a7, a8⟩, p2, p3, p4⟩ := hp.mono
  have hW := nW_ok h
  have w64 := h.wa
  obtain ⟨h1, h2, h3, h4, h5, h6, h7, h8, h9, h10, h11, h12, h13, h14, h15, h16⟩ := id h
  refine ⟨⟨by show ([] : List Int).length ≤ 1600; decide, fun c hc => absurd hc (List.not_mem_nil), a3, by show inI 0; decide, by show inI (-1); decide, by show ([] : List (Int × Int × Int)).length ≤ 16; decide, fun q hq => absurd hq (List.not_mem_nil), a8⟩, ⟨hW, fun i hi => h3 _ (getD_memL hi), fun i hi => h4 _ (getD_memL hi), by show (0 : Int) ≤ (dRo D : Nat); omega, by show ((dRo D : Nat) : Int) ≤ 12; omega, h7.1, h7.2⟩, ⟨⟨⟨by show (0 : Int) ≤ 0; decide, by show (0 : Int) ≤ 999; decide, w64, fun q hq => ⟨(h11 q hq).1, (h11 q hq).2.1⟩, ?_⟩, h8, by show (((([] : List (Int × Int × Int)).length : Nat)) : Int) ≤ 0; decide⟩, fun q hq => absurd hq (List.not_mem_nil)⟩, ⟨by show ([] : List (TS × Nat)).length ≤ 20; decide, fun j hj => absurd hj (Nat.not_lt_zero j)⟩⟩
  exact ⟨by show (dFr D).length ≤ 9; omega, fun q hq => h9 q hq, h10⟩
/-- the class's new town -/
theorem DX.tx {M' : Mem} {s : Nat} (hx : DX M t D) (hD : DOK D s) (hs : (dSt D).length + (dGo D).length ≤ 1600) (z : ∀ a, t ≤ a → a ≤ t + 15 → a ≠ t + 3 → M' a = M a) (hd : ∀ i j : Nat, i < (dNa D).length → j < (dNa D).length → M' (t + 3) (7 * i + j) = dst (aD D) i j) : TX M' t (nW D) := by
  obtain ⟨a1, a2, a3, a4, a5, a6, a7, a8, a9, a10, a11, a12⟩ := hx
  have w := nW_ok hD
  refine ⟨a1, by rw [z t (by omega) (by omega) (by omega)]; exact a2, by rw [z t (by omega) (by omega) (by omega)]; exact a3, fun i hi => ?_, fun i j hi hj => ⟨?_, ?_⟩, fun q hq => ?_, ⟨?_, by show (dSt D).length ≤ 1600; omega, ?_, w.2.2.2.2.2.1⟩, ⟨?_, by show (dGo D).length ≤ 1600; omega, ?_, w.2.2.2.2.2.2.1⟩⟩
  · rw [z (t + 2) (by omega) (by omega) (by omega)]
    exact ⟨(a9 i hi).1, (a9 i hi).2.1⟩
  · rw [z (t + 2) (by omega) (by omega) (by omega)]
    have h7 : (dNa D).length ≤ 7 := hD.1
    have hj' : j < (dNa D).length := hj
    exact (a9 i hi).2.2 j (by omega)
  · rw [hd i j hi hj]
    show _ = dst (aD D) ((i : Nat) : Int).toNat ((j : Nat) : Int).toNat
    rw [Int.toNat_natCast, Int.toNat_natCast]
  · rw [z (t + 6) (by omega) (by omega) (by omega)]
    exact (a8 q hq).2.2
  · rw [z (t + 11) (by omega) (by omega) (by omega)]; exact a11.1
  · rw [z (t + 11 + 1) (by omega) (by omega) (by omega)]; exact a11.2
  · rw [z (t + 14) (by omega) (by omega) (by omega)]; exact a12.1
  · rw [z (t + 14 + 1) (by omega) (by omega) (by omega)]; exact a12.2
theorem x_town {Q : Int → Mem → Prop} (hp : POK N p) (hx : IX M t p) (hF : ∀ e M', rdT (pTp p) 81 0 (skT (pTp p) 0) D0 = .inl e → IX M' t (pFl p e) → stX M M' → Q (-1) M') (hS : ∀ D n s M', rdT (pTp p) 81 0 (skT (pTp p) 0) D0 = .inr (D, n) → DOK D s → s ≤ 1600 → IX M' (29 - t) (nP p D) → stX M M' → Q (n : Nat) M') : m_X11_town M Q := by
  obtain ⟨⟨a1, a2, a3, a4, a5, a6, a7, a8, a9, a10, a11⟩, ⟨k1, k2, k3, k4⟩, s, u, d⟩ := id hx
  have kt := isTown k3.1
  have hT : TB (pTp p) := ⟨hp.1.1, hp.1.2.1⟩
  have kd' : kd (29 - t) = 8 := by rcases kt with rfl | rfl <;> rfl
  unfold m_X11_town
  rw [k2]
  refine ⟨kd', x_readt hT kd' ⟨a1, a2, a6⟩ fun M0 o0 f6 f7 => ?_⟩
  cases e : rdT (pTp p) 81 0 (skT (pTp p) 0) D0 with
  | inl x =>
    intro M1 o1 f1 M2 e2
    refine ⟨by decide, fun _ => x_refuse (by decide) ?_, fun z => absurd rfl z⟩
    have z2 : ∀ a, a ≠ 1 → M2 a = M1 a := fun a ha => by rw [e2, up_ne _ ha]
    refine hF x _ e (hx.flt (fun a p1 p4 p5 p198 pt => ?_) ?_ ?_ ?_ (fun i => ?_)) (fun a ha => ?_)
    · rw [up_ne _ p198, z2 a p1, o1.1 a p1 p4 p5 pt, o0.1 a p1 p4 p5 pt]
    · rw [up_ne _ (by decide), e2, up_get, if_pos ⟨rfl, rfl⟩]
    · rw [up_ne _ (by decide), e2, up_get, if_neg (by decide), f1.1]
    · rw [up_ne _ (by decide), e2, up_get, if_neg (by decide), f1.2]
    · have : M2 198 = M 198 := by rw [z2 198 (by decide), o1.1 198 (by decide) (by decide) (by decide) (by omega), o0.1 198 (by decide) (by decide) (by decide) (by omega)]
      rw [up_get, this]
      by_cases c : i = 1
      · rw [if_pos ⟨rfl, c⟩, if_pos c, c]
      · rw [if_neg (fun w => c w.2), if_neg c]
    · rw [up_ne _ (by omega), z2 a (by omega), o1.1 a (by omega) (by omega) (by omega) (by omega), o0.1 a (by omega) (by omega) (by omega) (by omega)]
  | inr q =>
    obtain ⟨D, n⟩ := q
    have n80 := rdT_n 81 0 _ D0 D n (by decide) e
    intro M1 s1 x1 d1 o1
    have sl := x1.1.le
    obtain ⟨q1, q2, q3, q4, q5, q6, q7, q8, q9, q10, q11, q12⟩ := id x1.2.2
    have d16 := d1.2.2.2.2.2.2.2.2.2.2.2.2.2.2.2
    have tl := hT.1
    refine x_measure x1.2.2 d1.1 fun M2 z2 v2 M3 e3 => ?_
    have dx2 : ∀ a, a ≠ 29 - t + 3 → M2 a = M1 a := z2
    have far : ∀ a, a ≠ 1 → a ≠ 4 → a ≠ 5 → (a < 29 - t ∨ 29 - t + 16 < a) → M3 a = M a := fun a p1 p4 p5 pt => by rw [e3, up_ne _ p1, z2 a (by omega), o1.1.1 a p1 p4 p5 pt, o0.1 a p1 p4 p5 pt]
    have f0 : M3 0 = M 0 := far 0 (by decide) (by decide) (by decide) (by omega)
    rw [f0, k1, k2]
    refine ⟨by omega, fun z => by omega, fun _ => ⟨k3.1, kd', fun M4 e4 M5 e5 => ?_⟩⟩
    have g02 : M5 0 2 = 29 - t := by rw [e5, up_get, if_neg (by decide), e4, up_get, if_pos ⟨rfl, rfl⟩]
    rw [g02]
    unfold m_X6_beginIn m_X3_forget
    refine ⟨kd', by decide, kd', fun E1 b1 => ⟨by decide, by decide, by decide, fun E5 b5 E6 b6 => ?_⟩⟩
    have z5 : ∀ a, a ≠ 0 → M5 a = M3 a := fun a ha => by rw [e5, up_ne _ ha, e4, up_ne _ ha]
    have zE : ∀ a, a ≠ 0 → a ≠ 40 → a ≠ 41 → E6 a = M3 a := fun a p0 p40 p41 => by
      rw [b6, up_ne _ p40, b5, cpy_ne _ (show a ≠ 40 + 1 by omega), b1, up_ne _ p40, z5 a p0]
    have tw : ∀ a, 29 - t ≤ a → a ≤ 29 - t + 16 → E6 a = M2 a := fun a p1 p2 => by rw [zE a (by omega) (by omega) (by omega), e3, up_ne _ (by omega)]
    have re6 : reX E6 (29 - t + 7) (dFr D) := by
      have := q10
      unfold reX at *
      rw [tw _ (by omega) (by omega), tw _ (by omega) (by omega), tw _ (by omega) (by omega), tw _ (by omega) (by omega), dx2 _ (by omega), dx2 _ (by omega), dx2 _ (by omega), dx2 _ (by omega)]
      exact this
    have k5 : kd (29 - t + 7) = 5 := by rcases kt with rfl | rfl <;> rfl
    have d8 := d1.2.2.2.2.2.2.2.1
    refine x_recopy (by decide) k5 (by omega) re6 (by omega) fun E7 z7 z7k r7 E8 b8 E9 b9 E10 b10 E11 b11 => ?_
    have zz : ∀ a, a ≠ 0 → a ≠ 187 → a ≠ 62 → (a < 40 ∨ 45 < a) → E11 a = M3 a := fun a p0 p187 p62 p40 => by
      rw [b11, up_ne _ p0, b10, up_ne _ p187, b9, up_ne _ p62, b8, up_ne _ (by omega), z7 a (by omega), zE a p0 (by omega) (by omega)]
    have z0 : ∀ k, k ≠ 2 → k ≠ 3 → k ≠ 8 → E11 0 k = M 0 k := fun k p2 p3 p8 => by
      rw [b11, up_get, if_neg (by omega), b10, up_ne _ (by decide), b9, up_ne _ (by decide), b8, up_ne _ (by decide), z7 0 (by decide), b6, up_ne _ (by decide), b5, cpy_ne _ (by decide), b1, up_ne _ (by decide), e5, up_get, if_neg (by omega), e4, up_get, if_neg (by omega), f0]
    have m3 : ∀ a, a ≠ 1 → (a = 2 ∨ a = 3 ∨ 40 ≤ a) → M3 a = M a := fun a p1 p2 => far a p1 (by omega) (by omega) (by omega)
    have ho : ∀ i : Nat, i < (dNb D).length → E5 41 i = dHo D i := fun i hi => by
      have h6 := d1.2.1
      rw [b5, cpy_get, if_pos ⟨by decide, by omega, by omega⟩, b1, up_ne _ (by omega), z5 _ (by omega), e3, up_ne _ (by omega), dx2 _ (by omega), show (0 : Int) + ((i : Int) - 0) = i by omega]
      exact (q8 i hi).2.1
    have e411 : E11 41 = E5 41 := by rw [b11, up_ne _ (by decide), b10, up_ne _ (by decide), b9, up_ne _ (by decide), b8, up_ne _ (by decide), z7 41 (by decide), b6, up_ne _ (by decide)]
    have e40 : ∀ k, k ≠ 4 → E11 40 k = E6 40 k := fun k hk => by rw [b11, up_ne _ (by decide), b10, up_ne _ (by decide), b9, up_ne _ (by decide), b8, up_get, if_neg (by omega), z7 40 (by decide)]
    have twn : ∀ a, 29 - t ≤ a → a ≤ 29 - t + 16 → E11 a = M2 a := fun a p1 p2 => by rw [zz a (by omega) (by omega) (by omega) (by omega), e3, up_ne _ (by omega)]
    have r11 : reX E11 42 (dFr D) := by
      have : ∀ a, 42 ≤ a → a ≤ 45 → E11 a = E7 a := fun a p1 p2 => by rw [b11, up_ne _ (by omega), b10, up_ne _ (by omega), b9, up_ne _ (by omega), b8, up_ne _ (by omega)]
      unfold reX at r7 ⊢
      rw [this 42 (by decide) (by decide), this (42 + 1) (by decide) (by decide), this (42 + 2) (by decide) (by decide), this (42 + 3) (by decide) (by decide)]
      exact r7
    refine hS D n s1 E11 e d1 (by omega) ⟨⟨?_, fun j hj => absurd hj (Nat.not_lt_zero j), fun i hi => ?_, ?_, ?_, ?_, ?_, fun j hj => absurd hj (Nat.not_lt_zero j), ?_, ?_, ?_⟩, ⟨?_, ?_, x1.2.2.tx d1 (by omega) (fun a p1 p2 p3 => by rw [twn a p1 (by omega), dx2 a p3]) (fun i j hi hj => by rw [twn _ (by omega) (by omega)]; exact v2 i j hi hj), fun i hi => ?_, fun i hi => ?_, ?_, ?_⟩, ⟨⟨by decide, ?_, ?_, fun q hq => ?_, r11⟩, ?_, fun j hj => absurd hj (Nat.not_lt_zero j)⟩, ⟨?_, ?_, ?_, fun j hj => absurd hj (Nat.not_lt_zero j)⟩, Or.inl ?_⟩ (fun a ha => ?_)
    · rw [zz 1 (by decide) (by decide) (by decide) (by decide), e3, up_get, if_pos ⟨rfl, rfl⟩]
      rfl
    · rw [zz 198 (by decide) (by decide) (by decide) (by decide), m3 198 (by decide) (by decide)]
      exact a3 i hi
    · rw [zz 1 (by decide) (by decide) (by decide) (by decide), e3, up_get, if_neg (by decide), z2 1 (by omega), o1.2.1, f6]
      rfl
    · rw [zz 1 (by decide) (by decide) (by decide) (by decide), e3, up_get, if_neg (by decide), z2 1 (by omega), o1.2.2, f7]
      rfl
    · unfold rw1 at *
      rw [zz 3 (by decide) (by decide) (by decide) (by decide), m3 3 (by decide) (by decide)]
      exact a6
    · rw [b11, up_ne _ (by decide), b10, up_get, if_pos ⟨rfl, rfl⟩]
      rfl
    · rw [zz 185 (by decide) (by decide) (by decide) (by decide), m3 185 (by decide) (by decide)]
      exact a9
    · unfold rw1 at *
      rw [zz 186 (by decide) (by decide) (by decide) (by decide), m3 186 (by decide) (by decide)]
      exact a10
    · rw [z0 13 (by decide) (by decide) (by decide)]
      exact a11
    · rw [b11, up_get, if_neg (by decide), b10, up_ne _ (by decide), b9, up_ne _ (by decide), b8, up_ne _ (by decide), z7 0 (by decide), b6, up_ne _ (by decide), b5, cpy_ne _ (by decide), b1, up_ne _ (by decide), g02]
    · rw [b11, up_get, if_neg (by decide), b10, up_ne _ (by decide), b9, up_ne _ (by decide), b8, up_ne _ (by decide), z7 0 (by decide), b6, up_ne _ (by decide), b5, cpy_ne _ (by decide), b1, up_ne _ (by decide), e5, up_get, if_pos ⟨rfl, rfl⟩]
      omega
    · rw [twn _ (by omega) (by omega), dx2 _ (by omega)]
      exact q7 i hi
    · rw [twn _ (by omega) (by omega), dx2 _ (by omega)]
      exact (q8 i hi).1
    · rw [twn _ (by omega) (by omega), dx2 _ (by omega)]
      exact q4
    · rw [twn _ (by omega) (by omega), dx2 _ (by omega)]
      exact q6
    · rw [e40 0 (by decide), b6, up_get, if_neg (by decide), b5, cpy_ne _ (by decide), b1, up_get, if_pos ⟨rfl, rfl⟩]
      rfl
    · rw [e40 2 (by decide), b6, up_get, if_pos ⟨rfl, rfl⟩, b5, cpy_ne _ (by omega), b1, up_ne _ (by omega), z5 _ (by omega), e3, up_ne _ (by omega), dx2 _ (by omega)]
      exact q5
    · show E11 41 q = _
      rw [e411]
      exact ho q hq
    · rw [b11, up_ne _ (by decide), b10, up_ne _ (by decide), b9, up_ne _ (by decide), b8, up_get, if_pos ⟨rfl, rfl⟩]
      rfl
    · rw [b11, up_ne _ (by decide), b10, up_ne _ (by decide), b9, up_get, if_pos ⟨rfl, rfl⟩]
      rfl
    · rw [b11, up_ne _ (by decide), b10, up_ne _ (by decide), b9, up_get, if_neg (by decide), b8, up_ne _ (by decide), z7 62 (by decide), zE 62 (by decide) (by decide) (by decide), m3 62 (by decide) (by decide)]
      exact u.2.1
    · rw [b11, up_ne _ (by decide), b10, up_ne _ (by decide), b9, up_get, if_neg (by decide), b8, up_ne _ (by decide), z7 62 (by decide), zE 62 (by decide) (by decide) (by decide), m3 62 (by decide) (by decide)]
      exact u.2.2.1
    · rw [b11, up_get, if_pos ⟨rfl, rfl⟩]
    · rw [zz a (by omega) (by omega) (by omega) (by omega), m3 a (by omega) (by omega)]
end
