/-! town: the model's, and both -/
section
variable {N : Nat} {t b : Int} {p : PT} {M : Mem} {D : TD}
theorem y_b73 {Q : Mem → Prop} {M0 : Mem} {c : Int} (hc : M0 199 13 = c) (hc2 : c = 0 ∨ c = 1) (h : ∀ M', (∀ a, a ≠ 231 → M' a = M0 a) → (∀ j : Nat, j < 8 → M' 231 (3 * j) = M0 210 (8 * c + j) ∧ M' 231 (3 * j + 1) = M0 211 (8 * c + j) ∧ M' 231 (3 * j + 2) = M0 212 (8 * c + j)) → ∀ M2 : Mem, M2 = up M' 232 0 0 → ∀ M3 : Mem, M3 = up M2 199 55 0 → ∀ M4 : Mem, M4 = up M3 199 60 0 → Q M4) : ∀ (d k : Nat) (M : Mem), k + d = 8 → (∀ a, a ≠ 231 → M a = M0 a) → (∀ j : Nat, j < k → M 231 (3 * j) = M0 210 (8 * c + j) ∧ M 231 (3 * j + 1) = M0 211 (8 * c + j) ∧ M 231 (3 * j + 2) = M0 212 (8 * c + j)) → m_X12_begin_L73 Q (d + 1) (k : Nat) M
  | 0, k, M, hk, z, v => by
    unfold m_X12_begin_L73
    exact ⟨by omega, fun _ => h M z (fun j hj => v j (by omega)), fun q => by omega⟩
  | d + 1, k, M, hk, z, v => by
    unfold m_X12_begin_L73
    rw [z 199 (by decide), hc]
    refine ⟨by omega, fun q => by omega, fun _ => ⟨by omega, by omega, fun M7 e7 => ?_⟩⟩
    have g7 : M7 199 13 = c := by rw [e7, up_ne _ (by decide), z 199 (by decide), hc]
    rw [g7]
    refine ⟨by omega, by omega, fun M10 e10 => ?_⟩
    have g10 : M10 199 13 = c := by rw [e10, up_ne _ (by decide), g7]
    rw [g10]
    refine ⟨by omega, by omega, fun M13 e13 => ?_⟩
    rw [cast1]
    refine y_b73 hc hc2 h d (k + 1) M13 (by omega) (fun a ha => by rw [e13, up_ne _ ha, e10, up_ne _ ha, e7, up_ne _ ha, z a ha]) (fun j hj => ?_)
    have o10 : M7 211 = M0 211 := by rw [e7, up_ne _ (by decide), z 211 (by decide)]
    have o12 : M10 212 = M0 212 := by rw [e10, up_ne _ (by decide), e7, up_ne _ (by decide), z 212 (by decide)]
    have val : ∀ i, M13 231 i = if i = 3 * (k : Int) + 2 then M0 212 (8 * c + k) else if i = 3 * (k : Int) + 1 then M0 211 (8 * c + k) else if i = 3 * (k : Int) then M0 210 (8 * c + k) else M 231 i := fun i => by
      rw [e13, up_get]
      by_cases q : i = 3 * (k : Int) + 2
      · rw [if_pos ⟨rfl, q⟩, if_pos q, o12]
      · rw [if_neg (fun w => q w.2), if_neg q, e10, up_get]
        by_cases q : i = 3 * (k : Int) + 1
        · rw [if_pos ⟨rfl, q⟩, if_pos q, o10]
        · rw [if_neg (fun w => q w.2), if_neg q, e7, up_get]
          by_cases q : i = 3 * (k : Int)
          · rw [if_pos ⟨rfl, q⟩, if_pos q, z 210 (by decide)]
          · rw [if_neg (fun w => q w.2), if_neg q]
    rw [val, val, val]
    by_cases cj : j = k
    · subst cj
      rw [if_neg (by omega), if_neg (by omega), if_pos rfl, if_neg (by omega), if_pos rfl, if_pos rfl]
      exact ⟨rfl, rfl, rfl⟩
    · rw [if_neg (by omega), if_neg (by omega), if_neg (by omega), if_neg (by omega), if_neg (by omega), if_neg (by omega), if_neg (by omega), if_neg (by omega), if_neg (by omega)]
      exact v j (by omega)
theorem y_b24 {Q : Mem → Prop} {M0 : Mem} {c : Int} (hc : M0 199 13 = c) (hc2 : c = 0 ∨ c = 1) (h : ∀ M', (∀ a, a ≠ 228 → M' a = M0 a) → (∀ j : Nat, j < 6 → M' 228 j = M0 206 (6 * c + j)) → ∀ M16 : Mem, M16 = up M' 230 0 (M' 209 c) → ∃ fu : Nat, m_X12_begin_L73 Q fu 0 M16) : ∀ (d k : Nat) (M : Mem), k + d = 6 → (∀ a, a ≠ 228 → M a = M0 a) → (∀ j : Nat, j < k → M 228 j = M0 206 (6 * c + j)) → m_X12_begin_L24 Q (d + 1) (k : Nat) M
  | 0, k, M, hk, z, v => by
    unfold m_X12_begin_L24
    rw [z 199 (by decide), hc]
    exact ⟨by omega, fun _ => ⟨by omega, h M z (fun j hj => v j (by omega))⟩, fun q => by omega⟩
  | d + 1, k, M, hk, z, v => by
    unfold m_X12_begin_L24
    rw [z 199 (by decide), hc]
    refine ⟨by omega, fun q => by omega, fun _ => ⟨by omega, by omega, fun M1 e1 => ?_⟩⟩
    rw [cast1]
    refine y_b24 hc hc2 h d (k + 1) M1 (by omega) (fun a ha => by rw [e1, up_ne _ ha, z a ha]) (fun j hj => ?_)
    rw [e1, up_get]
    by_cases cj : j = k
    · subst cj
      rw [if_pos ⟨rfl, rfl⟩, z 206 (by decide)]
    · rw [if_neg (by omega)]
      exact v j (by omega)
/-- the model's new town -/
theorem DY.ty {M' : Mem} {s : Nat} (hy : DY M b D) (hD : DOK D s) (hs : s ≤ 1600) (z : ∀ a, 201 ≤ a → a ≤ 219 → a ≠ 204 → M' a = M a) (hv : ∀ i j : Nat, i < 7 → j < 7 → M' 204 (49 * b + 7 * i + j) = fwN (F0A (aD D)) 7 i j) : TY M' b (nW D) := by
  obtain ⟨a1, a2, a3, a4, a5, a6, a7, a8, a9, a10, a11, a12, a13, a14, a15⟩ := hy
  have d1 := hD.1
  have d16 := hD.2.2.2.2.2.2.2.2.2.2.2.2.2.2.2
  have w := nW_ok hD
  have cd : ∀ {k : Int} {cs : List Int}, fmY M b k cs → cs ≠ [] → wfP cs [] → cdY M' b k cs := fun {k cs} hf hn hw => by
    unfold fmY at hf
    rw [if_neg hn] at hf
    obtain ⟨f1, f2, f3, f4⟩ := hf
    unfold cdY
    rw [z 214 (by decide) (by decide) (by decide), z 215 (by decide) (by decide) (by decide), z 216 (by decide) (by decide) (by decide), z 217 (by decide) (by decide) (by decide)]
    exact ⟨f1, f2, by omega, f4, hw⟩
  have wf : ∀ {cs : List Int}, (cs = [] ∨ wfP cs []) → cs ≠ [] → wfP cs [] := fun h hn => by
    rcases h with h | h
    · exact absurd h hn
    · exact h
  refine ⟨a1, by rw [z 201 (by decide) (by decide) (by decide)]; exact a4, by rw [z 205 (by decide) (by decide) (by decide)]; exact a5, fun i j hi hj => ?_, fun q hq => ?_, ?_, ?_⟩
  · have hi : i < (dNa D).length := hi
    have hj : j < (dNa D).length := hj
    obtain ⟨r1, r2, r3⟩ := a12 i j (by omega) (by omega)
    have f1 := fw_1 (aD D) 7 i j
    have u : F0A (aD D) i j ≤ 100000000 := by
      simp only [F0A]
      split
      · omega
      · split <;> omega
    rw [z 203 (by decide) (by decide) (by decide), hv i j (by omega) (by omega)]
    refine ⟨r1, r2 hi, f1.1, by omega, ?_⟩
    show dst (aD D) ((i : Nat) : Int).toNat ((j : Nat) : Int).toNat = _
    rw [Int.toNat_natCast, Int.toNat_natCast]
    exact fw_dst (by omega) (by omega)
  · rw [z 207 (by decide) (by decide) (by decide)]
    exact (a11 q hq).2.2
  · show if dSt D = [] then _ else cdY M' b 0 (dSt D)
    by_cases c : dSt D = []
    · rw [if_pos c, z 214 (by decide) (by decide) (by decide)]
      unfold fmY at a14
      rw [if_pos c, show 2 * b + 0 = 2 * b by omega] at a14
      exact a14
    · rw [if_neg c]
      exact cd a14 c (wf hD.2.2.2.2.2.2.2.2.2.2.2.2.1 c)
  · show if dGo D = [] then _ else cdY M' b 1 (dGo D)
    by_cases c : dGo D = []
    · rw [if_pos c, z 214 (by decide) (by decide) (by decide)]
      unfold fmY at a15
      rw [if_pos c] at a15
      exact a15
    · rw [if_neg c]
      exact cd a15 c (wf hD.2.2.2.2.2.2.2.2.2.2.2.2.2.1 c)
theorem y_town {Q : Int → Mem → Prop} (hp : POK N p) (hy : IY M b p) (hF : ∀ e M', rdT (pTp p) 81 0 (skT (pTp p) 0) D0 = .inl e → IY M' b (pFl p e) → stY M M' → Q (-1) M') (hS : ∀ D n M', rdT (pTp p) 81 0 (skT (pTp p) 0) D0 = .inr (D, n) → IY M' (1 - b) (nP p D) → stY M M' → Q (n : Nat) M') : m_X12_town M Q := by
  obtain ⟨⟨a1, a2, a3, a4, a5, a6, a7, a8, a9, a10⟩, ⟨k1, k2, k3, k4, k5, k6⟩, s, u⟩ := id hy
  have hb := k2.1
  have hT : TB (pTp p) := ⟨hp.1.1, hp.1.2.1⟩
  refine y_townr hT a1 a2 k1 hb fun M0 z0 zk0 f1 zb0 f9 => ?_
  generalize hc : (1 : Int) - b = c at *
  cases e : rdT (pTp p) 81 0 (skT (pTp p) 0) D0 with
  | inl x =>
    intro M1 v y1 o1
    unfold m_X12_town_J208
    intro M2 e2 M3 e3
    have h8 := y1.1.1
    have h9 := y1.1.2
    have r8 := y1.2.1
    have g8 : M3 199 8 = x.1 := by rw [e3, up_get, if_neg (by decide), e2, up_get, if_neg (by decide), h8]
    rw [g8]
    refine ⟨by omega, fun z => by omega, fun _ => y_refuses (by decide) ?_⟩
    have z3 : ∀ a, a ≠ 199 → M3 a = M1 a := fun a ha => by rw [e3, up_ne _ ha, e2, up_ne _ ha]
    have k3' : ∀ k, k ≠ 10 → k ≠ 11 → M3 199 k = M1 199 k := fun k p1 p2 => by rw [e3, up_get, if_neg (by omega), e2, up_get, if_neg (by omega)]
    refine hF x _ e (hy.flt hp (fun a ha => ?_) (fun a p1 p2 i hi => ?_) (fun k hk q1 q2 q10 q11 q34 => ?_) ?_ ?_ ?_ (fun i => ?_)) (fun a ha => ?_)
    · rw [up_ne _ (by omega), z3 a (by omega), o1.1 a (by omega), z0 a (by omega)]
    · rw [hc] at hi
      rw [up_ne _ (by omega), z3 a (by omega), o1.2.2.1 a p1 p2 i hi, zb0 a p1 p2 i hi]
    · rw [up_ne _ (by decide), k3' k q10 q11, o1.2.1 k hk, zk0 k hk q1 q2 q34]
    · rw [up_ne _ (by decide), k3' 1 (by decide) (by decide), o1.2.1 1 (by omega), f1]
    · rw [up_ne _ (by decide), e3, up_get, if_neg (by decide), e2, up_get, if_pos ⟨rfl, rfl⟩, h8]
    · rw [up_ne _ (by decide), e3, up_get, if_pos ⟨rfl, rfl⟩, e2, up_get, if_neg (by decide), h9]
    · have : M3 226 = M 226 := by rw [z3 226 (by decide), o1.1 226 (by decide), z0 226 (by decide)]
      rw [up_get, this]
      by_cases q : i = 1
      · rw [if_pos ⟨rfl, q⟩, if_pos q, q]
      · rw [if_neg (fun w => q w.2), if_neg q]
    · rw [up_ne _ (by omega), z3 a (by omega), o1.1 a (by omega), z0 a (by omega)]
  | inr q =>
    obtain ⟨D, n⟩ := q
    intro M1 s1 y1 d1 o1
    have sl := y1.1.2.1
    have tl := hT.1
    have h9 : M1 199 9 = -1 := by rw [(o1.2.2.2 y1.2.1).2, f9]
    unfold m_X12_town_J208
    intro M2 e2 M3 e3
    have z3 : ∀ a, a ≠ 199 → M3 a = M1 a := fun a ha => by rw [e3, up_ne _ ha, e2, up_ne _ ha]
    have k3' : ∀ k, k ≠ 10 → k ≠ 11 → M3 199 k = M1 199 k := fun k p1 p2 => by rw [e3, up_get, if_neg (by omega), e2, up_get, if_neg (by omega)]
    have dy3 : DY M3 c D := y1.2.2.rows (fun a p1 p2 => z3 a (by omega)) (k3' 33 (by decide) (by decide)) (k3' 34 (by decide) (by decide))
    rw [show M3 199 8 = 0 by rw [k3' 8 (by decide) (by decide), y1.2.1]]
    refine ⟨by decide, fun _ => y_measures dy3 fun M4 m4' v4 M5 e5 => ?_, fun z => absurd (by decide) z⟩
    have g34 : M4 199 34 = c := by rw [m4'.1 199 (by decide)]; exact dy3.2.1
    rw [g34] at e5
    unfold m_X12_begin
    intro E1 b1
    have h13 : M5 199 13 = c := by rw [e5, up_get, if_pos ⟨rfl, rfl⟩]
    rw [show E1 199 13 = c by rw [b1, up_ne _ (by decide), h13]]
    have c01 := dy3.1
    refine ⟨by omega, fun E2 b2 => ⟨7, ?_⟩⟩
    have z5 : ∀ a, a ≠ 199 → a ≠ 204 → M5 a = M1 a := fun a p1 p2 => by rw [e5, up_ne _ p1, m4'.1 a p2, z3 a p1]
    have zE2 : ∀ a, a ≠ 199 → a ≠ 204 → a ≠ 227 → a ≠ 229 → E2 a = M1 a := fun a p1 p2 p3 p4 => by rw [b2, up_ne _ p4, b1, up_ne _ p3, z5 a p1 p2]
    have e13 : E2 199 13 = c := by rw [b2, up_ne _ (by decide), b1, up_ne _ (by decide), h13]
    refine y_b24 (M0 := E2) (c := c) e13 c01 (fun F1 w1 v1 F2 b3 => ⟨9, ?_⟩) 6 0 E2 (by omega) (fun _ _ => rfl) (fun j hj => absurd hj (Nat.not_lt_zero j))
    refine y_b73 (M0 := F2) (c := c) (by rw [b3, up_ne _ (by decide), w1 199 (by decide), e13]) c01 (fun F3 w3 v3 F4 b4 F5 b5 F6 b6 => ?_) 8 0 F2 (by omega) (fun _ _ => rfl) (fun j hj => absurd hj (Nat.not_lt_zero j))
    have zz : ∀ a, a ≠ 199 → a ≠ 204 → (a < 227 ∨ 233 ≤ a) → F6 a = M1 a := fun a p1 p2 p3 => by
      rw [b6, up_ne _ p1, b5, up_ne _ p1, b4, up_ne _ (by omega), w3 a (by omega), b3, up_ne _ (by omega), w1 a (by omega), zE2 a p1 p2 (by omega) (by omega)]
    have zk : ∀ k, k ≠ 10 → k ≠ 11 → k ≠ 13 → k ≠ 55 → k ≠ 60 → F6 199 k = M1 199 k := fun k q1 q2 q3 q4 q5 => by
      rw [b6, up_get, if_neg (by omega), b5, up_get, if_neg (by omega), b4, up_ne _ (by decide), w3 199 (by decide), b3, up_ne _ (by decide), w1 199 (by decide), b2, up_ne _ (by decide), b1, up_ne _ (by decide), e5, up_get, if_neg (by omega), m4'.1 199 (by decide), k3' k q1 q2]
    have kk : ∀ k, keepW k → k ≠ 1 → k ≠ 2 → k ≠ 34 → k ≠ 10 → k ≠ 11 → k ≠ 13 → k ≠ 55 → k ≠ 60 → F6 199 k = M 199 k := fun k hk q1 q2 q3 q4 q5 q6 q7 q8 => by
      rw [zk k q4 q5 q6 q7 q8, o1.2.1 k hk, zk0 k hk q1 q2 q3]
    have k199 : ∀ k, k ≠ 55 → k ≠ 60 → F6 199 k = M5 199 k := fun k q1 q2 => by
      rw [b6, up_get, if_neg (by omega), b5, up_get, if_neg (by omega), b4, up_ne _ (by decide), w3 199 (by decide), b3, up_ne _ (by decide), w1 199 (by decide), b2, up_ne _ (by decide), b1, up_ne _ (by decide)]
    have far : ∀ a, (a < 199 ∨ a = 200 ∨ a = 226 ∨ 234 ≤ a) → F6 a = M a := fun a ha => by rw [zz a (by omega) (by omega) (by omega), o1.1 a (by omega), z0 a (by omega)]
    obtain ⟨q1, q2, q3, q4, q5, q6, q7, q8, q9, q10, q11, q12, q13, q14, q15⟩ := id y1.2.2
    have d2 := d1.2.1
    have d8 := d1.2.2.2.2.2.2.2.1
    have v204 : ∀ i j : Nat, i < 7 → j < 7 → F6 204 (49 * c + 7 * i + j) = fwN (F0A (aD D)) 7 i j := fun i j hi hj => by
      have : F6 204 = M4 204 := by
        rw [b6, up_ne _ (by decide), b5, up_ne _ (by decide), b4, up_ne _ (by decide), w3 204 (by decide), b3, up_ne _ (by decide), w1 204 (by decide), b2, up_ne _ (by decide), b1, up_ne _ (by decide), e5, up_ne _ (by decide)]
      rw [this]
      exact v4 i j hi hj
    have F2r : ∀ a, 201 ≤ a → a ≤ 219 → a ≠ 204 → F2 a = M1 a := fun a p1 p2 p3 => by rw [b3, up_ne _ (by omega), w1 a (by omega), zE2 a (by omega) p3 (by omega) (by omega)]
    refine hS D n F6 e ⟨⟨?_, fun j hj => absurd hj (Nat.not_lt_zero j), fun i hi => ?_, ?_, ?_, ?_, fun j hj => absurd hj (Nat.not_lt_zero j), ?_, ?_, ?_⟩, ⟨?_, y1.2.2.ty d1 (by omega) (fun a p1 p2 p3 => zz a (by omega) p3 (by omega)) v204, fun i hi => ?_, fun i hi => ?_, ?_, ?_⟩, ⟨⟨by decide, ?_, ?_, fun m hm => ?_, ?_, fun j hj => ?_⟩, ⟨?_, fun j _ hj => absurd hj (Nat.not_lt_zero j)⟩⟩, ⟨?_, ?_, ?_, fun j hj => absurd hj (Nat.not_lt_zero j)⟩⟩ (fun a ha => far a (by omega))
    · rw [zk 1 (by decide) (by decide) (by decide) (by decide) (by decide), o1.2.1 1 (by omega), f1]
      rfl
    · rw [far 226 (by decide)]
      exact a3 i hi
    · rw [k199 10 (by decide) (by decide), e5, up_get, if_neg (by decide), m4'.1 199 (by decide), e3, up_get, if_neg (by decide), e2, up_get, if_pos ⟨rfl, rfl⟩, y1.2.1]
      rfl
    · rw [k199 11 (by decide) (by decide), e5, up_get, if_neg (by decide), m4'.1 199 (by decide), e3, up_get, if_pos ⟨rfl, rfl⟩, e2, up_get, if_neg (by decide), h9]
      rfl
    · rw [b6, up_get, if_pos ⟨rfl, rfl⟩]
      rfl
    · rw [kk 66 (by omega) (by decide) (by decide) (by decide) (by decide) (by decide) (by decide) (by decide) (by decide)]
      exact a8
    · unfold rw1 at *
      rw [far 241 (by decide)]
      exact a9
    · rw [kk 56 (by omega) (by decide) (by decide) (by decide) (by decide) (by decide) (by decide) (by decide) (by decide)]
      exact a10
    · rw [k199 13 (by decide) (by decide), h13]
    · rw [zz 218 (by decide) (by decide) (by decide)]
      exact q10 i hi
    · rw [zz 219 (by decide) (by decide) (by decide)]
      exact (q11 i hi).1
    · rw [zz 202 (by decide) (by decide) (by decide)]
      exact q6
    · rw [zz 213 (by decide) (by decide) (by decide)]
      exact q8
    · rw [b6, up_ne _ (by decide), b5, up_ne _ (by decide), b4, up_ne _ (by decide), w3 227 (by decide), b3, up_ne _ (by decide), w1 227 (by decide), b2, up_ne _ (by decide), b1, up_get, if_pos ⟨rfl, rfl⟩]
      rfl
    · rw [b6, up_ne _ (by decide), b5, up_ne _ (by decide), b4, up_ne _ (by decide), w3 229 (by decide), b3, up_ne _ (by decide), w1 229 (by decide), b2, up_get, if_pos ⟨rfl, rfl⟩, b1, up_ne _ (by decide), z5 208 (by decide) (by decide)]
      exact q7
    · have hm2 : m < (dNb D).length := hm
      rw [b6, up_ne _ (by decide), b5, up_ne _ (by decide), b4, up_ne _ (by decide), w3 228 (by decide), b3, up_ne _ (by decide), show 6 * (0 : Int) + (m : Int) = m by omega, v1 m (by omega), zE2 206 (by decide) (by decide) (by decide) (by decide)]
      exact (q11 m hm2).2.1
    · rw [b6, up_ne _ (by decide), b5, up_ne _ (by decide), b4, up_ne _ (by decide), w3 230 (by decide), b3, up_get, if_pos ⟨rfl, rfl⟩, w1 209 (by decide), zE2 209 (by decide) (by decide) (by decide) (by decide)]
      exact q9
    · have hj2 : j < (dFr D).length := hj
      obtain ⟨r1, r2, r3⟩ := v3 j (by omega)
      have f231 : F6 231 = F3 231 := by rw [b6, up_ne _ (by decide), b5, up_ne _ (by decide), b4, up_ne _ (by decide)]
      rw [f231, show 3 * (9 * (0 : Int) + (j : Int)) = 3 * j by omega, r1, r2, r3, F2r 210 (by decide) (by decide) (by decide), F2r 211 (by decide) (by decide) (by decide), F2r 212 (by decide) (by decide) (by decide)]
      exact q13 j hj2
    · rw [b6, up_ne _ (by decide), b5, up_ne _ (by decide), b4, up_get, if_pos ⟨rfl, rfl⟩]
      rfl
    · rw [b6, up_get, if_neg (by decide), b5, up_get, if_pos ⟨rfl, rfl⟩]
      rfl
    · rw [kk 54 (by omega) (by decide) (by decide) (by decide) (by decide) (by decide) (by decide) (by decide) (by decide)]
      exact u.2.1
    · rw [kk 54 (by omega) (by decide) (by decide) (by decide) (by decide) (by decide) (by decide) (by decide) (by decide)]
      exact u.2.2.1
theorem s_town (hi : Inv N M) : m_X11_town M (fun r1 M1 => m_X12_town M1 (fun r2 M2 => Good N r1 r2 M2)) := by
  obtain ⟨t, b, p, hp, hx, hy⟩ := hi
  have hT : TB (pTp p) := ⟨hp.1.1, hp.1.2.1⟩
  have k0 := sk_rng (T := pTp p) (pTp p).length 0 (by omega)
  have tl := hT.1
  refine x_town hp hx (fun e M1 he hx1 st1 => ?_) (fun D n s M1 he hD hs hx1 st1 => ?_)
  · have fb := rdT_f 81 0 _ D0 e k0.2.1 (D0_ok.mono (by omega)) he
    refine y_town hp (hy.st st1) (fun e2 M2 he2 hy2 st2 => ?_) (fun D n M2 he2 => by rw [he] at he2; simp at he2)
    rw [he] at he2
    have : e = e2 := by simpa using he2
    subst this
    exact fin1 (hp.flt (by omega) (by omega)) (hx1.st st2) hy2 (by decide)
  · have n80 := rdT_n 81 0 _ D0 D n (by decide) he
    refine y_town hp (hy.st st1) (fun e2 M2 he2 => by rw [he] at he2; simp at he2) (fun D2 n2 M2 he2 hy2 st2 => ?_)
    rw [he] at he2
    have e1 : D = D2 ∧ n = n2 := by simpa using he2
    obtain ⟨rfl, rfl⟩ := e1
    exact fin1 (hp.new hD) (hx1.st st2) hy2 (by omega)
end
