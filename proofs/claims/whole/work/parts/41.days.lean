/-! undo, days, chance -/
section
variable {N : Nat} {t b : Int} {p : PT} {M : Mem}
/-! undo -/
def undP (p : PT) : PT := (pTp p, pRf p, pFa p, pW p, p.2.2.2.2.1, ((pU p).getD 0 dU).1, (pK p).take ((pU p).getD 0 dU).2, (pU p).drop 1, pSe p, pIm p, pSd p)
theorem und_get {j : Nat} : ((pU p).drop 1).getD j dU = (pU p).getD (j + 1) dU := by simp [List.getD, List.getElem?_drop, Nat.add_comm]
theorem POK.und (hp : POK N p) (hu : (pU p).length ≠ 0) : POK N (undP p) := by
  obtain ⟨h1, h2, h3, h4, h5⟩ := hp
  obtain ⟨k1, k2, k3⟩ := h5 0 (by omega)
  have lt : ((pK p).take ((pU p).getD 0 dU).2).length = ((pU p).getD 0 dU).2 := by rw [List.length_take]; omega
  refine ⟨h1, h2, ⟨⟨k1.1, k1.2.1, ?_⟩, fun q hq => h3.2 q (List.mem_of_mem_take hq)⟩, ?_, fun j hj => ?_⟩
  · show (((pK p).take ((pU p).getD 0 dU).2).length : Int) ≤ _
    rw [lt]
    exact k1.2.2
  · show ((pU p).drop 1).length ≤ 20
    rw [List.length_drop]
    omega
  · have hj' : j < ((pU p).drop 1).length := hj
    rw [List.length_drop] at hj'
    obtain ⟨m1, m2, m3⟩ := h5 (j + 1) (by omega)
    show sceneOK (pW p) (((pU p).drop 1).getD j dU).1 (((pU p).drop 1).getD j dU).2 ∧ (((pU p).drop 1).getD j dU).2 ≤ ((pK p).take ((pU p).getD 0 dU).2).length ∧ ∀ i : Nat, i < j → (((pU p).drop 1).getD j dU).2 ≤ (((pU p).drop 1).getD i dU).2
    rw [und_get, lt]
    exact ⟨m1, m3 0 (by omega), fun i hi => by rw [und_get]; exact m3 (i + 1) (by omega)⟩
theorem x_undo {Q : Int → Mem → Prop} (hx : IX M t p) (hp : POK N p) (h1 : (pU p).length ≠ 0 → ∀ M', IX M' t (undP p) → stX M M' → Q 1 M') (h0 : (pU p).length = 0 → ∀ M', IX M' t (wRf p 4) → stX M M' → Q 0 M') : m_X11_undo M Q := by
  obtain ⟨x1, x2, x3, ⟨u1, u2, u3, u4⟩, x5⟩ := id hx
  have l20 := hp.2.2.2.1
  unfold m_X11_undo m_X3_bringBack
  rw [u1]
  refine ⟨by decide, by omega, fun q => ⟨by decide, fun _ => x_deny2 (by decide) hx (h0 (by omega)), fun z => absurd rfl z⟩, fun q => ⟨by omega, ?_⟩⟩
  obtain ⟨m1, m2⟩ := u4 0 (by omega)
  have e0 : slX (M 62 1) 0 = 63 + 2 + 6 * M 62 1 := by unfold slX; omega
  rw [e0] at m1 m2
  have hu := (hp.2.2.2.2 0 (by omega)).1
  refine x_copy (by decide) m1 hu.1 hp.2.1.1 (by omega) fun M1 o1 s1 k1 => ⟨?_, fun M2 e2 M3 e3 => ⟨by decide, fun z => absurd z (by decide), fun _ M4 e4 => ?_⟩⟩
  · rw [o1 62 (by decide)]; omega
  · have q1 : M1 62 = M 62 := o1 62 (by decide)
    rw [q1, tmod20 (by omega)] at e2
    have a2 : M2 62 2 = ((pU p).length : Nat) := by
      rw [e2]
      simp only [up_get]
      rw [if_neg (by decide), q1, u1]
    rw [a2] at e3
    have z : ∀ a, a ≠ 0 → a ≠ 62 → (a < 40 ∨ 45 < a) → M4 a = M a := fun a a1 a2 a3 => by rw [e4, up_ne _ a1, e3, up_ne _ a2, e2, up_ne _ a2, o1 a (by omega)]
    have z0 : ∀ k, k ≠ 8 → M4 0 k = M 0 k := fun k hk => by
      rw [e4]
      simp only [up_get]
      rw [if_neg (fun y => hk y.2), e3, up_ne _ (by decide), e2, up_ne _ (by decide), o1 0 (by decide)]
    have q8 : M4 0 8 = 0 := by rw [e4]; simp [up_get]
    have n1 : M4 62 1 = (M 62 1 + 20 - 1) % 20 := by
      rw [e4, up_ne _ (by decide), e3]
      simp only [up_get]
      rw [if_neg (by decide), e2]
      simp [up_get]
    have kt := isTown x2.2.2.1.1
    have s4 : ∀ a, 40 ≤ a → a ≤ 45 → M4 a = M1 a := fun a a1 a2 => by rw [e4, up_ne _ (by omega), e3, up_ne _ (by omega), e2, up_ne _ (by omega)]
    have lt : ((pK p).take ((pU p).getD 0 dU).2).length = ((pU p).getD 0 dU).2 := by
      have := (hp.2.2.2.2 0 (by omega)).2.1
      rw [List.length_take]; omega
    refine h1 (by omega) M4 ⟨?_, ⟨?_, ?_, ?_, ?_⟩, ⟨?_, ?_, ?_⟩, ⟨?_, by omega, by omega, fun j hj => ?_⟩, Or.inl q8⟩ (fun a ha => z a (by omega) (by omega) (by omega))
    · unfold aX rw1 rw3 at *
      rw [z 1 (by decide) (by decide) (by decide), z 2 (by decide) (by decide) (by decide), z 3 (by decide) (by decide) (by decide), z 198 (by decide) (by decide) (by decide), z 188 (by decide) (by decide) (by decide), z 185 (by decide) (by decide) (by decide), z 186 (by decide) (by decide) (by decide), z 187 (by decide) (by decide) (by decide), z0 13 (by decide)]
      exact x1
    · rw [z0 2 (by decide)]; exact x2.1
    · rw [z0 3 (by decide)]; exact x2.2.1
    · exact x2.2.2.1.rows (fun a a1 a2 => z a (by omega) (by omega) (by omega))
    · rw [z t (by omega) (by omega) (by omega), z (t + 1) (by omega) (by omega) (by omega), z (t + 4) (by omega) (by omega) (by omega)]
      exact x2.2.2.2
    · exact s1.rows (fun a a1 a2 => s4 a (by omega) (by omega))
    · show M4 40 4 = (((pK p).take ((pU p).getD 0 dU).2).length : Int)
      rw [s4 40 (by decide) (by decide), k1, m2, lt]
    · intro k hk
      have hk' : k < ((pK p).take ((pU p).getD 0 dU).2).length := hk
      rw [z 64 (by decide) (by decide) (by decide)]
      have := x3.2.2 k (by rw [List.length_take] at hk'; omega)
      show M 64 (3 * (k : Int)) = (((pK p).take ((pU p).getD 0 dU).2).getD k (0, 0, 0)).1 ∧ M 64 (3 * (k : Int) + 1) = (((pK p).take ((pU p).getD 0 dU).2).getD k (0, 0, 0)).2.1 ∧ M 64 (3 * (k : Int) + 2) = (((pK p).take ((pU p).getD 0 dU).2).getD k (0, 0, 0)).2.2
      rw [take_get (by omega)]
      exact this
    · show M4 62 2 = (((pU p).drop 1).length : Int)
      rw [List.length_drop, e4, up_ne _ (by decide), e3]
      simp only [up_get]
      rw [if_pos ⟨trivial, trivial⟩]
      omega
    · have hj' : j < ((pU p).drop 1).length := hj
      rw [List.length_drop] at hj'
      obtain ⟨v1, v2⟩ := u4 (j + 1) (by omega)
      have ee : slX (M4 62 1) j = slX (M 62 1) (j + 1) := by rw [n1]; unfold slX; omega
      have rg : 65 ≤ slX (M 62 1) (j + 1) := by unfold slX; omega
      show SX M4 (slX (M4 62 1) j) (pW p) (((pU p).drop 1).getD j dU).1 ∧ M4 (slX (M4 62 1) j) 4 = ((((pU p).drop 1).getD j dU).2 : Int)
      rw [ee, und_get]
      refine ⟨v1.rows (fun a a1 a2 => z a (by omega) (by omega) (by omega)), ?_⟩
      rw [z _ (by omega) (by omega) (by omega)]
      exact v2
theorem y_undo {Q : Int → Mem → Prop} (hy : IY M b p) (hp : POK N p) (h1 : (pU p).length ≠ 0 → ∀ M', IY M' b (undP p) → stY M M' → Q 1 M') (h0 : (pU p).length = 0 → ∀ M', IY M' b (wRf p 4) → stY M M' → Q 0 M') : m_X12_undo M Q := by
  obtain ⟨y1, y2, y3, ⟨u1, u2, u3, u4⟩⟩ := id hy
  have l20 := hp.2.2.2.1
  unfold m_X12_undo m_X12_undo_J20 m_X12_slot
  rw [u1]
  refine ⟨by omega, fun q => y_refuses (by decide) ⟨by decide, fun _ => ⟨by decide, h0 (by omega) _ hy.ref (stY.up rfl (by decide))⟩, fun z => absurd (show (-1 : Int) < 0 by decide) z⟩, fun q M1 e1 => ?_⟩
  have n1 : M1 199 55 = ((pU p).length : Nat) - 1 := by rw [e1]; simp [up_get]
  have f1 : M1 199 54 = M 199 54 := by
    rw [e1]
    simp only [up_get]
    rw [if_neg (by decide)]
  rw [n1, f1, tmod20 (by omega)]
  obtain ⟨m1, m2⟩ := u4 0 (by omega)
  have e0 : slY (M 199 54) (pU p).length 0 = 2 + (M 199 54 + (((pU p).length : Int) - 1)) % 20 := by unfold slY; omega
  rw [e0] at m1 m2
  have hu := (hp.2.2.2.2 0 (by omega)).1
  have z1 : ∀ a, a ≠ 199 → M1 a = M a := fun a ha => by rw [e1, up_ne _ ha]
  refine ⟨by omega, y_copies (by decide) (by omega) (m1.off (z1 _ (by decide)) (z1 _ (by decide)) (z1 _ (by decide)) (z1 _ (by decide)) (z1 _ (by decide))) hu.1 hp.2.1.1 (m2.keep (z1 _ (by decide)) (z1 _ (by decide))) fun M2 o2 s2 k2 => ?_⟩
  have z : ∀ a, a ≠ 199 → (a < 227 ∨ 236 < a) → M2 a = M a := fun a a1 a2 => by rw [o2.1 a (by simp; omega), z1 a a1]
  have z9 : ∀ k, k ≠ 55 → M2 199 k = M 199 k := fun k hk => by
    rw [o2.1 199 (by decide), e1]
    simp only [up_get]
    rw [if_neg (fun y => hk y.2)]
  refine h1 (by omega) M2 ⟨?_, ⟨?_, ?_, ?_⟩, ⟨s2, k2⟩, ⟨?_, by rw [z9 54 (by decide)]; omega, by rw [z9 54 (by decide)]; omega, fun j hj => ?_⟩⟩ (fun a ha => z a (by omega) (by omega))
  · unfold aY rw1 at *
    rw [z 200 (by decide) (by decide), z 226 (by decide) (by decide), z 237 (by decide) (by decide), z 238 (by decide) (by decide), z 239 (by decide) (by decide), z 241 (by decide) (by decide), z9 1 (by decide), z9 10 (by decide), z9 11 (by decide), z9 60 (by decide), z9 66 (by decide), z9 56 (by decide)]
    exact y1
  · rw [z9 13 (by decide)]; exact y2.1
  · exact y2.2.1.off (fun a a1 a2 => z a (by omega) (by omega))
  · rw [z 218 (by decide) (by decide), z 219 (by decide) (by decide), z 202 (by decide) (by decide), z 213 (by decide) (by decide)]
    exact y2.2.2
  · show M2 199 55 = (((pU p).drop 1).length : Int)
    rw [List.length_drop, o2.1 199 (by decide), n1]
    omega
  · have hj' : j < ((pU p).drop 1).length := hj
    rw [List.length_drop] at hj'
    obtain ⟨v1, v2⟩ := u4 (j + 1) (by omega)
    obtain ⟨w1, w2, w3⟩ := hp.2.2.2.2 (j + 1) (by omega)
    have ee : slY (M 199 54) ((pU p).length - 1) j = slY (M 199 54) (pU p).length (j + 1) := by unfold slY; omega
    have ne : slY (M 199 54) (pU p).length (j + 1) ≠ 0 := by unfold slY; omega
    show SY M2 (slY (M2 199 54) ((pU p).drop 1).length j) (pW p) (((pU p).drop 1).getD j dU).1 ∧ KY M2 (slY (M2 199 54) ((pU p).drop 1).length j) (((pK p).take ((pU p).getD 0 dU).2).take (((pU p).drop 1).getD j dU).2)
    rw [List.length_drop, z9 54 (by decide), ee, und_get, List.take_take, Nat.min_eq_left (w3 0 (by omega))]
    exact ⟨(v1.off (z1 _ (by decide)) (z1 _ (by decide)) (z1 _ (by decide)) (z1 _ (by decide)) (z1 _ (by decide))).oth w1.1 hp.2.1.1 o2 ne, (v2.keep (z1 _ (by decide)) (z1 _ (by decide))).oth o2 ne⟩
theorem s_undo (hi : Inv N M) : m_X11_undo M (fun r1 M1 => m_X12_undo M1 (fun r2 M2 => Good N r1 r2 M2)) := by
  obtain ⟨t, b, p, hp, hx, hy⟩ := hi
  refine x_undo hx hp (fun hu M1 hx1 o1 => ?_) (fun hu M1 hx1 o1 => ?_)
  · exact y_undo (hy.st o1) hp (fun _ M2 hy2 o2 => fin (hp.und hu) (hx1.st o2) hy2 (by decide)) (fun z => absurd z hu)
  · exact y_undo (hy.st o1) hp (fun z => absurd hu z) (fun _ M2 hy2 o2 => fin1 hp.ref (hx1.st o2) hy2 (by decide))
/-! a day passes -/
theorem x_pi40' {M0 : Mem} {Q : Mem → Prop} {T : TS} {W : TW} (h6 : wPn W ≤ 6) (hs : SX M0 40 W T) (hd : dayX M0 52 W T) (h : ∀ M', offS 40 M0 M' → SX M' 40 W (passP W T) → M' 40 4 = M0 40 4 → Q M') :
    ∀ (d k : Nat) (M : Mem), k + d = 6 → (∀ a, a ≠ 41 → M a = M0 a) → (∀ q : Nat, q < k → q < wPn W → M 41 q = walkP W T 8 q) → m_X6_passInto_L2 Q 40 52 (d + 1) k M
  | 0, k, M, hk, h1, h2 => by
    unfold m_X6_passInto_L2
    refine ⟨by omega, fun _ M1 e1 M2 e2 => ?_, fun q => by omega⟩
    rw [show (40 : Int) + 2 = 42 from rfl] at e1
    have d0 : M1 40 0 = sDay T := by rw [e1, up_ne _ (by decide), h1 40 (by decide)]; exact hs.2.1
    refine h M2 (fun a ha => by rw [e2, up_ne _ (by omega), e1, up_ne _ (by omega), h1 a (by omega)]) ⟨by decide, ?_, ?_, fun q hq => ?_, ?_, fun i hi => by simp [passP, sRe] at hi⟩ (by rw [e2]; simp only [up_get]; rw [if_neg (by decide), e1, up_ne _ (by decide), h1 40 (by decide)])
    · rw [e2, d0]; simp [up_get, passP]
    · rw [e2]
      simp only [up_get]
      rw [if_neg (by decide), e1, up_ne _ (by decide), h1 40 (by decide)]
      exact hs.2.2.1
    · rw [show (40 : Int) + 1 = 41 from rfl, e2, up_ne _ (by decide), e1, up_ne _ (by decide), h2 q (by omega) hq]
      rfl
    · rw [e2, up_ne _ (by decide), e1]; simp [up_get, passP, sRe]
  | d + 1, k, M, hk, h1, h2 => by
    unfold m_X6_passInto_L2 m_X10_spotOf
    refine ⟨by omega, fun q => by omega, fun _ => ⟨by decide, by omega, by omega, fun M1 e1 => ?_⟩⟩
    rw [show (52 : Int) + 1 = 53 from rfl, show (40 : Int) + 1 = 41 from rfl, h1 53 (by decide)] at e1
    refine x_pi40' h6 hs hd h d (k + 1) M1 (by omega) (fun a ha => by rw [e1, up_ne _ ha, h1 a ha]) (fun q q1 q2 => ?_)
    rw [e1]
    simp only [up_get]
    by_cases c : q = k
    · subst c
      rw [if_pos ⟨trivial, rfl⟩]
      have := hd.1 8 q (by omega) q2
      rwa [show (52 : Int) + 1 = 53 from rfl, show 6 * ((8 : Nat) : Int) + q = 6 * 8 + q by omega] at this
    · rw [if_neg (by omega)]
      exact h2 q (by omega) q2
noncomputable def dayP (p : PT) : PT := wSK p (passP (pW p) (pS p)) (pK p ++ [rowP (pW p) (pS p)])
theorem POK.day (hp : POK N p) (hd : sDay (pS p) < 999) : POK N (dayP p) := by
  have d0 := hp.2.2.1.1.1.1
  have l8 := hp.2.2.1.1.2.1
  have kd := hp.2.2.1.1.2.2
  have tr := trN_rng (pW p) (pS p) (sRe (pS p)) (sRe (pS p)).length
  refine hp.scene ⟨hp.2.2.1.1.1.pass hd, by simp [passP, sRe], ?_⟩ (fun q hq => ?_) (fun j hj => ?_)
  · show (((pK p ++ [rowP (pW p) (pS p)]).length : Nat) : Int) ≤ sDay (pS p) + 1
    rw [List.length_append]
    simp
    omega
  · rcases List.mem_append.mp hq with z | z
    · exact hp.2.2.1.2 q z
    · rw [List.mem_singleton.mp z]
      exact ⟨d0, by show sDay (pS p) ≤ 999; omega, by show 0 ≤ (((sRe (pS p)).length : Nat) : Int); omega, by show (((sRe (pS p)).length : Nat) : Int) ≤ 9; omega, tr.1, by show trN _ _ _ _ ≤ 9; omega⟩
  · have := (hp.2.2.2.2 j hj).2.1
    rw [List.length_append]
    omega
theorem x_pass {Q : Mem → Prop} (hx : IX M t p) (hp : POK N p) (hd : dayX M 52 (pW p) (pS p)) (hl : sDay (pS p) < 999) (h : ∀ M', IX M' t (dayP p) → stX M M' → Q M') : m_X11_pass 52 M Q := by
  have d0 := hp.2.2.1.1.1.1
  have kdd := hp.2.2.1.1.2.2
  have e4 : M 40 4 = _ := hx.2.2.1.2.1
  have e0 : M 40 0 = _ := hx.2.2.1.1.2.1
  have e2 : M 42 0 = _ := hx.2.2.1.1.2.2.2.2.1
  unfold m_X11_pass m_X3_keep
  refine ⟨by decide, x_trueOnes (by decide) (by decide) hx.2.2.1.1.2.2.2.2 hp.2.1.1 hp.2.2.1.1.1.2.2.2.2 hd ?_⟩
  dsimp only
  rw [e4, e0]
  refine ⟨by decide, by omega, fun _ => ⟨by omega, fun M1 f1 => ⟨by omega, fun M2 f2 => ⟨by omega, fun M3 f3 M4 f4 => ?_⟩⟩⟩, fun q => by omega⟩
  rw [show (40 : Int) + 2 = 42 from rfl, f1, up_ne _ (by decide), ← f1, e2] at f2
  have z3 : ∀ a, a ≠ 64 → M3 a = M a := fun a ha => by rw [f3, up_ne _ ha, f2, up_ne _ ha, f1, up_ne _ ha]
  rw [z3 40 (by decide), e4] at f4
  have z4 : ∀ a, a ≠ 64 → a ≠ 40 → M4 a = M a := fun a a1 a2 => by rw [f4, up_ne _ a2, z3 a a1]
  have s4 : SX M4 40 (pW p) (pS p) := by
    obtain ⟨h1, h2, h3, h4, h5⟩ := hx.2.2.1.1
    refine ⟨h1, ?_, ?_, ?_, ?_⟩
    · rw [f4]; simp only [up_get]; rw [if_neg (by decide), z3 40 (by decide)]; exact h2
    · rw [f4]; simp only [up_get]; rw [if_neg (by decide), z3 40 (by decide)]; exact h3
    · rw [z4 _ (by decide) (by decide)]; exact h4
    · exact h5.off (by rw [z4 _ (by decide) (by decide)]) (by rw [z4 _ (by decide) (by decide)]) (by rw [z4 _ (by decide) (by decide)]) (by rw [z4 _ (by decide) (by decide)])
  have d4 : dayX M4 52 (pW p) (pS p) := by
    unfold dayX at *
    rw [z4 _ (by decide) (by decide), z4 _ (by decide) (by decide)]
    exact hd
  have k4 : M4 40 4 = ((pK p).length : Nat) + 1 := by rw [f4]; simp [up_get]
  refine ⟨by decide, by decide, 7, x_pi40' hp.2.1.1.2.1 s4 d4 (fun M5 o5 s5 k5 M6 f6 => ?_) 6 0 M4 rfl (fun _ _ => rfl) (fun q hq => by omega)⟩
  have z6 : ∀ a, a ≠ 0 → M6 a = M5 a := fun a ha => by rw [f6, up_ne _ ha]
  have z60 : ∀ k, k ≠ 8 → M6 0 k = M 0 k := fun k hk => by
    rw [f6]
    simp only [up_get]
    rw [if_neg (fun y => hk y.2), o5 0 (by decide), z4 0 (by decide) (by decide)]
  refine h M6 (hx.scene (fun a a1 a2 a3 => by rw [z6 a a1, o5 a a2, z4 a a3 (by omega)]) (fun k k1 _ => z60 k k1) (z60 13 (by decide)) (by rw [f6]; simp [up_get]) (s5.rows (fun a a1 a2 => z6 a (by omega))) ?_ (fun k hk => ?_)) (fun a ha => by rw [z6 a (by omega), o5 a (by omega), z4 a (by omega) (by omega)])
  · rw [z6 40 (by decide), k5, k4, List.length_append]
    simp
  · rw [List.length_append] at hk
    simp only [List.length_cons, List.length_nil] at hk
    rw [z6 64 (by decide), o5 64 (by decide), f4, up_ne _ (by decide), f3, f2, f1, getD_app]
    simp only [up_get, true_and]
    by_cases c : k < (pK p).length
    · rw [if_pos c, if_neg (by omega), if_neg (by omega), if_neg (by omega), if_neg (by omega), if_neg (by omega), if_neg (by omega), if_neg (by omega), if_neg (by omega), if_neg (by omega)]
      exact hx.2.2.1.2.2 k c
    · have e : k = (pK p).length := by omega
      subst e
      simp only [Nat.lt_irrefl, if_false, if_true]
      refine ⟨?_, ?_, ?_⟩
      · rw [if_neg (by omega), if_neg (by omega)]; rfl
      · rw [if_neg (by omega)]; rfl
      · rfl
theorem y_pass0 {Q : Int → Mem → Prop} (hy : IY M b p) (hp : POK N p) (h : ∀ M', IY M' b (dayP p) → stY M M' → Q (agP (pW p) (pS p)) M') : m_X12_passes 0 M Q := by
  refine y_passes hy.2.1.2.1 hy.2.2.1.1 hp.2.1.1 hp.2.2.1.1.1 hy.2.1.1 hy.2.2.1.2 fun M1 o1 s1 k1 _ => h M1 (hy.scene hp o1 s1 k1 (fun j hj => ?_)) o1.st
  rw [List.take_append_of_le_length ((hp.2.2.2.2 j hj).2.1)]
/-! days -/
noncomputable def dysP : Nat → Int → PT → Int × PT
  | 0, c, p => (c, p)
  | d + 1, c, p => dysP d (c + agP (pW p) (pS p)) (dayP p)
theorem dysP_ok : ∀ (d : Nat) (c : Int) (p : PT), POK N p → sDay (pS p) + d ≤ 999 → POK N (dysP d c p).2 ∧ c ≤ (dysP d c p).1 ∧ (dysP d c p).1 ≤ c + d
  | 0, c, p, h, _ => ⟨h, by show c ≤ c; omega, by show c ≤ c + (0 : Nat); omega⟩
  | d + 1, c, p, h, hd => by
    have := dysP_ok d (c + agP (pW p) (pS p)) (dayP p) (h.day (by omega)) (by show sDay (pS p) + 1 + d ≤ 999; omega)
    have a := agP_01 (pW p) (pS p)
    exact ⟨this.1, by show c ≤ (dysP d _ _).1; omega, by show (dysP d _ _).1 ≤ _; omega⟩
theorem x_days_l {Q : Int → Mem → Prop} {n : Nat} {M0 : Mem} : ∀ (d k : Nat) (c : Int) (p : PT) (M : Mem), POK N p → k + d = n → n ≤ 40 → sDay (pS p) + d ≤ 999 → IX M t p → stX M0 M → (∀ M', IX M' t (dysP d c p).2 → stX M0 M' → Q (dysP d c p).1 M') → m_X11_days_L34 Q n (d + 1) c k M
  | 0, k, c, p, M, hp, hk, hn, hd, hx, s0, h => by
    unfold m_X11_days_L34
    exact ⟨by omega, by omega, fun _ => h M hx s0, fun q => by omega⟩
  | d + 1, k, c, p, M, hp, hk, hn, hd, hx, s0, h => by
    unfold m_X11_days_L34
    refine ⟨by omega, by omega, fun q => by omega, fun _ => x_thisDay hx hp fun M1 hx1 o1 d1 => ⟨by decide, x_agreesWith (by decide) (by decide) hx1.2.2.1.1.2.2.2.2 hp.2.1.1 hp.2.2.1.1.1 d1 ?_⟩⟩
    have go : ∀ r, r = agP (pW p) (pS p) → m_X11_days_J66 (m_X11_days_L34 Q n (d + 1)) Q n k 52 c r M1 := fun r er => by
      unfold m_X11_days_J66
      refine x_pass hx1 hp d1 (by omega) fun M2 hx2 o2 => ?_
      refine x_days_l d (k + 1) (c + r) (dayP p) M2 (hp.day (by omega)) (by omega) hn (by show sDay (pS p) + 1 + d ≤ 999; omega) hx2 ((s0.tr o1).tr o2) ?_
      rw [er]
      exact h
    rcases agP_01 (pW p) (pS p) with y | y
    · rw [y]; exact ⟨by decide, fun _ => go 0 y.symm, fun z => absurd rfl z⟩
    · rw [y]; exact ⟨by decide, fun z => absurd z (by decide), fun _ => go 1 y.symm⟩
theorem y_days_l {Q : Int → Mem → Prop} {n : Nat} {M0 : Mem} : ∀ (d k : Nat) (c : Int) (p : PT) (M : Mem), POK N p → k + d = n → n ≤ 40 → sDay (pS p) + d ≤ 999 → IY M b p → stY M0 M → (∀ M', IY M' b (dysP d c p).2 → stY M0 M' → Q (dysP d c p).1 M') → m_X12_days_L25 Q n (d + 1) c k M
  | 0, k, c, p, M, hp, hk, hn, hd, hx, s0, h => by
    unfold m_X12_days_L25
    exact ⟨by omega, by omega, fun _ => h M hx s0, fun q => by omega⟩
  | d + 1, k, c, p, M, hp, hk, hn, hd, hx, s0, h => by
    unfold m_X12_days_L25
    refine ⟨by omega, by omega, fun q => by omega, fun _ => y_pass0 hx hp fun M1 hy1 o1 => ?_⟩
    have go : ∀ r, r = agP (pW p) (pS p) → m_X12_days_J44 (m_X12_days_L25 Q n (d + 1)) Q n k c r M1 := fun r er => by
      unfold m_X12_days_J44
      refine y_days_l d (k + 1) (c + r) (dayP p) M1 (hp.day (by omega)) (by omega) hn (by show sDay (pS p) + 1 + d ≤ 999; omega) hy1 (s0.tr o1) ?_
      rw [er]
      exact h
    rcases agP_01 (pW p) (pS p) with y | y
    · rw [y]; exact ⟨by decide, fun _ => go 0 y.symm, fun z => absurd rfl z⟩
    · rw [y]; exact ⟨by decide, fun z => absurd z (by decide), fun _ => go 1 y.symm⟩
theorem s_days {a : Int} (hi : Inv N M) (ha : inI a) : m_X11_days a M (fun r1 M1 => m_X12_days a M1 (fun r2 M2 => Good N r1 r2 M2)) := by
  obtain ⟨t, b, p, hp, hx, hy⟩ := hi
  have m1 := most_le hp
  have xno : ¬ (1 ≤ a ∧ a ≤ 40 ∧ a ≤ 999 - sDay (pS p)) → m_X11_days_J13 (fun r1 M1 => m_X12_days a M1 (fun r2 M2 => Good N r1 r2 M2)) M := fun q => by
    unfold m_X11_days_J13
    refine x_refuse (by decide) ?_
    have hy1 : IY (up M 198 2 (M 198 2 + 1)) b p := hy.st (stX.up rfl (by decide))
    unfold m_X12_days
    exact y_isAhead hy1 hp ha (by decide) rfl (fun q1 q2 q3 => absurd ⟨q1, q2, q3⟩ q) (fun _ => ⟨by decide, fun _ => y_refuses (by decide) (fin1 hp.ref (hx.ref.st (stY.up rfl (by decide))) hy1.ref (by decide)), fun z => absurd rfl z⟩)
  unfold m_X11_days
  refine ⟨ha, fun q => xno (by omega), fun q1 => x_daysAhead hx hp ?_⟩
  rw [m1.2.2.1]
  have mk := m1.2.2.2 a
  refine ⟨ha, by omega, fun q2 => ?_, fun q => xno (fun z => by omega)⟩
  obtain ⟨n, rfl⟩ : ∃ n : Nat, a = n := ⟨a.toNat, by omega⟩
  refine x_remember hx hp fun M1 hx1 o1 => ⟨_, x_days_l (M0 := M) n 0 0 (remP p) M1 hp.rem (by omega) (by omega) (by show sDay (pS p) + n ≤ 999; omega) hx1 o1 (fun M2 hx2 o2 => ?_)⟩
  have hy2 := hy.st o2
  have ok := dysP_ok (N := N) n 0 (remP p) hp.rem (by show sDay (pS p) + n ≤ 999; omega)
  unfold m_X12_days
  refine y_isAhead hy2 hp ha (by decide) rfl (fun _ _ _ => ⟨by decide, fun z => absurd z (by decide), fun _ => ?_⟩) (fun z => by omega)
  refine y_keeps hy2 hp fun M3 hy3 o3 => ⟨_, y_days_l (M0 := M2) n 0 0 (remP p) M3 hp.rem (by omega) (by omega) (by show sDay (pS p) + n ≤ 999; omega) hy3 o3 (fun M4 hy4 o4 => ?_)⟩
  exact fin ok.1 (hx2.st o4) hy4 (by omega)
end
