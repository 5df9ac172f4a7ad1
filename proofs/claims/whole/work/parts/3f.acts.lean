/-! acts -/
def wSK (p : PT) (S : TS) (K : List (Int × Int × Int)) : PT := (pTp p, pRf p, pFa p, pW p, p.2.2.2.2.1, S, K, pU p, pSe p, pIm p, pSd p)
def wU (p : PT) (U : List (TS × Nat)) : PT := (pTp p, pRf p, pFa p, pW p, p.2.2.2.2.1, pS p, pK p, U, pSe p, pIm p, pSd p)
def remP (p : PT) : PT := wU p (((pS p, (pK p).length) :: pU p).take 20)
theorem take_get {α : Type} {l : List α} {d : α} {n k : Nat} (h : k < n) : (l.take n).getD k d = l.getD k d := by simp [List.getD, h]
theorem tmod20 {n : Int} (h : 0 ≤ n) : n.tmod 20 = n % 20 := Int.tmod_eq_emod_of_nonneg h
theorem scene_slot {i : Int} (h : 0 ≤ i ∧ i < 20) : kd (65 + 6 * i) = 6 := by
  have : ∀ n : Nat, n < 20 → kd (65 + 6 * (n : Int)) = 6 := by decide +kernel
  have e := this i.toNat (by omega)
  rwa [step_of h.1] at e
section
variable {N : Nat} {t b : Int} {p : PT} {M : Mem}
theorem rem_len : (pU (remP p)).length = min 20 ((pU p).length + 1) := by
  show (((pS p, (pK p).length) :: pU p).take 20).length = _
  rw [List.length_take, List.length_cons]
theorem rem_get {j : Nat} (h : j < 20) : (pU (remP p)).getD j dU = ((pS p, (pK p).length) :: pU p).getD j dU := take_get h
theorem POK.rem (hp : POK N p) : POK N (remP p) := by
  obtain ⟨h1, h2, h3, h4, h5⟩ := hp
  refine ⟨h1, h2, h3, ?_, fun j hj => ?_⟩
  · rw [rem_len]; omega
  · rw [rem_len] at hj
    rw [rem_get (by omega)]
    cases j with
    | zero => exact ⟨h3.1, Nat.le_refl _, fun i hi => by omega⟩
    | succ j =>
      obtain ⟨k1, k2, k3⟩ := h5 j (by omega)
      refine ⟨k1, k2, fun i hi => ?_⟩
      rw [rem_get (by omega)]
      cases i with
      | zero => exact k2
      | succ i => exact k3 i (by omega)
theorem x_remember {Q : Mem → Prop} (hx : IX M t p) (hp : POK N p) (h : ∀ M', IX M' t (remP p) → stX M M' → Q M') : m_X3_remember 40 M Q := by
  obtain ⟨x1, x2, x3, x4, x5⟩ := hx
  obtain ⟨u1, u2, u3, u4⟩ := x4
  have l20 := hp.2.2.2.1
  unfold m_X3_remember
  refine ⟨by decide, by omega, fun M1 e1 => ?_⟩
  rw [tmod20 (by omega)] at e1
  have n1 : M1 62 1 = (M 62 1 + 1) % 20 := by rw [e1]; simp [up_get]
  rw [n1]
  have ks := scene_slot (i := (M 62 1 + 1) % 20) (by omega)
  refine ⟨by omega, ?_⟩
  have s40 : SX M1 40 (pW p) (pS p) := x3.1.rows (fun a a1 a2 => by rw [e1, up_ne _ (by omega)])
  refine x_copy (by rw [show (63 : Int) + 2 + 6 * ((M 62 1 + 1) % 20) = 65 + 6 * ((M 62 1 + 1) % 20) by omega]; exact ks) s40 hp.2.2.1.1.1 hp.2.1.1 (by omega) fun M2 o2 s2 k2 => ?_
  rw [show (63 : Int) + 2 + 6 * ((M 62 1 + 1) % 20) = 65 + 6 * ((M 62 1 + 1) % 20) by omega] at o2 s2 k2
  generalize hi : (M 62 1 + 1) % 20 = i at *
  have i20 : 0 ≤ i ∧ i < 20 := by omega
  have a2 : M2 62 2 = ((pU p).length : Nat) := by
    rw [o2 62 (by omega), e1]
    simp [up_get, u1]
  rw [a2]
  refine j_min (by omega) (by decide) fun M3 e3 => ?_
  have ln : (if (20 : Int) < ((pU p).length : Int) + 1 then (20 : Int) else ((pU p).length : Int) + 1) = ((pU (remP p)).length : Int) := by
    rw [rem_len]
    split <;> omega
  rw [ln] at e3
  have z : ∀ a, a ≠ 62 → (a < 65 + 6 * i ∨ 65 + 6 * i + 5 < a) → M3 a = M a := fun a a1 a2 => by rw [e3, up_ne _ a1, o2 a a2, e1, up_ne _ a1]
  have q1 : M3 62 1 = i := by
    rw [e3]
    simp only [up_get]
    rw [if_neg (by decide), o2 62 (by omega), n1]
  have kt := isTown x2.2.2.1.1
  refine h M3 ⟨?_, ⟨?_, ?_, ?_, ?_⟩, ⟨?_, ?_, ?_⟩, ⟨?_, by omega, by omega, fun j hj => ?_⟩, ?_⟩ (fun a ha => z a (by omega) (by omega))
  · unfold aX rw1 rw3 at *
    rw [z 1 (by decide) (by omega), z 2 (by decide) (by omega), z 3 (by decide) (by omega), z 198 (by decide) (by omega), z 188 (by decide) (by omega), z 185 (by decide) (by omega), z 186 (by decide) (by omega), z 187 (by decide) (by omega), z 0 (by decide) (by omega)]
    exact x1
  · rw [z 0 (by decide) (by omega)]; exact x2.1
  · rw [z 0 (by decide) (by omega)]; exact x2.2.1
  · exact x2.2.2.1.rows (fun a a1 a2 => z a (by omega) (by omega))
  · rw [z t (by omega) (by omega), z (t + 1) (by omega) (by omega), z (t + 4) (by omega) (by omega)]
    exact x2.2.2.2
  · exact x3.1.rows (fun a a1 a2 => z a (by omega) (by omega))
  · rw [z 40 (by decide) (by omega)]; exact x3.2.1
  · unfold rw3 at *
    rw [z 64 (by decide) (by omega)]
    exact x3.2.2
  · rw [e3]; simp [up_get]
  · rw [rem_len] at hj
    rw [rem_get (by omega), q1]
    cases j with
    | zero =>
      have e0 : slX i 0 = 65 + 6 * i := by unfold slX; omega
      rw [e0]
      refine ⟨s2.rows (fun a a1 a2 => by rw [e3, up_ne _ (by omega)]), ?_⟩
      rw [e3, up_ne _ (by omega), k2, e1, up_ne _ (by decide)]
      exact x3.2.1
    | succ j =>
      obtain ⟨m1, m2⟩ := u4 j (by omega)
      have e0 : slX i (j + 1) = slX (M 62 1) j := by unfold slX; omega
      have ne : slX (M 62 1) j + 5 < 65 + 6 * i ∨ 65 + 6 * i + 5 < slX (M 62 1) j := by unfold slX; omega
      have rg : 65 ≤ slX (M 62 1) j := by unfold slX; omega
      rw [e0]
      refine ⟨m1.rows (fun a a1 a2 => z a (by omega) (by omega)), ?_⟩
      rw [z _ (by omega) (by omega)]
      exact m2
  · unfold dX dayX at *
    rw [z 0 (by decide) (by omega), z (52 + 1) (by decide) (by omega), z (52 + 2) (by decide) (by omega)]
    exact x5
/-- the model's states other than v stay -/
theorem IY.oth {M' : Mem} {v : Int} (hy : IY M b p) (hp : POK N p) (e : othY v M M') (hv : v = 0 ∨ v = 1) : aY M' p ∧ tY M' b p ∧ (M' 199 = M 199) := by
  obtain ⟨h1, h2, h3, h4⟩ := hy
  refine ⟨?_, ?_, e.1 199 (by decide)⟩
  · unfold aY rw1 at *
    rw [e.1 199 (by decide), e.1 200 (by decide), e.1 226 (by decide), e.1 237 (by decide), e.1 238 (by decide), e.1 239 (by decide), e.1 241 (by decide)]
    exact h1
  · obtain ⟨k1, k2, k3⟩ := h2
    refine ⟨?_, k2.oth e, ?_⟩
    · rw [e.1 199 (by decide), k1]
    · rw [e.1 218 (by decide), e.1 219 (by decide), e.1 202 (by decide), e.1 213 (by decide)]
      exact k3
theorem y_ke_32 {Q : Mem → Prop} {M1 : Mem} {f : Int} {n : Nat} (hy : IY M b p) (hp : POK N p) (e1 : ∀ a, a ≠ 199 → M1 a = M a) (e2 : ∀ k, k ≠ 54 → k ≠ 55 → M1 199 k = M 199 k) (ef : M1 199 54 = f) (en : M1 199 55 = (n : Nat)) (f20 : 0 ≤ f ∧ f < 20) (n20 : n < 20) (hn : n + 1 = (pU (remP p)).length) (hs : ∀ j : Nat, j + 1 < n + 1 → slY f (n + 1) (j + 1) = slY (M 199 54) (pU p).length j) (h : ∀ M', IY M' b (remP p) → stY M M' → Q M') : m_X12_keeps_J32 Q M1 := by
  obtain ⟨h1, h2, h3, ⟨u1, u2, u3, u4⟩⟩ := hy
  have sy : ∀ v S, SY M v (pW p) S → SY M1 v (pW p) S := fun v S z => z.off (e1 _ (by decide)) (e1 _ (by decide)) (e1 _ (by decide)) (e1 _ (by decide)) (e1 _ (by decide))
  have ky : ∀ v l, KY M v l → KY M1 v l := fun v l z => by
    unfold KY at *
    rw [e1 232 (by decide), e1 233 (by decide)]
    exact z
  unfold m_X12_keeps_J32 m_X12_slot
  rw [ef, en, tmod20 (by omega)]
  refine ⟨by omega, ?_⟩
  refine y_copies (by omega) (by omega) (sy _ _ h3.1) hp.2.2.1.1.1 hp.2.1.1 (ky _ _ h3.2) fun M2 o2 s2 k2 M3 e3 => ?_
  generalize hv : 2 + (f + (n : Int)) % 20 = v at *
  have v2 : 2 ≤ v ∧ v < 22 := by omega
  rw [o2.1 199 (by decide), en] at e3
  have z : ∀ a, a ≠ 199 → (a < 227 ∨ 236 < a) → M3 a = M a := fun a a1 a2 => by rw [e3, up_ne _ a1, o2.1 a (by simp; omega), e1 a a1]
  have z1 : ∀ k, k ≠ 54 → k ≠ 55 → M3 199 k = M 199 k := fun k k1 k2 => by
    rw [e3]
    simp only [up_get]
    rw [if_neg (fun y => k2 y.2), o2.1 199 (by decide), e2 k k1 k2]
  have q54 : M3 199 54 = f := by
    rw [e3]
    simp only [up_get]
    rw [if_neg (by decide), o2.1 199 (by decide), ef]
  have sy3 : ∀ w S, SY M2 w (pW p) S → SY M3 w (pW p) S := fun w S y => y.off (by rw [e3, up_ne _ (by decide)]) (by rw [e3, up_ne _ (by decide)]) (by rw [e3, up_ne _ (by decide)]) (by rw [e3, up_ne _ (by decide)]) (by rw [e3, up_ne _ (by decide)])
  have ky3 : ∀ w l, KY M2 w l → KY M3 w l := fun w l y => by
    unfold KY at *
    rw [e3, up_ne _ (by decide), up_ne _ (by decide)]
    exact y
  refine h M3 ⟨?_, ⟨?_, ?_, ?_⟩, ⟨?_, ?_⟩, ⟨?_, by omega, by omega, fun j hj => ?_⟩⟩ (fun a ha => z a (by omega) (by omega))
  · unfold aY rw1 at *
    rw [z 200 (by decide) (by decide), z 226 (by decide) (by decide), z 237 (by decide) (by decide), z 238 (by decide) (by decide), z 239 (by decide) (by decide), z 241 (by decide) (by decide), z1 1 (by decide) (by decide), z1 10 (by decide) (by decide), z1 11 (by decide) (by decide), z1 60 (by decide) (by decide), z1 66 (by decide) (by decide), z1 56 (by decide) (by decide)]
    exact h1
  · rw [z1 13 (by decide) (by decide)]; exact h2.1
  · exact h2.2.1.off (fun a a1 a2 => z a (by omega) (by omega))
  · rw [z 218 (by decide) (by decide), z 219 (by decide) (by decide), z 202 (by decide) (by decide), z 213 (by decide) (by decide)]
    exact h2.2.2
  · exact sy3 _ _ ((sy _ _ h3.1).oth hp.2.2.1.1.1 hp.2.1.1 o2 (by omega))
  · exact ky3 _ _ ((ky _ _ h3.2).oth o2 (by omega))
  · rw [e3]
    simp only [up_get]
    rw [if_pos ⟨trivial, trivial⟩]
    omega
  · rw [← hn] at hj
    rw [q54, ← hn, rem_get (by omega)]
    cases j with
    | zero =>
      have e0 : slY f (n + 1) 0 = v := by unfold slY; omega
      rw [e0]
      refine ⟨sy3 _ _ s2, ky3 _ _ ?_⟩
      show KY M2 v ((pK p).take (pK p).length)
      rw [List.take_length]
      exact k2
    | succ j =>
      rw [hs j (by omega)]
      rw [rem_len] at hn
      have ne : slY (M 199 54) (pU p).length j ≠ v := by
        rw [← hs j (by omega)]
        unfold slY
        omega
      obtain ⟨m1, m2⟩ := u4 j (by omega)
      have so := (hp.2.2.2.2 j (by omega)).1.1
      exact ⟨sy3 _ _ ((sy _ _ m1).oth so hp.2.1.1 o2 ne), ky3 _ _ ((ky _ _ m2).oth o2 ne)⟩
theorem y_keeps {Q : Mem → Prop} (hy : IY M b p) (hp : POK N p) (h : ∀ M', IY M' b (remP p) → stY M M' → Q M') : m_X12_keeps M Q := by
  obtain ⟨u1, u2, u3, u4⟩ := hy.2.2.2
  have l20 := hp.2.2.2.1
  unfold m_X12_keeps
  rw [u1]
  refine ⟨by omega, fun q => ⟨by omega, fun M1 e1 M2 e2 => ?_⟩, fun q => ?_⟩
  · rw [tmod20 (by omega)] at e1
    have a1 : M1 199 55 = 20 := by
      rw [e1]
      simp only [up_get]
      rw [if_neg (by decide), u1, q]
    rw [a1] at e2
    refine y_ke_32 (n := 19) hy hp (fun a ha => by rw [e2, up_ne _ ha, e1, up_ne _ ha]) (fun k k1 k2 => ?_) (show M2 199 54 = (M 199 54 + 1) % 20 from ?_) ?_ (by omega) (by decide) ?_ (fun j hj => ?_) h
    · rw [e2, e1]
      simp only [up_get]
      rw [if_neg (fun y => k2 y.2), if_neg (fun y => k1 y.2)]
    · rw [e2, e1]; simp [up_get]
    · rw [e2]; simp [up_get]
    · rw [rem_len]; omega
    · unfold slY; omega
  · refine y_ke_32 (n := (pU p).length) hy hp (fun _ _ => rfl) (fun _ _ _ => rfl) rfl u1 ⟨u2, u3⟩ (by omega) (by rw [rem_len]; omega) (fun j hj => ?_) h
    unfold slY
    omega
/-- the scene now, and what is kept, change -/
theorem IX.scene {M' : Mem} {S : TS} {K : List (Int × Int × Int)} (hx : IX M t p) (e : ∀ a, a ≠ 0 → (a < 40 ∨ 45 < a) → a ≠ 64 → M' a = M a) (e0 : ∀ k, k ≠ 8 → k ≠ 13 → M' 0 k = M 0 k) (e13 : M' 0 13 = M 0 13) (e8 : M' 0 8 = 0) (hs : SX M' 40 (pW p) S) (hk : M' 40 4 = (K.length : Nat)) (hr : rw3 M' 64 K) : IX M' t (wSK p S K) := by
  obtain ⟨x1, x2, x3, x4, x5⟩ := hx
  have kt := isTown x2.2.2.1.1
  refine ⟨?_, ⟨?_, ?_, ?_, ?_⟩, ⟨hs, hk, hr⟩, ?_, Or.inl e8⟩
  · unfold aX rw1 rw3 at *
    rw [e 1 (by decide) (by decide) (by decide), e 2 (by decide) (by decide) (by decide), e 3 (by decide) (by decide) (by decide), e 198 (by decide) (by decide) (by decide), e 188 (by decide) (by decide) (by decide), e 185 (by decide) (by decide) (by decide), e 186 (by decide) (by decide) (by decide), e 187 (by decide) (by decide) (by decide), e13]
    exact x1
  · rw [e0 2 (by decide) (by decide)]; exact x2.1
  · rw [e0 3 (by decide) (by decide)]; exact x2.2.1
  · exact x2.2.2.1.rows (fun a a1 a2 => e a (by omega) (by omega) (by omega))
  · rw [e t (by omega) (by omega) (by omega), e (t + 1) (by omega) (by omega) (by omega), e (t + 4) (by omega) (by omega) (by omega)]
    exact x2.2.2.2
  · obtain ⟨u1, u2, u3, u4⟩ := x4
    unfold uX
    rw [e 62 (by decide) (by decide) (by decide)]
    refine ⟨u1, u2, u3, fun j hj => ?_⟩
    obtain ⟨m1, m2⟩ := u4 j hj
    have : 65 ≤ slX (M 62 1) j ∧ slX (M 62 1) j ≤ 179 := by unfold slX; omega
    refine ⟨m1.rows (fun a a1 a2 => e a (by omega) (by omega) (by omega)), ?_⟩
    rw [e _ (by omega) (by omega) (by omega)]
    exact m2
theorem IY.scene {M' : Mem} {S : TS} {K : List (Int × Int × Int)} (hy : IY M b p) (hp : POK N p) (e : othY 0 M M') (hs : SY M' 0 (pW p) S) (hk : KY M' 0 K) (ht : ∀ j : Nat, j < (pU p).length → K.take ((pU p).getD j dU).2 = (pK p).take ((pU p).getD j dU).2) : IY M' b (wSK p S K) := by
  obtain ⟨a1, a2, a3⟩ := hy.oth hp e (Or.inl rfl)
  obtain ⟨u1, u2, u3, u4⟩ := hy.2.2.2
  refine ⟨a1, a2, ⟨hs, hk⟩, ?_⟩
  unfold uY
  rw [a3]
  refine ⟨u1, u2, u3, fun j hj => ?_⟩
  obtain ⟨m1, m2⟩ := u4 j hj
  have so := (hp.2.2.2.2 j hj).1.1
  have ne : slY (M 199 54) (pU p).length j ≠ 0 := by unfold slY; omega
  refine ⟨m1.oth so hp.2.1.1 e ne, ?_⟩
  show KY M' (slY (M 199 54) (pU p).length j) (K.take ((pU p).getD j dU).2)
  rw [ht j hj]
  exact m2.oth e ne
theorem POK.scene {S : TS} {K : List (Int × Int × Int)} (hp : POK N p) (hs : sceneOK (pW p) S K.length) (hr : ∀ q ∈ K, rowOK q) (hu : ∀ j : Nat, j < (pU p).length → ((pU p).getD j dU).2 ≤ K.length) : POK N (wSK p S K) := by
  obtain ⟨h1, h2, h3, h4, h5⟩ := hp
  refine ⟨h1, h2, ⟨hs, hr⟩, h4, fun j hj => ?_⟩
  obtain ⟨k1, k2, k3⟩ := h5 j hj
  exact ⟨k1, hu j hj, k3⟩
end
