/-! what was seen -/
def rows3 (l : List Int) : List (Int × Int × Int) := (List.range (l.length / 3)).map fun k => (l.getD (3 * k) 0, l.getD (3 * k + 1) 0, l.getD (3 * k + 2) 0)
theorem rows3_len (l : List Int) : (rows3 l).length = l.length / 3 := by simp [rows3]
theorem rows3_get {l : List Int} {k : Nat} (h : k < l.length / 3) : (rows3 l).getD k (0, 0, 0) = (l.getD (3 * k) 0, l.getD (3 * k + 1) 0, l.getD (3 * k + 2) 0) := by
  simp [rows3, List.getD, List.getElem?_map, h]
def rowAt (W : TW) (l : List Int) (k : Nat) : Prop := 1 ≤ l.getD (3 * k) 0 ∧ l.getD (3 * k) 0 ≤ 8 ∧ l.getD (3 * k + 1) 0 < wPl W
def seeOK (p : PT) : Prop := (pTp p).length ≠ 0 ∧ (pTp p).length % 3 = 0 ∧ (pTp p).length ≤ 48 ∧ ∀ k : Nat, k < (pTp p).length / 3 → rowAt (pW p) (pTp p) k
def wSe (p : PT) (l : List (Int × Int × Int)) : PT := ([], pRf p, pFa p, pW p, p.2.2.2.2.1, pS p, pK p, pU p, l, pIm p, pSd p)
theorem tdiv3 {n : Nat} : ((n : Int)).tdiv 3 = ((n / 3 : Nat) : Int) := by
  rw [Int.tdiv_eq_ediv_of_nonneg (by omega)]
  omega
theorem tmod3 {n : Nat} : ((n : Int)).tmod 3 = ((n % 3 : Nat) : Int) := by
  rw [Int.tmod_eq_emod_of_nonneg (by omega)]
  omega
section
variable {N : Nat} {t b : Int} {p : PT} {M : Mem}
theorem tape_b (hp : POK N p) {k : Nat} (hk : k < (pTp p).length) : 0 ≤ (pTp p).getD k 0 ∧ (pTp p).getD k 0 < 256 := hp.1.2.1 _ (getD_mem hk)
theorem x_tr_35 {Q : Int → Mem → Prop} (hx : IX M t p) (hp : POK N p) (h3 : (pTp p).length % 3 = 0) (h48 : (pTp p).length ≤ 48) (hQ : (∀ k : Nat, k < (pTp p).length / 3 → rowAt (pW p) (pTp p) k) → ∀ M1 M2, M1 = cpy M 2 0 188 0 ((pTp p).length : Nat) → M2 = up M1 187 1 ((pTp p).length / 3 : Nat) → Q 1 M2) (h0 : ¬ (∀ k : Nat, k < (pTp p).length / 3 → rowAt (pW p) (pTp p) k) → Q 0 M) :
    ∀ (d k : Nat), k + d = (pTp p).length / 3 → (∀ j : Nat, j < k → rowAt (pW p) (pTp p) j) → m_X0_takeRows_L35 Q t 2 (d + 1) (3 * k : Nat) M
  | 0, k, hk, hr => by
    have e1 := hx.1.1
    unfold m_X0_takeRows_L35
    rw [e1, ln_2]
    refine ⟨by omega, by omega, fun _ => ⟨by omega, by omega, by omega, fun M1 f1 => ?_⟩, fun q => by omega⟩
    rw [f1, cpy_ne _ (by decide), ← f1, e1, tdiv3]
    exact ⟨by omega, fun M2 f2 => hQ (fun j hj => hr j (by omega)) M1 M2 f1 f2⟩
  | d + 1, k, hk, hr => by
    have e1 := hx.1.1
    have a1 := hx.1.2.1 (3 * k) (by omega)
    have a2 := hx.1.2.1 (3 * k + 1) (by omega)
    have b1 := tape_b hp (k := 3 * k) (by omega)
    have b2 := tape_b hp (k := 3 * k + 1) (by omega)
    have w1 := hp.2.1.1.1
    have no : ¬ rowAt (pW p) (pTp p) k → Q 0 M := fun z => h0 (fun y => z (y k (by omega)))
    unfold m_X0_takeRows_L35 m_X0_takeRows_J67
    rw [e1, ln_2, a1]
    refine ⟨by omega, by omega, fun q => by omega, fun _ => ⟨by omega, x_isStep (by omega) (fun q1 q2 => ?_) (fun q => ?_)⟩⟩
    · refine ⟨by decide, fun z => absurd z (by decide), fun _ => ?_⟩
      rw [show ((3 * k : Nat) : Int) + 1 = (3 * k + 1 : Nat) by omega, a2, hx.2.1.2.2.1.2.1]
      refine ⟨by omega, by omega, by omega, fun q3 => ?_, fun q3 => no (fun z => q3 z.2.2)⟩
      have := x_tr_35 hx hp h3 h48 hQ h0 d (k + 1) (by omega) (fun j hj => ?_)
      · rwa [show ((3 * k : Nat) : Int) + 3 = (3 * (k + 1) : Nat) by omega]
      · by_cases z : j = k
        · subst z; exact ⟨q1, q2, q3⟩
        · exact hr j (by omega)
    · exact ⟨by decide, fun _ => no (fun z => q ⟨z.1, z.2.1⟩), fun z => absurd rfl z⟩
theorem x_see {Q : Int → Mem → Prop} (hx : IX M t p) (hp : POK N p) (h1 : seeOK p → ∀ M', IX M' t (wSe p (rows3 (pTp p))) → stX M M' → Q ((pTp p).length / 3 : Nat) M') (h0 : ¬ seeOK p → ∀ M', IX M' t (wRf (wTp p []) 5) → stX M M' → Q (-1) M') : m_X11_see M Q := by
  have e1 := hx.1.1
  have g1 := hp.1.1
  have no : ¬ seeOK p → ∀ M4, M4 = up M 1 1 0 → m_X11_refuse 5 M4 (fun r7 M6 => m_X11_see_J43 Q r7 M6) := fun z M4 e4 => by
    have hx4 : IX M4 t (wTp p []) := hx.tape (fun z z1 z2 => by rw [e4, up_ne _ z1]) (fun k hk => by rw [e4]; simp only [up_get]; rw [if_neg (fun z => hk z.2)]) (by rw [e4]; simp [up_get]) (fun k hk => by simp at hk)
    refine x_refuse (by decide) (h0 z _ hx4.ref ?_)
    exact (stX.up e4 (by decide)).tr (stX.up rfl (by decide))
  unfold m_X11_see m_X0_takeRows m_X0_takeRows_J30
  rw [hx.2.1.1, e1, tmod3]
  refine ⟨hx.2.1.2.2.1.1, hx.2.1.2.2.1.1, by omega, fun q => ?_, fun q => ⟨by omega, by omega, fun q2 => ⟨by omega, fun q3 => ?_, fun q3 => ?_⟩, fun q2 => ?_⟩⟩
  · intro M4 e4
    exact ⟨by decide, fun _ => no (fun z => z.1 (by omega)) M4 e4, fun z => absurd rfl z⟩
  · refine ⟨_, x_tr_35 hx hp (by omega) (by omega) (fun hr M1 M2 f1 f2 M4 e4 => ⟨by decide, fun z => absurd z (by decide), fun _ => ?_⟩) (fun hr M4 e4 => ⟨by decide, fun _ => no (fun z => hr z.2.2.2) M4 e4, fun z => absurd rfl z⟩) ((pTp p).length / 3) 0 (by omega) (fun j hj => by omega)⟩
    have l4 : M4 187 1 = ((pTp p).length / 3 : Nat) := by
      rw [e4, up_ne _ (by decide), f2]
      simp [up_get]
    have z : ∀ a, a ≠ 1 → a ≠ 187 → a ≠ 188 → M4 a = M a := fun a a1 a2 a3 => by rw [e4, up_ne _ a1, f2, up_ne _ a2, f1, cpy_ne _ a3]
    have z1 : ∀ k, k ≠ 1 → M4 1 k = M 1 k := fun k hk => by
      rw [e4]
      simp only [up_get]
      rw [if_neg (fun y => hk y.2), f2, up_ne _ (by decide), f1, cpy_ne _ (by decide)]
    show Q (M4 187 1) M4
    rw [l4]
    refine h1 ⟨by omega, by omega, by omega, hr⟩ M4 (hx.plain (fun c c1 c2 => z c (by omega) (by omega) (by omega)) (fun k _ => by rw [z 0 (by decide) (by decide) (by decide)]) rfl rfl rfl rfl rfl ?_) (fun a ha => z a (by omega) (by omega) (by omega))
    obtain ⟨x1, x2, x3, x4, x5, x6, x7, x8, x9, x10, x11⟩ := hx.1
    refine ⟨by rw [e4]; simp [up_get, wSe, pTp], fun k hk => absurd hk (Nat.not_lt_zero k), ?_, ?_, ?_, ?_, ?_, ?_, ?_, ?_, ?_⟩
    · rw [z 198 (by decide) (by decide) (by decide)]; exact x3
    · rw [z1 6 (by decide)]; exact x4
    · rw [z1 7 (by decide)]; exact x5
    · unfold rw1 at *; rw [z 3 (by decide) (by decide) (by decide)]; exact x6
    · rw [l4]; show _ = ((rows3 (pTp p)).length : Int); rw [rows3_len]
    · intro k hk
      have hk' : k < (pTp p).length / 3 := by rw [← rows3_len]; exact hk
      show M4 188 (3 * (k : Int)) = ((rows3 (pTp p)).getD k (0, 0, 0)).1 ∧ M4 188 (3 * (k : Int) + 1) = ((rows3 (pTp p)).getD k (0, 0, 0)).2.1 ∧ M4 188 (3 * (k : Int) + 2) = ((rows3 (pTp p)).getD k (0, 0, 0)).2.2
      rw [rows3_get hk', e4, up_ne _ (by decide), f2, up_ne _ (by decide), f1]
      have y1 := x2 (3 * k) (by omega)
      have y2 := x2 (3 * k + 1) (by omega)
      have y3 := x2 (3 * k + 2) (by omega)
      rw [cpy_get, cpy_get, cpy_get, if_pos (by omega), if_pos (by omega), if_pos (by omega), ← y1, ← y2, ← y3]
      exact ⟨by congr 1; omega, by congr 1; omega, by congr 1; omega⟩
    · rw [z 185 (by decide) (by decide) (by decide)]; exact x9
    · unfold rw1 at *; rw [z 186 (by decide) (by decide) (by decide)]; exact x10
    · rw [z 0 (by decide) (by decide) (by decide)]; exact x11
  · intro M4 e4
    exact ⟨by decide, fun _ => no (fun z => by have := z.2.2.1; omega) M4 e4, fun z => absurd rfl z⟩
  · intro M4 e4
    exact ⟨by decide, fun _ => no (fun z => by have := z.2.1; omega) M4 e4, fun z => absurd rfl z⟩
theorem y_se_104 {Q : Int → Mem → Prop} {M0 : Mem} {l : List Int} {n : Nat} (hl : rw1 M0 200 l) (hn : n = l.length / 3) (h16 : n ≤ 16) (h0 : M0 199 60 = (n : Nat)) (h : ∀ M', (∀ a, a ≠ 237 → a ≠ 238 → a ≠ 239 → M' a = M0 a) → (∀ k : Nat, k < n → M' 237 k = l.getD (3 * k) 0 ∧ M' 238 k = l.getD (3 * k + 1) 0 ∧ M' 239 k = l.getD (3 * k + 2) 0) → Q (n : Nat) M') :
    ∀ (d k : Nat) (M : Mem), k + d = n → (∀ a, a ≠ 237 → a ≠ 238 → a ≠ 239 → M a = M0 a) → (∀ j : Nat, j < k → M 237 j = l.getD (3 * j) 0 ∧ M 238 j = l.getD (3 * j + 1) 0 ∧ M 239 j = l.getD (3 * j + 2) 0) → m_X12_see_L104 Q (d + 1) k M
  | 0, k, M, hk, h1, h2 => by
    unfold m_X12_see_L104
    rw [h1 199 (by decide) (by decide) (by decide), h0]
    exact ⟨by omega, by omega, fun _ => h M h1 (fun j hj => h2 j (by omega)), fun q => by omega⟩
  | d + 1, k, M, hk, h1, h2 => by
    have a1 := hl (3 * k) (by omega)
    have a2 := hl (3 * k + 1) (by omega)
    have a3 := hl (3 * k + 2) (by omega)
    unfold m_X12_see_L104
    rw [h1 199 (by decide) (by decide) (by decide), h0, h1 200 (by decide) (by decide) (by decide)]
    refine ⟨by omega, by omega, fun q => by omega, fun _ => ⟨by omega, by omega, fun M1 e1 => ⟨by omega, by omega, fun M2 e2 => ⟨by omega, by omega, fun M3 e3 => ?_⟩⟩⟩⟩
    rw [show 3 * (k : Int) = (3 * k : Nat) by omega, a1] at e1
    rw [e1, up_ne _ (by decide), ← e1, h1 200 (by decide) (by decide) (by decide), show 3 * (k : Int) + 1 = (3 * k + 1 : Nat) by omega, a2] at e2
    rw [e2, up_ne _ (by decide), ← e2, e1, up_ne _ (by decide), h1 200 (by decide) (by decide) (by decide), show 3 * (k : Int) + 2 = (3 * k + 2 : Nat) by omega, a3] at e3
    refine y_se_104 hl hn h16 h0 h d (k + 1) M3 (by omega) (fun a b1 b2 b3 => by rw [e3, up_ne _ b3, e2, up_ne _ b2, e1, up_ne _ b1, h1 a b1 b2 b3]) (fun j hj => ?_)
    rw [e3, e2, e1]
    simp only [up_get]
    by_cases c : j = k
    · subst c
      simp
    · have c2 : ¬ (j : Int) = k := by omega
      simp [c2]
      have := h2 j (by omega)
      simpa using this
theorem y_se_85 {Q : Int → Mem → Prop} {M1 : Mem} (hy : IY M b p) (e1 : M1 = up M 199 1 0) (hp : POK N p) (ok : seeOK p) (h : ∀ M', IY M' b (wSe p (rows3 (pTp p))) → stY M M' → Q ((pTp p).length / 3 : Nat) M') : m_X12_see_J85 Q ((pTp p).length : Nat) 1 M1 := by
  have hl := hy.1.2.1
  have l48 := ok.2.2.1
  unfold m_X12_see_J85
  rw [tdiv3]
  refine ⟨by decide, fun z => absurd z (by decide), fun _ => ⟨by omega, fun M2 e2 => ⟨_, y_se_104 (M0 := M2) (l := pTp p) (n := (pTp p).length / 3) ?_ rfl (by omega) (by rw [e2]; simp [up_get]) (fun M3 z3 r3 => h M3 ?_ ?_) ((pTp p).length / 3) 0 M2 (by omega) (fun _ _ _ _ => rfl) (fun j hj => by omega)⟩⟩⟩
  · intro k hk
    rw [e2, up_ne _ (by decide), e1, up_ne _ (by decide)]
    exact hl k hk
  · have z : ∀ a, a ≠ 199 → a ≠ 237 → a ≠ 238 → a ≠ 239 → M3 a = M a := fun a a1 a2 a3 a4 => by rw [z3 a a2 a3 a4, e2, up_ne _ a1, e1, up_ne _ a1]
    have z1 : ∀ k, k ≠ 1 → k ≠ 60 → M3 199 k = M 199 k := fun k k1 k2 => by
      rw [z3 199 (by decide) (by decide) (by decide), e2]
      simp only [up_get]
      rw [if_neg (fun y => k2 y.2), e1]
      simp only [up_get]
      rw [if_neg (fun y => k1 y.2)]
    refine hy.plain (fun c c1 => z c (by omega) (by omega) (by omega) (by omega)) (fun k hk => z1 k (by omega) (by omega)) rfl rfl rfl rfl rfl ?_
    obtain ⟨x1, x2, x3, x4, x5, x6, x7, x8, x9, x10⟩ := hy.1
    refine ⟨?_, fun k hk => absurd hk (Nat.not_lt_zero k), ?_, ?_, ?_, ?_, fun k hk => ?_, ?_, ?_, ?_⟩
    · rw [z3 199 (by decide) (by decide) (by decide), e2, e1]
      simp [up_get, wSe, pTp]
    · rw [z 226 (by decide) (by decide) (by decide) (by decide)]; exact x3
    · rw [z1 10 (by decide) (by decide)]; exact x4
    · rw [z1 11 (by decide) (by decide)]; exact x5
    · rw [z3 199 (by decide) (by decide) (by decide), e2]
      show _ = ((rows3 (pTp p)).length : Int)
      rw [rows3_len]
      simp [up_get]
    · have hk' : k < (pTp p).length / 3 := by rw [← rows3_len]; exact hk
      show M3 237 k = ((rows3 (pTp p)).getD k (0, 0, 0)).1 ∧ M3 238 k = ((rows3 (pTp p)).getD k (0, 0, 0)).2.1 ∧ M3 239 k = ((rows3 (pTp p)).getD k (0, 0, 0)).2.2
      rw [rows3_get hk']
      exact r3 k hk'
    · rw [z1 66 (by decide) (by decide)]; exact x8
    · unfold rw1 at *; rw [z 241 (by decide) (by decide) (by decide) (by decide)]; exact x9
    · rw [z1 56 (by decide) (by decide)]; exact x10
  · intro a ha
    rw [z3 a (by omega) (by omega) (by omega), e2, up_ne _ (by omega), e1, up_ne _ (by omega)]
theorem y_se_no {Q : Int → Mem → Prop} {M1 : Mem} {v : Int} (hy : IY M b p) (e1 : M1 = up M 199 1 0) (h : ∀ M', IY M' b (wRf (wTp p []) 5) → stY M M' → Q (-1) M') : m_X12_see_J85 Q v 0 M1 := by
  have hy4 : IY M1 b (wTp p []) := hy.tape (fun z z1 z2 => by rw [e1, up_ne _ z1]) (fun k hk => by rw [e1]; simp only [up_get]; rw [if_neg (fun z => hk z.2)]) (by rw [e1]; simp [up_get]) (fun k hk => by simp at hk)
  unfold m_X12_see_J85
  exact ⟨by decide, fun _ => y_refuses (by decide) (h _ hy4.ref ((stY.up e1 (by decide)).tr (stY.up rfl (by decide)))), fun z => absurd rfl z⟩
theorem y_se_34 {Q : Int → Mem → Prop} {M1 : Mem} (hy : IY M b p) (e1 : M1 = up M 199 1 0) (hp : POK N p) (hn : (pTp p).length ≠ 0) (h3 : (pTp p).length % 3 = 0) (h48 : (pTp p).length ≤ 48) (h1 : seeOK p → ∀ M', IY M' b (wSe p (rows3 (pTp p))) → stY M M' → Q ((pTp p).length / 3 : Nat) M') (h0 : ¬ seeOK p → ∀ M', IY M' b (wRf (wTp p []) 5) → stY M M' → Q (-1) M') :
    ∀ (d k : Nat), k + d = (pTp p).length / 3 → (∀ j : Nat, j < k → rowAt (pW p) (pTp p) j) → m_X12_see_L34 Q ((pTp p).length : Nat) (d + 2) 1 (3 * k : Nat) M1
  | 0, k, hk, hr => by
    unfold m_X12_see_L34
    have ok : seeOK p := ⟨hn, h3, h48, fun j hj => hr j (by omega)⟩
    exact ⟨by omega, by omega, fun _ => y_se_85 hy e1 hp ok (h1 ok), fun q => by omega⟩
  | d + 1, k, hk, hr => by
    have a1 := hy.1.2.1 (3 * k) (by omega)
    have a2 := hy.1.2.1 (3 * k + 1) (by omega)
    have b1 := tape_b hp (k := 3 * k) (by omega)
    have b2 := tape_b hp (k := 3 * k + 1) (by omega)
    have w1 := hp.2.1.1.1
    have hb := hy.2.1.2.1.1
    have hy1 : IY M1 b (wTp p []) := hy.tape (fun z z1 z2 => by rw [e1, up_ne _ z1]) (fun k hk => by rw [e1]; simp only [up_get]; rw [if_neg (fun z => hk z.2)]) (by rw [e1]; simp [up_get]) (fun k hk => by simp at hk)
    have hp1 : POK (N + 1) (wTp p []) := hp.tape (by simp) (fun c hc => by simp at hc)
    have m2 : M1 200 = M 200 := by rw [e1, up_ne _ (by decide)]
    have no : ¬ rowAt (pW p) (pTp p) k → m_X12_see_L34 Q ((pTp p).length : Nat) (d + 1 + 1) 0 ((3 * k : Nat) + 3) M1 := fun z => by
      unfold m_X12_see_L34
      have := y_se_no (v := ((pTp p).length : Nat)) hy e1 (h0 (fun y => z (y.2.2.2 k (by omega))))
      exact ⟨by omega, by omega, fun _ => this, fun _ => ⟨by decide, fun _ => this, fun z => absurd rfl z⟩⟩
    rw [show d + 1 + 2 = (d + 1 + 1) + 1 by omega]
    unfold m_X12_see_L34 m_X12_see_J77 m_X12_see_J78
    rw [m2, a1]
    refine ⟨by omega, by omega, fun q => by omega, fun _ => ⟨by decide, fun z => absurd z (by decide), fun _ => ⟨by omega, y_is2 (by omega) (by decide) (by decide) (fun q1 q2 => ?_) (fun q => ?_)⟩⟩⟩
    · refine ⟨by decide, fun z => absurd z (by decide), fun _ => ⟨by omega, ?_⟩⟩
      rw [m2, show ((3 * k : Nat) : Int) + 1 = (3 * k + 1 : Nat) by omega, a2]
      refine y_isPlace hy1 hp1 (by omega) (fun _ q3 => ⟨by decide, fun z => absurd z (by decide), fun _ => ?_⟩) (fun q => ⟨by decide, fun _ => no (fun z => q ⟨b2.1, z.2.2⟩), fun z => absurd rfl z⟩)
      have := y_se_34 hy e1 hp hn h3 h48 h1 h0 d (k + 1) (by omega) (fun j hj => ?_)
      · rwa [show ((3 * k : Nat) : Int) + 3 = (3 * (k + 1) : Nat) by omega]
      · by_cases z : j = k
        · subst z; exact ⟨q1, q2, q3⟩
        · exact hr j (by omega)
    · exact ⟨by decide, fun _ => no (fun z => q ⟨z.1, z.2.1⟩), fun z => absurd rfl z⟩
theorem y_see {Q : Int → Mem → Prop} (hy : IY M b p) (hp : POK N p) (h1 : seeOK p → ∀ M', IY M' b (wSe p (rows3 (pTp p))) → stY M M' → Q ((pTp p).length / 3 : Nat) M') (h0 : ¬ seeOK p → ∀ M', IY M' b (wRf (wTp p []) 5) → stY M M' → Q (-1) M') : m_X12_see M Q := by
  have f1 := hy.1.1
  have g1 := hp.1.1
  have no : ¬ seeOK p → ∀ M1, M1 = up M 199 1 0 → m_X12_see_J30 Q ((pTp p).length : Nat) M1 := fun z M1 e1 => by
    unfold m_X12_see_J30 m_X12_see_J31
    refine ⟨1, ?_⟩
    unfold m_X12_see_L34
    have := y_se_no (v := ((pTp p).length : Nat)) hy e1 (h0 z)
    exact ⟨by decide, by omega, fun _ => this, fun _ => ⟨by decide, fun _ => this, fun z => absurd rfl z⟩⟩
  unfold m_X12_see
  rw [f1, tmod3]
  refine fun M1 e1 => ⟨by omega, fun q => no (fun z => z.1 (by omega)) M1 e1, fun q => ⟨by omega, by omega, fun q2 => ⟨by omega, fun q3 => no (fun z => by have := z.2.2.1; omega) M1 e1, fun q3 => ?_⟩, fun q2 => no (fun z => by have := z.2.1; omega) M1 e1⟩⟩
  exact ⟨_, y_se_34 hy e1 hp (by omega) (by omega) (by omega) h1 h0 ((pTp p).length / 3) 0 (by omega) (fun j hj => by omega)⟩
theorem POK.see (hp : POK N p) (ok : seeOK p) : POK (N + 1) (wSe p (rows3 (pTp p))) := by
  obtain ⟨⟨a1, a2, a3, a4, a5, a6, a7, a8⟩, h2⟩ := hp.mono
  refine ⟨⟨by simp [wSe, pTp], fun c hc => by simp [wSe, pTp] at hc, a3, a4, a5, ?_, fun q hq => ?_, a8⟩, h2⟩
  · show (rows3 (pTp p)).length ≤ 16
    rw [rows3_len]
    have := ok.2.2.1
    omega
  · have hq' : q ∈ rows3 (pTp p) := hq
    unfold rows3 at hq'
    obtain ⟨k, hk, rfl⟩ := List.mem_map.mp hq'
    have hk := List.mem_range.mp hk
    have r := ok.2.2.2 k hk
    have b2 := tape_b hp (k := 3 * k + 1) (by omega)
    have b3 := tape_b hp (k := 3 * k + 2) (by omega)
    exact ⟨r.1, r.2.1, b2.1, r.2.2, b3.1, b3.2⟩
theorem s_see (hi : Inv N M) : m_X11_see M (fun r1 M1 => m_X12_see M1 (fun r2 M2 => Good N r1 r2 M2)) := by
  obtain ⟨t, b, p, hp, hx, hy⟩ := hi
  have g1 := hp.1.1
  refine x_see hx hp (fun ok M1 hx1 o1 => ?_) (fun no M1 hx1 o1 => ?_)
  · exact y_see (hy.st o1) hp (fun _ M2 hy2 o2 => fin1 (hp.see ok) (hx1.st o2) hy2 (by omega)) (fun z => absurd ok z)
  · have h2 : POK (N + 1) (wRf (wTp p []) 5) := by
      have := hp.ref (a := 5)
      obtain ⟨⟨a1, a2, a3, a4⟩, h2⟩ := this
      exact ⟨⟨by simp [wRf, wTp, pTp], fun c hc => by simp [wRf, wTp, pTp] at hc, a3, a4⟩, h2⟩
    exact y_see (hy.st o1) hp (fun z => absurd z no) (fun _ M2 hy2 o2 => fin1 h2 (hx1.st o2) hy2 (by decide))
end
