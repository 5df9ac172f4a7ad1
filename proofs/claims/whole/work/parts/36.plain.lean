/-! what is plain changes: the tape, refusals, the seed -/
theorem IX.plain {M M' : Mem} {t : Int} {p p' : PT} (h : IX M t p) (e : ∀ a, 4 ≤ a → a ≤ 184 → M' a = M a) (e0 : ∀ k, k = 2 ∨ k = 3 ∨ k = 8 → M' 0 k = M 0 k) (q1 : p'.2.2.2.1 = p.2.2.2.1) (q2 : p'.2.2.2.2.1 = p.2.2.2.2.1) (q3 : pS p' = pS p) (q4 : pK p' = pK p) (q5 : pU p' = pU p) (ha : aX M' p') : IX M' t p' := by
  obtain ⟨h1, ⟨k1, k2, k3, k4⟩, ⟨h3, h4, h5⟩, ⟨l1, l2, l3, l4⟩, h6⟩ := h
  have k := isTown k3.1
  refine ⟨ha, ⟨?_, ?_, ?_, ?_⟩, ⟨?_, ?_, ?_⟩, ?_, ?_⟩
  · rw [e0 2 (by decide), k1]
  · rw [e0 3 (by decide), k2]
  · rw [show pW p' = pW p from q1]
    exact k3.rows (fun a a1 a2 => e a (by omega) (by omega))
  · rw [show pW p' = pW p from q1, show pNa p' = pNa p from by unfold pNa; rw [q2], show pNb p' = pNb p from by unfold pNb; rw [q2], show pRo p' = pRo p from by unfold pRo; rw [q2], show pRa p' = pRa p from by unfold pRa; rw [q2], e t (by omega) (by omega), e (t + 1) (by omega) (by omega), e (t + 4) (by omega) (by omega)]
    exact k4
  · rw [show pW p' = pW p from q1, q3]
    exact h3.rows (fun a a1 a2 => e a (by omega) (by omega))
  · rw [q4, e 40 (by decide) (by decide), h4]
  · rw [q4]
    unfold rw3 at *
    rw [e 64 (by decide) (by decide)]
    exact h5
  · unfold uX
    rw [q5, show pW p' = pW p from q1, e 62 (by decide) (by decide)]
    refine ⟨l1, l2, l3, fun j hj => ?_⟩
    obtain ⟨m1, m2⟩ := l4 j hj
    have : 65 ≤ slX (M 62 1) j ∧ slX (M 62 1) j ≤ 179 := by unfold slX; omega
    refine ⟨m1.rows (fun a a1 a2 => e a (by omega) (by omega)), ?_⟩
    rw [e _ (by omega) (by omega), m2]
  · unfold dX dayX at *
    rw [q3, show pW p' = pW p from q1, e0 8 (by decide), e (52 + 1) (by decide) (by decide), e (52 + 2) (by decide) (by decide)]
    exact h6
theorem IY.plain {M M' : Mem} {b : Int} {p p' : PT} (h : IY M b p) (e : ∀ a, (201 ≤ a ∧ a ≤ 225) ∨ (227 ≤ a ∧ a ≤ 233) → M' a = M a) (e0 : ∀ k, k = 13 ∨ k = 54 ∨ k = 55 → M' 199 k = M 199 k) (q1 : p'.2.2.2.1 = p.2.2.2.1) (q2 : p'.2.2.2.2.1 = p.2.2.2.2.1) (q3 : pS p' = pS p) (q4 : pK p' = pK p) (q5 : pU p' = pU p) (ha : aY M' p') : IY M' b p' := by
  obtain ⟨h1, ⟨k1, k2, k3⟩, ⟨h3, h3'⟩, ⟨l1, l2, l3, l4⟩⟩ := h
  have ky : ∀ v l, KY M v l → KY M' v l := fun v l z => by
    unfold KY at *
    rw [e 232 (by decide), e 233 (by decide)]
    exact z
  refine ⟨ha, ⟨?_, ?_, ?_⟩, ⟨?_, ?_⟩, ?_⟩
  · rw [e0 13 (by decide), k1]
  · rw [show pW p' = pW p from q1]
    exact k2.off (fun a a1 a2 => e a (by omega))
  · rw [show pW p' = pW p from q1, show pNa p' = pNa p from by unfold pNa; rw [q2], show pNb p' = pNb p from by unfold pNb; rw [q2], show pRo p' = pRo p from by unfold pRo; rw [q2], show pRa p' = pRa p from by unfold pRa; rw [q2], e 218 (by decide), e 219 (by decide), e 202 (by decide), e 213 (by decide)]
    exact k3
  · rw [show pW p' = pW p from q1, q3]
    exact h3.off (e _ (by decide)) (e _ (by decide)) (e _ (by decide)) (e _ (by decide)) (e _ (by decide))
  · rw [q4]
    exact ky _ _ h3'
  · unfold uY
    rw [q5, q4, show pW p' = pW p from q1, e0 54 (by decide), e0 55 (by decide)]
    refine ⟨l1, l2, l3, fun j hj => ?_⟩
    obtain ⟨m1, m2⟩ := l4 j hj
    exact ⟨m1.off (e _ (by decide)) (e _ (by decide)) (e _ (by decide)) (e _ (by decide)) (e _ (by decide)), ky _ _ m2⟩
def wRf (p : PT) (a : Int) : PT := (p.1, fun i => if i = a then pRf p i + 1 else pRf p i, p.2.2)
def wTp (p : PT) (l : List Int) : PT := (l, p.2)
def wSd (p : PT) (s : Int) : PT := (pTp p, pRf p, pFa p, pW p, p.2.2.2.2.1, pS p, pK p, pU p, pSe p, pIm p, s)
theorem POK.ref {N : Nat} {p : PT} {a : Int} (h : POK N p) : POK (N + 1) (wRf p a) := by
  obtain ⟨⟨a1, a2, a3, a4⟩, h2⟩ := h
  refine ⟨⟨a1, a2, fun i hi => ?_, a4⟩, h2⟩
  have := a3 i hi
  show 0 ≤ (if (i : Int) = a then pRf p i + 1 else pRf p i) ∧ (if (i : Int) = a then pRf p i + 1 else pRf p i) ≤ _
  split <;> omega
theorem IX.ref {M : Mem} {t a : Int} {p : PT} (h : IX M t p) : IX (up M 198 a (M 198 a + 1)) t (wRf p a) := by
  refine h.plain (fun c c1 c2 => up_ne _ (by omega)) (fun k _ => by rw [up_ne _ (by decide)]) rfl rfl rfl rfl rfl ?_
  obtain ⟨a1, a2, a3, a4⟩ := h.1
  unfold aX rw1 rw3 at *
  refine ⟨by rw [up_ne _ (by decide)]; exact a1, by rw [up_ne _ (by decide)]; exact a2, fun i hi => ?_, by rw [up_ne _ (by decide), up_ne _ (by decide), up_ne _ (by decide), up_ne _ (by decide), up_ne _ (by decide), up_ne _ (by decide), up_ne _ (by decide)]; exact a4⟩
  have := a3 i hi
  show _ = (if (i : Int) = a then pRf p i + 1 else pRf p i)
  simp only [up_get]
  by_cases c : (i : Int) = a
  · rw [if_pos ⟨trivial, c⟩, if_pos c, ← c, this]
  · rw [if_neg (fun z => c z.2), if_neg c, this]
theorem IY.ref {M : Mem} {b a : Int} {p : PT} (h : IY M b p) : IY (up M 226 a (M 226 a + 1)) b (wRf p a) := by
  refine h.plain (fun c c1 => up_ne _ (by omega)) (fun k _ => by rw [up_ne _ (by decide)]) rfl rfl rfl rfl rfl ?_
  obtain ⟨a1, a2, a3, a4⟩ := h.1
  unfold aY rw1 at *
  refine ⟨by rw [up_ne _ (by decide)]; exact a1, by rw [up_ne _ (by decide)]; exact a2, fun i hi => ?_, by rw [up_ne _ (by decide), up_ne _ (by decide), up_ne _ (by decide), up_ne _ (by decide), up_ne _ (by decide)]; exact a4⟩
  have := a3 i hi
  show _ = (if (i : Int) = a then pRf p i + 1 else pRf p i)
  simp only [up_get]
  by_cases c : (i : Int) = a
  · rw [if_pos ⟨trivial, c⟩, if_pos c, ← c, this]
  · rw [if_neg (fun z => c z.2), if_neg c, this]
/-- the tape -/
theorem IX.tape {M M' : Mem} {t : Int} {p : PT} {l : List Int} (h : IX M t p) (e : ∀ a, a ≠ 1 → a ≠ 2 → M' a = M a) (e1 : ∀ k, k ≠ 1 → M' 1 k = M 1 k) (hl : M' 1 1 = (l.length : Nat)) (hr : rw1 M' 2 l) : IX M' t (wTp p l) := by
  refine h.plain (fun c c1 c2 => e c (by omega) (by omega)) (fun k _ => by rw [e 0 (by decide) (by decide)]) rfl rfl rfl rfl rfl ?_
  obtain ⟨a1, a2, a3, a4, a5, a6⟩ := h.1
  refine ⟨hl, hr, ?_, ?_, ?_, ?_⟩
  · rw [e 198 (by decide) (by decide)]; exact a3
  · rw [e1 6 (by decide)]; exact a4
  · rw [e1 7 (by decide)]; exact a5
  · unfold rw1 rw3 at *
    rw [e 3 (by decide) (by decide), e 187 (by decide) (by decide), e 188 (by decide) (by decide), e 185 (by decide) (by decide), e 186 (by decide) (by decide), e 0 (by decide) (by decide)]
    exact a6
theorem IY.tape {M M' : Mem} {b : Int} {p : PT} {l : List Int} (h : IY M b p) (e : ∀ a, a ≠ 199 → a ≠ 200 → M' a = M a) (e1 : ∀ k, k ≠ 1 → M' 199 k = M 199 k) (hl : M' 199 1 = (l.length : Nat)) (hr : rw1 M' 200 l) : IY M' b (wTp p l) := by
  refine h.plain (fun c c1 => e c (by omega) (by omega)) (fun k hk => e1 k (by omega)) rfl rfl rfl rfl rfl ?_
  obtain ⟨a1, a2, a3, a4, a5, a6⟩ := h.1
  refine ⟨hl, hr, ?_, ?_, ?_, ?_⟩
  · rw [e 226 (by decide) (by decide)]; exact a3
  · rw [e1 10 (by decide)]; exact a4
  · rw [e1 11 (by decide)]; exact a5
  · unfold rw1 at *
    rw [e 237 (by decide) (by decide), e 238 (by decide) (by decide), e 239 (by decide) (by decide), e 241 (by decide) (by decide), e1 60 (by decide), e1 66 (by decide), e1 56 (by decide)]
    exact a6
theorem POK.tape {N : Nat} {p : PT} {l : List Int} (h : POK N p) (hl : l.length ≤ 1600) (hb : ∀ c ∈ l, 0 ≤ c ∧ c < 256) : POK (N + 1) (wTp p l) := by
  obtain ⟨⟨a1, a2, a3, a4⟩, h2⟩ := h.mono
  exact ⟨⟨hl, hb, a3, a4⟩, h2⟩
def l20 (a b c d e : Int) : List Int := (List.range 20).map (by20 a b c d e)
theorem l20_get {a b c d e : Int} {k : Nat} (hk : k < 20) : (l20 a b c d e).getD k 0 = by20 a b c d e k := by
  unfold l20
  simp [List.getD, List.getElem?_map, hk]
theorem l20_len {a b c d e : Int} : (l20 a b c d e).length = 20 := by simp [l20]
theorem getD_app2 {α : Type} {l m : List α} {d : α} {k : Nat} : (l ++ m).getD k d = if k < l.length then l.getD k d else m.getD (k - l.length) d := by
  by_cases c : k < l.length
  · rw [if_pos c]; simp [List.getD, List.getElem?_append_left c]
  · rw [if_neg c]; simp [List.getD, List.getElem?_append_right (Nat.le_of_not_lt c)]
theorem ext_row {M M' : Mem} {ob sl arr : Int} {l m : List Int} {g : Nat → Int} (h : ext M M' ob sl arr m.length g) (h0 : M ob sl = (l.length : Nat)) (hr : rw1 M arr l) (hg : ∀ j, j < m.length → g j = m.getD j 0) : rw1 M' arr (l ++ m) := by
  obtain ⟨h1, h2, h3, h4, h5⟩ := h
  intro k hk
  rw [List.length_append] at hk
  rw [getD_app2]
  by_cases c : k < l.length
  · rw [if_pos c, h4 k (by omega), hr k c]
  · rw [if_neg c, ← hg _ (by omega), ← h5 _ (by omega), h0]
    congr 1
    omega
section
variable {N : Nat} {M : Mem}
theorem s_feed {a b c d e : Int} (hi : Inv N M) : m_X11_feed a b c d e M (fun r1 M1 => m_X12_feed a b c d e M1 (fun r2 M2 => Good N r1 r2 M2)) := by
  obtain ⟨t, b', p, hp, hx, hy⟩ := hi
  have e1 := hx.1.1
  have e2 := hx.1.2.1
  have f1 := hy.1.1
  have f2 := hy.1.2.1
  have g1 := hp.1.1
  have g2 := hp.1.2.1
  refine x_feed (by omega) (fun q M1 x1 => ?_) (fun q => ?_)
  · have l : ∀ j, j < (l20 a b c d e).length → by20 a b c d e j = (l20 a b c d e).getD j 0 := fun j hj => by
      rw [l20_len] at hj
      rw [l20_get hj]
    have s1 : stX M M1 := fun z hz => x1.1 z (by omega) (by omega)
    have x1' : ext M M1 1 1 2 (l20 a b c d e).length (by20 a b c d e) := by rw [l20_len]; exact x1
    have hx1 := hx.tape (l := pTp p ++ l20 a b c d e) x1.1 x1.2.1 (by rw [x1.2.2.1, List.length_append, l20_len, e1]; omega) (ext_row x1' e1 e2 l)
    have hy1 := hy.st s1
    have f1' : M1 199 1 = M 199 1 := by rw [s1 199 (by decide)]
    refine y_feed (by omega) (fun q M2 y2 => ?_) (fun q => by omega)
    have s2 : stY M1 M2 := fun z hz => y2.1 z (by omega) (by omega)
    have y2' : ext M1 M2 199 1 200 (l20 a b c d e).length (by20 a b c d e) := by rw [l20_len]; exact y2
    have hy2 := hy1.tape (l := pTp p ++ l20 a b c d e) y2.1 y2.2.1 (by rw [y2.2.2.1, List.length_append, l20_len, f1', f1]; omega) (ext_row y2' (by rw [f1', f1]) hy1.1.2.1 l)
    rw [f1', f1, ← e1]
    refine fin1 (hp.tape (by rw [List.length_append, l20_len]; omega) (fun z hz => ?_)) (hx1.st s2) hy2 (by omega)
    rcases List.mem_append.mp hz with z1 | z1
    · exact g2 z z1
    · unfold l20 at z1
      obtain ⟨k, -, rfl⟩ := List.mem_map.mp z1
      exact by20_rng _ _ _ _ _ _
  · have hy1 : IY (up M 198 0 (M 198 0 + 1)) b' p := hy.st (stX.up rfl (by decide))
    refine y_feed (by rw [up_ne _ (by decide)]; omega) (fun z => by rw [up_ne _ (by decide)] at z; omega) (fun z => ?_)
    exact fin1 hp.ref (hx.ref.st (stY.up rfl (by decide))) hy1.ref (by decide)
theorem s_end {a : Int} (hi : Inv N M) (ha : inI a) : m_X11_end a M (fun r1 M1 => m_X12_end a M1 (fun r2 M2 => Good N r1 r2 M2)) := by
  obtain ⟨t, b', p, hp, hx, hy⟩ := hi
  have e1 := hx.1.1
  have e2 := hx.1.2.1
  have f1 := hy.1.1
  have f2 := hy.1.2.1
  have g1 := hp.1.1
  have g2 := hp.1.2.1
  have tk : ((pTp p).take a.toNat).length = min a.toNat (pTp p).length := List.length_take
  have tg : ∀ k, k < a.toNat → ((pTp p).take a.toNat).getD k 0 = (pTp p).getD k 0 := fun k hk => by simp [List.getD, hk]
  refine x_end ha (by omega) (fun q1 q2 => ?_) (fun q => ?_)
  · have hx1 : IX (up M 1 1 a) t (wTp p ((pTp p).take a.toNat)) := hx.tape (fun z z1 z2 => up_ne _ z1) (fun k hk => by simp only [up_get]; rw [if_neg (fun z => hk z.2)]) (by simp only [up_get]; rw [if_pos ⟨trivial, trivial⟩]; omega) (fun k hk => by rw [up_ne _ (by decide), tg k (by omega), e2 k (by omega)])
    have hy1 : IY (up M 1 1 a) b' p := hy.st (stX.up rfl (by decide))
    refine y_end ha (by rw [up_ne _ (by decide)]; omega) (fun q1 q2 => ?_) (fun q => by rw [up_ne _ (by decide)] at q; omega)
    refine fin1 (hp.tape (by omega) (fun z hz => g2 z (List.mem_of_mem_take hz))) (hx1.st (stY.up rfl (by decide))) (hy1.tape (fun z z1 z2 => up_ne _ z1) (fun k hk => by simp only [up_get]; rw [if_neg (fun z => hk z.2)]) (by simp only [up_get]; rw [if_pos ⟨trivial, trivial⟩]; omega) (fun k hk => by rw [up_ne _ (by decide), tg k (by omega)]; exact hy1.1.2.1 k (by omega))) (by decide)
  · have hy1 : IY (up M 198 0 (M 198 0 + 1)) b' p := hy.st (stX.up rfl (by decide))
    refine y_end ha (by rw [up_ne _ (by decide)]; omega) (fun z z2 => by rw [up_ne _ (by decide)] at z2; omega) (fun z => ?_)
    exact fin1 hp.ref (hx.ref.st (stY.up rfl (by decide))) hy1.ref (by decide)
theorem s_seed {a : Int} (hi : Inv N M) (ha : inI a) : m_X11_seed a M (fun r1 M1 => m_X12_seed a M1 (fun r2 M2 => Good N r1 r2 M2)) := by
  obtain ⟨t, b', p, hp, hx, hy⟩ := hi
  refine ⟨ha, fun q M1 e1 => ?_, fun q => x_deny (by decide) ⟨by decide, ?_⟩⟩
  · have hx1 : IX M1 t (wSd p a) := by
      refine hx.plain (fun c c1 c2 => by rw [e1, up_ne _ (by omega)]) (fun k hk => by rw [e1]; simp only [up_get]; rw [if_neg (by omega)]) rfl rfl rfl rfl rfl ?_
      obtain ⟨a1, a2, a3, a4, a5, a6, a7, a8, a9, a10, a11⟩ := hx.1
      rw [e1]
      unfold aX rw1 rw3 at *
      rw [up_ne _ (by decide), up_ne _ (by decide), up_ne _ (by decide), up_ne _ (by decide), up_ne _ (by decide), up_ne _ (by decide), up_ne _ (by decide), up_ne _ (by decide)]
      exact ⟨a1, a2, a3, a4, a5, a6, a7, a8, a9, a10, by simp [up_get, wSd, pSd]⟩
    have hy1 := hy.st (stX.up e1 (by decide))
    refine ⟨ha, fun _ => ⟨ha, fun M2 e2 => ?_⟩, fun z => absurd q z⟩
    have hy2 : IY M2 b' (wSd p a) := by
      refine hy1.plain (fun c c1 => by rw [e2, up_ne _ (by omega)]) (fun k hk => by rw [e2]; simp only [up_get]; rw [if_neg (by omega)]) rfl rfl rfl rfl rfl ?_
      obtain ⟨a1, a2, a3, a4, a5, a6, a7, a8, a9, a10⟩ := hy1.1
      rw [e2]
      unfold aY rw1 at *
      rw [up_ne _ (show (200 : Int) ≠ 199 by decide), up_ne _ (show (226 : Int) ≠ 199 by decide), up_ne _ (show (237 : Int) ≠ 199 by decide), up_ne _ (show (238 : Int) ≠ 199 by decide), up_ne _ (show (239 : Int) ≠ 199 by decide), up_ne _ (show (241 : Int) ≠ 199 by decide)]
      simp only [up_get]
      exact ⟨a1, a2, a3, a4, a5, a6, a7, a8, a9, by simp [wSd, pSd]⟩
    refine fin1 (p := wSd p a) ?_ (hx1.st (stY.up e2 (by decide))) hy2 (by decide)
    obtain ⟨⟨a1, a2, a3, a4, a5, a6, a7, a8, a9, a10⟩, h2⟩ := hp.mono
    exact ⟨⟨a1, a2, a3, a4, a5, a6, a7, a8, a9, q, by show a < _; omega⟩, h2⟩
  · have hy1 : IY (up M 198 5 (M 198 5 + 1)) b' p := hy.st (stX.up rfl (by decide))
    refine ⟨ha, fun z => absurd z q, fun _ => y_refuses (by decide) ⟨by decide, fun _ => ⟨by decide, ?_⟩, fun z => absurd (show (-1 : Int) < 0 by decide) z⟩⟩
    exact fin1 hp.ref (hx.ref.st (stY.up rfl (by decide))) hy1.ref (by decide)
end
