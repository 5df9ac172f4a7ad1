/-! scenes are copied; frames come and go -/
theorem cpy_get (M : Mem) (a sp b dp n c j : Int) : cpy M a sp b dp n c j = if c = b ∧ dp ≤ j ∧ j < dp + n then M a (sp + (j - dp)) else M c j := by
  unfold cpy
  by_cases h : c = b
  · subst h
    simp only [if_true, true_and]
  · simp [h]
theorem cpy_ne (M : Mem) {a sp b dp n c : Int} (h : c ≠ b) : cpy M a sp b dp n c = M c := if_neg h
/-- nothing is written but the scene at o -/
def offS (o : Int) (M M' : Mem) : Prop := ∀ a, (a < o ∨ o + 5 < a) → M' a = M a
theorem offS.rf {o : Int} {M : Mem} : offS o M M := fun _ _ => rfl
theorem offS.tr {o : Int} {M M1 M2 : Mem} (h : offS o M M1) (k : offS o M1 M2) : offS o M M2 := fun a p => by rw [k a p, h a p]
theorem offS.up {o a k v : Int} {M M1 M2 : Mem} (h : offS o M M1) (e : M2 = up M1 a k v) (ha : o ≤ a ∧ a ≤ o + 5) : offS o M M2 := fun c p => by
  rw [e, up_ne M1 (k := k) (v := v) (show c ≠ a by omega), h c p]
theorem reX.off {M M' : Mem} {r : Int} {l : List (Int × Int × Int)} (h : reX M r l) (e0 : M' r 0 = M r 0) (e1 : M' (r + 1) = M (r + 1)) (e2 : M' (r + 2) = M (r + 2)) (e3 : M' (r + 3) = M (r + 3)) : reX M' r l := by
  unfold reX at *
  rw [e0, e1, e2, e3]
  exact h
theorem SX.rows {M M' : Mem} {s : Int} {W : TW} {S : TS} (h : SX M s W S) (e : ∀ a, s ≤ a → a ≤ s + 5 → M' a = M a) : SX M' s W S := by
  unfold SX reX at *
  rw [e s (by omega) (by omega), e (s + 1) (by omega) (by omega), e (s + 2) (by omega) (by omega), e (s + 2 + 1) (by omega) (by omega), e (s + 2 + 2) (by omega) (by omega), e (s + 2 + 3) (by omega) (by omega)]
  exact h
theorem TX.rows {M M' : Mem} {t : Int} {W : TW} (h : TX M t W) (e : ∀ a, t ≤ a → a ≤ t + 15 → M' a = M a) : TX M' t W := by
  unfold TX cdX at *
  rw [e t (by omega) (by omega), e (t + 2) (by omega) (by omega), e (t + 3) (by omega) (by omega), e (t + 6) (by omega) (by omega), e (t + 11) (by omega) (by omega), e (t + 14) (by omega) (by omega), e (t + 11 + 1) (by omega) (by omega), e (t + 14 + 1) (by omega) (by omega)]
  exact h
theorem x_recopy {o a : Int} {M : Mem} {Q : Mem → Prop} {l : List (Int × Int × Int)} (ho : kd o = 5) (ha : kd a = 5) (hap : a + 3 < o ∨ o + 3 < a) (hl : reX M a l) (h9 : l.length ≤ 9) (h : ∀ M', (∀ c, (c < o ∨ o + 3 < c) → M' c = M c) → (∀ k, k ≠ 0 → M' o k = M o k) → reX M' o l → Q M') : m_X5_copy o a M Q := by
  unfold m_X5_copy
  obtain ⟨l0, l1⟩ := hl
  refine ⟨ho, ha, fun M1 e1 => ?_⟩
  have n1 : M1 o 0 = (l.length : Nat) := by rw [e1]; simp [up_get, l0]
  refine ⟨by omega, by omega, by omega, fun M2 e2 => ?_⟩
  have n2 : M2 o 0 = (l.length : Nat) := by rw [e2, cpy_ne _ (by omega), n1]
  refine ⟨by omega, by omega, by omega, fun M3 e3 => ?_⟩
  have n3 : M3 o 0 = (l.length : Nat) := by rw [e3, cpy_ne _ (by omega), n2]
  refine ⟨by omega, by omega, by omega, fun M4 e4 => ?_⟩
  have n4 : M4 o 0 = (l.length : Nat) := by rw [e4, cpy_ne _ (by omega), n3]
  refine h M4 (fun c hc => ?_) (fun k hk => ?_) ⟨n4, fun k hk => ?_⟩
  · rw [e4, cpy_ne _ (by omega), e3, cpy_ne _ (by omega), e2, cpy_ne _ (by omega), e1, up_ne _ (by omega)]
  · rw [e4, cpy_ne _ (by omega), e3, cpy_ne _ (by omega), e2, cpy_ne _ (by omega), e1]
    simp [up_get, hk]
  · obtain ⟨r1, r2, r3⟩ := l1 k hk
    refine ⟨?_, ?_, ?_⟩
    · rw [← r1, e4, cpy_ne _ (by omega), e3, cpy_ne _ (by omega), e2, cpy_get, if_pos (by omega), e1, up_ne _ (by omega)]
      congr 1
      omega
    · rw [← r2, e4, cpy_ne _ (by omega), e3, cpy_get, if_pos (by omega), e2, cpy_ne _ (by omega), e1, up_ne _ (by omega)]
      congr 1
      omega
    · rw [← r3, e4, cpy_get, if_pos (by omega), e3, cpy_ne _ (by omega), e2, cpy_ne _ (by omega), e1, up_ne _ (by omega)]
      congr 1
      omega
theorem x_copy {o a : Int} {M : Mem} {Q : Mem → Prop} {W : TW} {S : TS} (ho : kd o = 6) (hV : SX M a W S) (hS : SOK W S) (hW : WOK W) (hne : o ≠ a) (h : ∀ M', offS o M M' → SX M' o W S → M' o 4 = M a 4 → Q M') : m_X6_copy o a M Q := by
  have k1 := isScene ho
  have k2 := isScene hV.1
  have w2 := hW.2.1
  have hap : a + 5 < o ∨ o + 5 < a := by omega
  obtain ⟨v1, v2, v3, v4, v5⟩ := hV
  unfold m_X6_copy
  refine ⟨ho, v1, fun M1 e1 => ⟨by decide, by decide, by decide, fun M2 e2 M3 e3 => ?_⟩⟩
  have r3 : reX M3 (a + 2) (sRe S) := v5.off (by rw [e3, up_ne _ (by omega), e2, cpy_ne _ (by omega), e1, up_ne _ (by omega)]) (by rw [e3, up_ne _ (by omega), e2, cpy_ne _ (by omega), e1, up_ne _ (by omega)]) (by rw [e3, up_ne _ (by omega), e2, cpy_ne _ (by omega), e1, up_ne _ (by omega)]) (by rw [e3, up_ne _ (by omega), e2, cpy_ne _ (by omega), e1, up_ne _ (by omega)])
  refine x_recopy (sub_6_3 ho) (sub_6_3 v1) (by omega) r3 hS.2.2.2.2.1 fun M4 o4 _ r4 M5 e5 => h M5 ?_ ⟨ho, ?_, ?_, ?_, ?_⟩ ?_
  · intro c hc
    rw [e5, up_ne _ (by omega), o4 c (by omega), e3, up_ne _ (by omega), e2, cpy_ne _ (by omega), e1, up_ne _ (by omega)]
  · rw [e5]
    simp only [up_get]
    rw [if_neg (by omega), o4 o (by omega), e3, e2, e1]
    simp only [up_get, cpy_get]
    rw [if_neg (by omega), if_neg (by omega), if_pos ⟨trivial, trivial⟩, v2]
  · rw [e5]
    simp only [up_get]
    rw [if_neg (by omega), o4 o (by omega), e3]
    simp only [up_get]
    rw [if_pos ⟨trivial, trivial⟩, e2, cpy_ne _ (by omega), e1, up_ne _ (by omega), v3]
  · intro p hp
    rw [e5, up_ne _ (by omega), o4 (o + 1) (by omega), e3, up_ne _ (by omega), e2, cpy_get, if_pos (by omega), e1, up_ne _ (by omega), ← v4 p hp]
    congr 1
    omega
  · exact r4.off (by rw [e5, up_ne _ (by omega)]) (by rw [e5, up_ne _ (by omega)]) (by rw [e5, up_ne _ (by omega)]) (by rw [e5, up_ne _ (by omega)])
  · rw [e5]
    simp only [up_get]
    rw [if_pos ⟨trivial, trivial⟩, o4 a (by omega), e3, up_ne _ (by omega), e2, cpy_ne _ (by omega), e1, up_ne _ (by omega)]
/-! the place of a frame -/
def idxP : List (Int × Int × Int) → Int → Int → Int → Int
  | [], _, _, _ => -1
  | q :: l, s, p, k => if q.1 = s ∧ q.2.1 = p then k else idxP l s p (k + 1)
theorem x_idx_l {r s p : Int} {M : Mem} {Q : Int → Mem → Prop} {l : List (Int × Int × Int)} {W : TW} (hl : reX M r l) (hok : reOK W l) (hW : wPl W ≤ 7) (h1 : inI s) (h2 : inI p) (h : Q (idxP l s p 0) M) :
    ∀ d k : Nat, k + d = l.length → idxP (l.drop k) s p k = idxP l s p 0 → m_X5_indexOf_L2 Q r s p (d + 1) k M
  | 0, k, he, e => by
    have l9 := hok.1
    unfold m_X5_indexOf_L2
    rw [hl.1]
    rw [List.drop_eq_nil_of_le (by omega)] at e
    rw [← e] at h
    exact ⟨by omega, by omega, fun _ => h, fun q => by omega⟩
  | d + 1, k, he, e => by
    have l9 := hok.1
    have hk : k < l.length := by omega
    have ih := x_idx_l hl hok hW h1 h2 h d (k + 1) (by omega)
    have fo := hok.2.1 _ (getD_mem (d := (0, 0, 0)) hk)
    unfold frOKP at fo
    obtain ⟨r1, r2, r3⟩ := hl.2 k hk
    rw [getD_drop (d := (0, 0, 0)) hk] at e
    simp only [idxP] at e
    unfold m_X5_indexOf_L2 m_X5_indexOf_J32
    rw [hl.1, r1, r2]
    refine ⟨by omega, by omega, fun q => by omega, fun _ => ⟨by omega, by omega, h1, fun q1 => ⟨by omega, by omega, h2, fun q2 => ?_, fun q2 => ?_⟩, fun q1 => ?_⟩⟩
    · rw [if_pos ⟨q1, q2⟩] at e
      rw [e]; exact h
    · rw [if_neg (fun z => q2 z.2)] at e
      exact ih e
    · rw [if_neg (fun z => q1 z.1)] at e
      exact ih e
theorem x_indexOf {r s p : Int} {M : Mem} {Q : Int → Mem → Prop} {l : List (Int × Int × Int)} {W : TW} (hr : kd r = 5) (hl : reX M r l) (hok : reOK W l) (hW : wPl W ≤ 7) (h1 : inI s) (h2 : inI p) (h : Q (idxP l s p 0) M) : m_X5_indexOf r s p M Q :=
  ⟨hr, _, x_idx_l hl hok hW h1 h2 h l.length 0 (by omega) rfl⟩
theorem y_idx_l {v s p : Int} {M : Mem} {Q : Int → Mem → Prop} {l : List (Int × Int × Int)} {W : TW} (hv : 0 ≤ v ∧ v < 22) (hl : reY M v l) (hok : reOK W l) (hW : wPl W ≤ 7) (h1 : inI s) (h2 : inI p) (h : Q (idxP l s p 0) M) :
    ∀ d k : Nat, k + d = l.length → idxP (l.drop k) s p k = idxP l s p 0 → m_X12_frameAt_L3 Q v s p (d + 1) k M
  | 0, k, he, e => by
    have l9 := hok.1
    unfold m_X12_frameAt_L3
    rw [hl.1]
    rw [List.drop_eq_nil_of_le (by omega)] at e
    rw [← e] at h
    exact ⟨hv, by omega, by omega, fun _ => h, fun q => by omega⟩
  | d + 1, k, he, e => by
    have l9 := hok.1
    have hk : k < l.length := by omega
    have ih := y_idx_l hv hl hok hW h1 h2 h d (k + 1) (by omega)
    have fo := hok.2.1 _ (getD_mem (d := (0, 0, 0)) hk)
    unfold frOKP at fo
    obtain ⟨r1, r2, r3⟩ := hl.2 k hk
    rw [getD_drop (d := (0, 0, 0)) hk] at e
    simp only [idxP] at e
    unfold m_X12_frameAt_L3 m_X12_frameAt_J55
    rw [hl.1, r1, r2]
    refine ⟨hv, by omega, by omega, fun q => by omega, fun _ => ⟨by omega, by omega, h1, fun q1 => ⟨by omega, by omega, h2, fun q2 => ?_, fun q2 => ?_⟩, fun q1 => ?_⟩⟩
    · rw [if_pos ⟨q1, q2⟩] at e
      rw [e]; exact h
    · rw [if_neg (fun z => q2 z.2)] at e
      exact ih e
    · rw [if_neg (fun z => q1 z.1)] at e
      exact ih e
theorem y_frameAt {v s p : Int} {M : Mem} {Q : Int → Mem → Prop} {l : List (Int × Int × Int)} {W : TW} (hv : 0 ≤ v ∧ v < 22) (hl : reY M v l) (hok : reOK W l) (hW : wPl W ≤ 7) (h1 : inI s) (h2 : inI p) (h : Q (idxP l s p 0) M) : m_X12_frameAt v s p M Q :=
  ⟨_, y_idx_l hv hl hok hW h1 h2 h l.length 0 (by omega) rfl⟩
theorem idxP_no {s p : Int} : ∀ {l : List (Int × Int × Int)} {k : Int}, 0 ≤ k → (idxP l s p k = -1 ↔ ∀ q ∈ l, ¬ (q.1 = s ∧ q.2.1 = p))
  | [], k, _ => by simp [idxP]
  | q :: l, k, hk => by
    have ih := idxP_no (s := s) (p := p) (l := l) (k := k + 1) (by omega)
    simp only [idxP]
    by_cases c : q.1 = s ∧ q.2.1 = p
    · rw [if_pos c]
      constructor
      · intro z; omega
      · intro z; exact absurd c (z q List.mem_cons_self)
    · rw [if_neg c, ih]
      constructor
      · intro z r hr
        rcases List.mem_cons.mp hr with rfl | hr
        · exact c
        · exact z r hr
      · intro z r hr; exact z r (List.mem_cons_of_mem _ hr)
theorem idxP_at {s p : Int} : ∀ {l : List (Int × Int × Int)} {k : Int}, 0 ≤ k → idxP l s p k ≠ -1 → k ≤ idxP l s p k ∧ idxP l s p k < k + l.length ∧ (l.getD (idxP l s p k - k).toNat (0, 0, 0)).1 = s ∧ (l.getD (idxP l s p k - k).toNat (0, 0, 0)).2.1 = p
  | [], k, _, h => absurd rfl h
  | q :: l, k, hk, h => by
    simp only [idxP] at h ⊢
    by_cases c : q.1 = s ∧ q.2.1 = p
    · simp only [c, and_self, if_true]
      refine ⟨by omega, by simp; omega, ?_, ?_⟩ <;> simp [c]
    · simp only [c, if_false] at h ⊢
      have ih := idxP_at (s := s) (p := p) (l := l) (k := k + 1) (by omega) h
      obtain ⟨i1, i2, i3, i4⟩ := ih
      have e : (idxP l s p (k + 1) - k).toNat = (idxP l s p (k + 1) - (k + 1)).toNat + 1 := by omega
      refine ⟨by omega, by simp; omega, ?_, ?_⟩
      · rw [e]; simpa using i3
      · rw [e]; simpa using i4
