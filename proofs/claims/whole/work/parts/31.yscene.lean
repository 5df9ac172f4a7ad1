/-! the model's states: copied, frames shown and cut, days written down -/
/-- of the model's states only v is written -/
def othY (v : Int) (M M' : Mem) : Prop := offL [227, 228, 229, 230, 231, 232, 233, 234, 235, 236] M M' ∧ (∀ i, i ≠ v → M' 227 i = M 227 i ∧ M' 229 i = M 229 i ∧ M' 230 i = M 230 i ∧ M' 232 i = M 232 i) ∧ (∀ i, (i < 6 * v ∨ 6 * v + 6 ≤ i) → M' 228 i = M 228 i) ∧ (∀ i, (i < 27 * v ∨ 27 * v + 27 ≤ i) → M' 231 i = M 231 i) ∧ (∀ i, (i < 120 * v ∨ 120 * v + 120 ≤ i) → M' 233 i = M 233 i)
theorem othY.rf {v : Int} {M : Mem} : othY v M M := ⟨offL.rf, fun _ _ => ⟨rfl, rfl, rfl, rfl⟩, fun _ _ => rfl, fun _ _ => rfl, fun _ _ => rfl⟩
theorem othY.tr {v : Int} {M M1 M2 : Mem} (h : othY v M M1) (k : othY v M1 M2) : othY v M M2 := by
  obtain ⟨h1, h2, h3, h4, h5⟩ := h
  obtain ⟨k1, k2, k3, k4, k5⟩ := k
  refine ⟨h1.tr k1, fun i hi => ?_, fun i hi => by rw [k3 i hi, h3 i hi], fun i hi => by rw [k4 i hi, h4 i hi], fun i hi => by rw [k5 i hi, h5 i hi]⟩
  obtain ⟨a1, a2, a3, a4⟩ := h2 i hi
  obtain ⟨b1, b2, b3, b4⟩ := k2 i hi
  exact ⟨by rw [b1, a1], by rw [b2, a2], by rw [b3, a3], by rw [b4, a4]⟩
theorem offL.oth {v : Int} {M M1 : Mem} (h : offL [234, 235, 236] M M1) : othY v M M1 :=
  ⟨fun a ha => h a (by simp at ha ⊢; omega), fun i _ => by rw [h 227 (by decide), h 229 (by decide), h 230 (by decide), h 232 (by decide)]; exact ⟨rfl, rfl, rfl, rfl⟩, fun i _ => by rw [h 228 (by decide)], fun i _ => by rw [h 231 (by decide)], fun i _ => by rw [h 233 (by decide)]⟩
theorem othY.one {v a : Int} {M M1 : Mem} {x : Int} (e : M1 = up M a v x) (ha : a = 227 ∨ a = 229 ∨ a = 230 ∨ a = 232) : othY v M M1 := by
  refine ⟨offL.rf.up e (by rcases ha with rfl | rfl | rfl | rfl <;> decide), fun i hi => ?_, ?_, ?_, ?_⟩
  · rw [e]
    simp only [up_get]
    rw [if_neg (fun z => hi z.2), if_neg (fun z => hi z.2), if_neg (fun z => hi z.2), if_neg (fun z => hi z.2)]
    exact ⟨rfl, rfl, rfl, rfl⟩
  all_goals
    intro i hi
    rw [e, up_ne _ (by omega)]
theorem othY.sp {v k x : Int} {M M1 : Mem} (e : M1 = up M 228 k x) (hk : 6 * v ≤ k ∧ k < 6 * v + 6) : othY v M M1 := by
  refine ⟨offL.rf.up e (by decide), fun i hi => ?_, fun i hi => ?_, ?_, ?_⟩
  · rw [e, up_ne _ (by decide), up_ne _ (by decide), up_ne _ (by decide), up_ne _ (by decide)]
    exact ⟨rfl, rfl, rfl, rfl⟩
  · rw [e]
    simp only [up_get]
    rw [if_neg (by omega)]
  all_goals
    intro i hi
    rw [e, up_ne _ (by decide)]
theorem othY.re {v k x : Int} {M M1 : Mem} (e : M1 = up M 231 k x) (hk : 27 * v ≤ k ∧ k < 27 * v + 27) : othY v M M1 := by
  refine ⟨offL.rf.up e (by decide), fun i hi => ?_, ?_, fun i hi => ?_, ?_⟩
  · rw [e, up_ne _ (by decide), up_ne _ (by decide), up_ne _ (by decide), up_ne _ (by decide)]
    exact ⟨rfl, rfl, rfl, rfl⟩
  · intro i hi
    rw [e, up_ne _ (by decide)]
  · rw [e]
    simp only [up_get]
    rw [if_neg (by omega)]
  · intro i hi
    rw [e, up_ne _ (by decide)]
theorem othY.ke {v k x : Int} {M M1 : Mem} (e : M1 = up M 233 k x) (hk : 120 * v ≤ k ∧ k < 120 * v + 120) : othY v M M1 := by
  refine ⟨offL.rf.up e (by decide), fun i hi => ?_, ?_, ?_, fun i hi => ?_⟩
  · rw [e, up_ne _ (by decide), up_ne _ (by decide), up_ne _ (by decide), up_ne _ (by decide)]
    exact ⟨rfl, rfl, rfl, rfl⟩
  · intro i hi
    rw [e, up_ne _ (by decide)]
  · intro i hi
    rw [e, up_ne _ (by decide)]
  · rw [e]
    simp only [up_get]
    rw [if_neg (by omega)]
/-- the model's days written down in state v: the last 40 of kp -/
def KY (M : Mem) (v : Int) (kp : List (Int × Int × Int)) : Prop := M 232 v = (if kp.length < 40 then (kp.length : Int) else 40) ∧ ∀ k : Nat, k < 40 → k < kp.length → M 233 (3 * (40 * v + k)) = (kp.getD (kp.length - (if kp.length < 40 then kp.length else 40) + k) (0, 0, 0)).1 ∧ M 233 (3 * (40 * v + k) + 1) = (kp.getD (kp.length - (if kp.length < 40 then kp.length else 40) + k) (0, 0, 0)).2.1 ∧ M 233 (3 * (40 * v + k) + 2) = (kp.getD (kp.length - (if kp.length < 40 then kp.length else 40) + k) (0, 0, 0)).2.2
theorem SY.oth {M M' : Mem} {v w : Int} {W : TW} {S : TS} (h : SY M w W S) (hS : SOK W S) (hW : WOK W) (e : othY v M M') (hne : w ≠ v) : SY M' w W S := by
  obtain ⟨h1, h2, h3, h4, h5, h6⟩ := h
  obtain ⟨e1, e2, e3, e4, e5⟩ := e
  obtain ⟨a1, a2, a3, a4⟩ := e2 w hne
  have l9 := hS.2.2.2.2.1
  have w2 := hW.2.1
  refine ⟨h1, by rw [a1, h2], by rw [a2, h3], fun p hp => by rw [e3 _ (by omega), h4 p hp], by rw [a3, h5], fun k hk => ?_⟩
  rw [e4 _ (by omega), e4 _ (by omega), e4 _ (by omega)]
  exact h6 k hk
theorem KY.oth {M M' : Mem} {v w : Int} {kp : List (Int × Int × Int)} (h : KY M w kp) (e : othY v M M') (hne : w ≠ v) : KY M' w kp := by
  obtain ⟨h1, h2⟩ := h
  obtain ⟨e1, e2, e3, e4, e5⟩ := e
  obtain ⟨a1, a2, a3, a4⟩ := e2 w hne
  refine ⟨by rw [a4, h1], fun k hk hk2 => ?_⟩
  rw [e5 _ (by omega), e5 _ (by omega), e5 _ (by omega)]
  exact h2 k hk hk2
theorem TY.oth {M M' : Mem} {b v : Int} {W : TW} (h : TY M b W) (e : othY v M M') : TY M' b W := h.off (fun a a1 a2 => e.1 a (by simp; omega))
/-! copies -/
theorem y_cp_122 {to fr : Int} {M0 : Mem} {Q : Mem → Prop} {n : Nat} (ht : 0 ≤ to ∧ to < 22) (hf : 0 ≤ fr ∧ fr < 22) (hne : to ≠ fr) (hn : M0 232 fr = (n : Nat)) (h40 : n ≤ 40) (h : ∀ M', othY to M0 M' → (∀ i : Nat, i < 3 * n → M' 233 (120 * to + i) = M0 233 (120 * fr + i)) → (∀ a, a ≠ 233 → M' a = M0 a) → Q M') :
    ∀ (d k : Nat) (M : Mem), k + d = 3 * n → othY to M0 M → (∀ i : Nat, i < k → M 233 (120 * to + i) = M0 233 (120 * fr + i)) → (∀ a, a ≠ 233 → M a = M0 a) → m_X12_copies_L122 Q to fr (d + 1) k M
  | 0, k, M, hd, h1, h2, h3 => by
    unfold m_X12_copies_L122
    rw [h3 232 (by decide), hn]
    exact ⟨hf, by omega, by omega, fun _ => h M h1 (fun i hi => h2 i (by omega)) h3, fun q => by omega⟩
  | d + 1, k, M, hd, h1, h2, h3 => by
    unfold m_X12_copies_L122
    rw [h3 232 (by decide), hn]
    refine ⟨hf, by omega, by omega, fun q => by omega, fun _ => ⟨by omega, by omega, fun M1 e1 => ?_⟩⟩
    rw [h1.2.2.2.2 _ (by omega)] at e1
    refine y_cp_122 ht hf hne hn h40 h d (k + 1) M1 (by omega) (h1.tr (othY.ke e1 (by omega))) (fun i hi => ?_) (fun a ha => by rw [e1, up_ne _ ha, h3 a ha])
    rw [e1]
    simp only [up_get]
    by_cases c : i = k
    · subst c; simp
    · rw [if_neg (by omega)]; exact h2 i (by omega)
theorem y_cp_74 {to fr : Int} {M0 : Mem} {Q : Mem → Prop} {n : Nat} (ht : 0 ≤ to ∧ to < 22) (hf : 0 ≤ fr ∧ fr < 22) (hne : to ≠ fr) (hn : M0 232 fr = (n : Nat)) (h40 : n ≤ 40) (h : ∀ M', othY to M0 M' → (∀ i : Nat, i < 27 → M' 231 (27 * to + i) = M0 231 (27 * fr + i)) → M' 232 to = n → (∀ i : Nat, i < 3 * n → M' 233 (120 * to + i) = M0 233 (120 * fr + i)) → (∀ a, a ≠ 231 → a ≠ 232 → a ≠ 233 → M' a = M0 a) → Q M') :
    ∀ (d k : Nat) (M : Mem), k + d = 27 → othY to M0 M → (∀ i : Nat, i < k → M 231 (27 * to + i) = M0 231 (27 * fr + i)) → (∀ a, a ≠ 231 → M a = M0 a) → m_X12_copies_L74 Q to fr (d + 1) k M
  | 0, k, M, hd, h1, h2, h3 => by
    unfold m_X12_copies_L74
    refine ⟨by omega, fun _ => ⟨hf, ht, fun M1 e1 => ⟨3 * n + 1, ?_⟩⟩, fun q => by omega⟩
    rw [h3 232 (by decide), hn] at e1
    have o1 := othY.one e1 (by decide)
    refine y_cp_122 (M0 := M1) ht hf hne (by rw [(o1.2.1 fr (fun z => hne z.symm)).2.2.2, h3 232 (by decide), hn]) h40 (fun M2 o2 c2 r2 => ?_) (3 * n) 0 M1 (by omega) othY.rf (fun i hi => by omega) (fun _ _ => rfl)
    refine h M2 ((h1.tr o1).tr o2) (fun i hi => ?_) ?_ (fun i hi => ?_) (fun a a1 a2 a3 => ?_)
    · rw [r2 231 (by decide), e1, up_ne _ (by decide), h2 i (by omega)]
    · rw [r2 232 (by decide), e1]; simp [up_get]
    · rw [c2 i hi, e1, up_ne _ (by decide), h3 233 (by decide)]
    · rw [r2 a a3, e1, up_ne _ a2, h3 a a1]
  | d + 1, k, M, hd, h1, h2, h3 => by
    unfold m_X12_copies_L74
    refine ⟨by omega, fun q => by omega, fun _ => ⟨by omega, by omega, fun M1 e1 => ?_⟩⟩
    rw [h1.2.2.2.1 _ (by omega)] at e1
    refine y_cp_74 ht hf hne hn h40 h d (k + 1) M1 (by omega) (h1.tr (othY.re e1 (by omega))) (fun i hi => ?_) (fun a ha => by rw [e1, up_ne _ ha, h3 a ha])
    rw [e1]
    simp only [up_get]
    by_cases c : i = k
    · subst c; simp
    · rw [if_neg (by omega)]; exact h2 i (by omega)
theorem y_cp_26 {to fr : Int} {M0 : Mem} {Q : Mem → Prop} {n : Nat} (ht : 0 ≤ to ∧ to < 22) (hf : 0 ≤ fr ∧ fr < 22) (hne : to ≠ fr) (hn : M0 232 fr = (n : Nat)) (h40 : n ≤ 40) (h : ∀ M', othY to M0 M' → (∀ i : Nat, i < 6 → M' 228 (6 * to + i) = M0 228 (6 * fr + i)) → M' 230 to = M0 230 fr → (∀ i : Nat, i < 27 → M' 231 (27 * to + i) = M0 231 (27 * fr + i)) → M' 232 to = n → (∀ i : Nat, i < 3 * n → M' 233 (120 * to + i) = M0 233 (120 * fr + i)) → M' 227 = M0 227 → M' 229 = M0 229 → Q M') :
    ∀ (d k : Nat) (M : Mem), k + d = 6 → othY to M0 M → (∀ i : Nat, i < k → M 228 (6 * to + i) = M0 228 (6 * fr + i)) → (∀ a, a ≠ 228 → M a = M0 a) → m_X12_copies_L26 Q to fr (d + 1) k M
  | 0, k, M, hd, h1, h2, h3 => by
    unfold m_X12_copies_L26
    refine ⟨by omega, fun _ => ⟨hf, ht, fun M1 e1 => ⟨28, ?_⟩⟩, fun q => by omega⟩
    rw [h3 230 (by decide)] at e1
    have o1 := othY.one e1 (by decide)
    refine y_cp_74 (M0 := M1) ht hf hne (by rw [(o1.2.1 fr (fun z => hne z.symm)).2.2.2, h3 232 (by decide), hn]) h40 (fun M2 o2 c1 c2 c3 r2 => ?_) 27 0 M1 (by omega) othY.rf (fun i hi => by omega) (fun _ _ => rfl)
    refine h M2 ((h1.tr o1).tr o2) (fun i hi => ?_) ?_ (fun i hi => ?_) c2 (fun i hi => ?_) ?_ ?_
    · rw [r2 228 (by decide) (by decide) (by decide), e1, up_ne _ (by decide), h2 i (by omega)]
    · rw [r2 230 (by decide) (by decide) (by decide), e1]; simp [up_get]
    · rw [c1 i hi, e1, up_ne _ (by decide), h3 231 (by decide)]
    · rw [c3 i hi, e1, up_ne _ (by decide), h3 233 (by decide)]
    · rw [r2 227 (by decide) (by decide) (by decide), e1, up_ne _ (by decide), h3 227 (by decide)]
    · rw [r2 229 (by decide) (by decide) (by decide), e1, up_ne _ (by decide), h3 229 (by decide)]
  | d + 1, k, M, hd, h1, h2, h3 => by
    unfold m_X12_copies_L26
    refine ⟨by omega, fun q => by omega, fun _ => ⟨by omega, by omega, fun M1 e1 => ?_⟩⟩
    rw [h1.2.2.1 _ (by omega)] at e1
    refine y_cp_26 ht hf hne hn h40 h d (k + 1) M1 (by omega) (h1.tr (othY.sp e1 (by omega))) (fun i hi => ?_) (fun a ha => by rw [e1, up_ne _ ha, h3 a ha])
    rw [e1]
    simp only [up_get]
    by_cases c : i = k
    · subst c; simp
    · rw [if_neg (by omega)]; exact h2 i (by omega)
theorem y_copies {to fr : Int} {M : Mem} {Q : Mem → Prop} {W : TW} {S : TS} {kp : List (Int × Int × Int)} (ht : 0 ≤ to ∧ to < 22) (hne : to ≠ fr) (hV : SY M fr W S) (hS : SOK W S) (hW : WOK W) (hK : KY M fr kp) (h : ∀ M', othY to M M' → SY M' to W S → KY M' to kp → Q M') : m_X12_copies to fr M Q := by
  have hf := hV.1
  have l9 := hS.2.2.2.2.1
  have w2 := hW.2.1
  have hn : M 232 fr = ((if kp.length < 40 then kp.length else 40 : Nat) : Int) := by rw [hK.1]; split <;> rfl
  have h40 : (if kp.length < 40 then kp.length else 40) ≤ 40 := by split <;> omega
  obtain ⟨v1, v2, v3, v4, v5, v6⟩ := hV
  refine ⟨hf, ht, fun M1 e1 => ⟨hf, ht, fun M2 e2 => ⟨7, ?_⟩⟩⟩
  have o1 := othY.one e1 (by decide)
  have o2 := othY.one e2 (by decide)
  have o12 := o1.tr o2
  have q2 : ∀ a, a ≠ 227 → a ≠ 229 → M2 a = M a := fun a a1 a2 => by rw [e2, up_ne _ a2, e1, up_ne _ a1]
  refine y_cp_26 (M0 := M2) ht hf hne (by rw [q2 232 (by decide) (by decide)]; exact hn) h40 (fun M3 o3 c1 c2 c3 c4 c5 c6 c7 => ?_) 6 0 M2 (by omega) othY.rf (fun i hi => by omega) (fun _ _ => rfl)
  refine h M3 (o12.tr o3) ⟨ht, ?_, ?_, fun p hp => ?_, ?_, fun k hk => ?_⟩ ⟨?_, fun k hk hk2 => ?_⟩
  · rw [c6, e2, up_ne _ (by decide), e1]; simp [up_get, v2]
  · rw [c7, e2]
    simp only [up_get]
    rw [if_pos ⟨trivial, trivial⟩, e1, up_ne _ (by decide), v3]
  · rw [c1 p (by omega), q2 228 (by decide) (by decide), v4 p hp]
  · rw [c2, q2 230 (by decide) (by decide), v5]
  · have a := c3 (3 * k) (by omega)
    have b := c3 (3 * k + 1) (by omega)
    have c := c3 (3 * k + 2) (by omega)
    rw [q2 231 (by decide) (by decide)] at a b c
    obtain ⟨r1, r2, r3⟩ := v6 k hk
    rw [← r1, ← r2, ← r3]
    refine ⟨?_, ?_, ?_⟩
    · rw [show 3 * (9 * to + (k : Int)) = 27 * to + (3 * k : Nat) by omega, a]; congr 1; omega
    · rw [show 3 * (9 * to + (k : Int)) + 1 = 27 * to + (3 * k + 1 : Nat) by omega, b]; congr 1; omega
    · rw [show 3 * (9 * to + (k : Int)) + 2 = 27 * to + (3 * k + 2 : Nat) by omega, c]; congr 1; omega
  · rw [c4]; split <;> rfl
  · have hm : k < (if kp.length < 40 then kp.length else 40) := by split <;> omega
    have a := c5 (3 * k) (by omega)
    have b := c5 (3 * k + 1) (by omega)
    have c := c5 (3 * k + 2) (by omega)
    rw [q2 233 (by decide) (by decide)] at a b c
    obtain ⟨r1, r2, r3⟩ := hK.2 k hk hk2
    rw [← r1, ← r2, ← r3]
    refine ⟨?_, ?_, ?_⟩
    · rw [show 3 * (40 * to + (k : Int)) = 120 * to + (3 * k : Nat) by omega, a]; congr 1; omega
    · rw [show 3 * (40 * to + (k : Int)) + 1 = 120 * to + (3 * k + 1 : Nat) by omega, b]; congr 1; omega
    · rw [show 3 * (40 * to + (k : Int)) + 2 = 120 * to + (3 * k + 2 : Nat) by omega, c]; congr 1; omega
