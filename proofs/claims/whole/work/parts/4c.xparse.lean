/-! the class reads tests and sums -/
theorem isForm {o : Int} (h : kd o = 1) : o = 17 ∨ o = 20 ∨ o = 34 ∨ o = 37 := kd_all (P := fun o => kd o = 1 → o = 17 ∨ o = 20 ∨ o = 34 ∨ o = 37) (by decide +kernel) h (by decide) h
/-- at the token s, the codes cs read into the formula fo -/
def PSX (M : Mem) (T : List Int) (fo : Int) (g : Bool) (s : Nat) (cs : List Int) : Prop := LX M T s ∧ M 5 1 = fo ∧ M 5 2 = (if g = true then 1 else 0) ∧ M fo 2 = (cs.length : Nat) ∧ ∀ j : Nat, j < cs.length → M (fo + 1) j = cs.getD j 0
def oQ (fo : Int) (M M' : Mem) : Prop := (∀ a, a ≠ 1 → a ≠ fo → a ≠ fo + 1 → M' a = M a) ∧ M' 1 1 = M 1 1 ∧ ∀ k, k ≠ 2 → M' fo k = M fo k
def oS (fo : Int) (M M' : Mem) : Prop := oQ fo M M' ∧ M' 1 6 = M 1 6 ∧ M' 1 7 = M 1 7
theorem oQ.tr {fo : Int} {M M1 M2 : Mem} (h : oQ fo M M1) (k : oQ fo M1 M2) : oQ fo M M2 := ⟨fun a p q r => by rw [k.1 a p q r, h.1 a p q r], by rw [k.2.1, h.2.1], fun a p => by rw [k.2.2 a p, h.2.2 a p]⟩
theorem oS.rf {fo : Int} {M : Mem} : oS fo M M := ⟨⟨fun _ _ _ _ => rfl, rfl, fun _ _ => rfl⟩, rfl, rfl⟩
theorem oS.tr {fo : Int} {M M1 M2 : Mem} (h : oS fo M M1) (k : oS fo M1 M2) : oS fo M M2 := ⟨h.1.tr k.1, by rw [k.2.1, h.2.1], by rw [k.2.2, h.2.2]⟩
theorem oT.s {fo : Int} {M M1 : Mem} (h : oT M M1) (hf : fo ≠ 1) : oS fo M M1 := ⟨⟨fun a p _ _ => h.1 a p, h.2.1, fun k _ => by rw [h.1 fo hf]⟩, h.2.2⟩
theorem oF.q {fo : Int} {M M1 : Mem} (h : oF M M1) (hf : fo ≠ 1) : oQ fo M M1 := ⟨fun a p _ _ => h.1 a p, h.2, fun k _ => by rw [h.1 fo hf]⟩
def okX (Q : Int → Mem → Prop) (M : Mem) (T : List Int) (fo : Int) (g : Bool) (cs : List Int) : (Int × Int) ⊕ (List Int × Nat) → Prop
  | .inl e => ∀ M', oQ fo M M' → FX M' e → Q 0 M'
  | .inr (c, t) => ∀ M', PSX M' T fo g t (cs ++ c) → oS fo M M' → Q 1 M'
theorem bn_x {r : PR} {k : Nat → PR} {x : (Int × Int) ⊕ (List Int × Nat)} (h : bn r k = some x) : (∃ e, r = some (.inl e) ∧ x = .inl e) ∨ ∃ c1 s1 x2, r = some (.inr (c1, s1)) ∧ k s1 = some x2 ∧ pre c1 (some x2) = some x := by
  unfold bn at h
  split at h
  · simp at h
  · next e => exact Or.inl ⟨e, rfl, by simpa using h.symm⟩
  · next c1 s1 =>
    cases e : k s1 with
    | none => rw [e] at h; simp [pre] at h
    | some x2 => exact Or.inr ⟨c1, s1, x2, rfl, e, by rw [e] at h; exact h⟩
theorem pre_x {r : PR} {c : List Int} {x : (Int × Int) ⊕ (List Int × Nat)} (h : pre c r = some x) : ∃ x2, r = some x2 ∧ pre c (some x2) = some x := by
  cases e : r with
  | none => rw [e] at h; simp [pre] at h
  | some x2 => exact ⟨x2, rfl, by rw [e] at h; exact h⟩
section
variable {M : Mem} {T : List Int} {s : Nat} {g : Bool} {fo : Int} {cs : List Int} {Q : Int → Mem → Prop}
theorem okX_pre {c : List Int} {x x2 : (Int × Int) ⊕ (List Int × Nat)} (h : okX Q M T fo g cs x) (hp : pre c (some x2) = some x) {M' : Mem} (o : oS fo M M') : okX Q M' T fo g (cs ++ c) x2 := by
  cases x2 with
  | inl e =>
    have : x = .inl e := by simpa [pre] using hp.symm
    subst this
    exact fun M2 o2 f => h M2 (o.1.tr o2) f
  | inr q =>
    obtain ⟨d, t⟩ := q
    have : x = .inr (c ++ d, t) := by simpa [pre] using hp.symm
    subst this
    intro M2 p2 o2
    rw [List.append_assoc] at p2
    exact h M2 p2 (o.tr o2)
theorem okX_st {x : (Int × Int) ⊕ (List Int × Nat)} (h : okX Q M T fo g cs x) {M' : Mem} (o : oS fo M M') : okX Q M' T fo g cs x := by
  cases x with
  | inl e => exact fun M2 o2 f => h M2 (o.1.tr o2) f
  | inr q => exact fun M2 p2 o2 => h M2 p2 (o.tr o2)
theorem PSX.adv {M' : Mem} {t : Nat} (h : PSX M T fo g s cs) (hf : kd fo = 1) (hx : LX M' T t) (o : oT M M') : PSX M' T fo g t cs := by
  have k := isForm hf
  obtain ⟨h1, h2, h3, h4, h5⟩ := h
  refine ⟨hx, by rw [o.1 5 (by decide), h2], by rw [o.1 5 (by decide), h3], by rw [o.1 fo (by omega), h4], ?_⟩
  rw [o.1 (fo + 1) (by omega)]
  exact h5
theorem x_fadd {code : Int} (hf : kd fo = 1) (hp : PSX M T fo g s cs) (hl : cs.length < 1600) (h : ∀ M', PSX M' T fo g s (cs ++ [code]) → oS fo M M' → Q 1 M') : kd (M 5 1) = 1 ∧ m_X1_add (M 5 1) code M Q := by
  have k := isForm hf
  obtain ⟨h1, h2, h3, h4, h5⟩ := hp
  rw [h2]
  unfold m_X1_add m_X1_add_J30
  rw [h4]
  refine ⟨hf, hf, by omega, fun q => by omega, fun _ => ⟨by omega, fun M3 e3 M4 e4 => ?_⟩⟩
  have z : ∀ a, a ≠ fo → a ≠ fo + 1 → M4 a = M a := fun a a1 a2 => by rw [e4, up_ne _ a1, e3, up_ne _ a2]
  have zf : ∀ k, k ≠ 2 → M4 fo k = M fo k := fun k hk => by
    rw [e4, up_get, if_neg (by omega), e3, up_ne _ (by omega)]
  refine h M4 ⟨?_, by rw [z 5 (by omega) (by omega), h2], by rw [z 5 (by omega) (by omega), h3], ?_, fun j hj => ?_⟩ ⟨⟨fun a _ a1 a2 => z a a1 a2, by rw [z 1 (by omega) (by omega)], zf⟩, by rw [z 1 (by omega) (by omega)], by rw [z 1 (by omega) (by omega)]⟩
  · unfold LX rw1 at *
    rw [z 1 (by omega) (by omega), z 2 (by omega) (by omega), z 3 (by omega) (by omega)]
    exact h1
  · rw [e4, up_get, if_pos ⟨rfl, rfl⟩, e3, up_ne _ (by omega), h4, List.length_append, List.length_singleton]
    omega
  · rw [e4, up_ne _ (by omega), e3, up_get]
    rw [List.length_append, List.length_singleton] at hj
    by_cases c : j = cs.length
    · rw [if_pos ⟨rfl, by omega⟩, getD_app, if_neg (by omega), if_pos c]
    · rw [if_neg (by omega), h5 j (by omega), getD_app, if_pos (by omega)]
theorem x_sg {c : Int} {A B : Mem → Prop} (hT : TB T) (hx : LX M T s) (hc : 0 ≤ c ∧ c < 256) (h0 : ts T s ≠ c → A M) (h1 : ts T s = c → B M) : m_X7_isSign c M (fun r M' => (inI r) ∧ ((r = 0 → A M') ∧ (¬ r = 0 → B M'))) := by
  refine x_isSign hT hx hc ?_
  by_cases q : ts T s = c
  · rw [if_pos q]
    exact ⟨by decide, fun z => absurd z (by decide), fun _ => h1 q⟩
  · rw [if_neg q]
    exact ⟨by decide, fun _ => h0 q, fun z => absurd rfl z⟩
theorem x_ow {c : Int} {A B : Mem → Prop} (hx : LX M T s) (hc : 0 ≤ c ∧ c < 256) (h0 : tw T s ≠ c → A M) (h1 : tw T s = c → B M) : m_X7_isOwn c M (fun r M' => (inI r) ∧ ((r = 0 → A M') ∧ (¬ r = 0 → B M'))) := by
  refine x_isOwn hx hc ?_
  by_cases q : tw T s = c
  · rw [if_pos q]
    exact ⟨by decide, fun z => absurd z (by decide), fun _ => h1 q⟩
  · rw [if_neg q]
    exact ⟨by decide, fun _ => h0 q, fun z => absurd rfl z⟩
theorem x_comparison (hT : TB T) (hx : LX M T s) (h : Q (cmc T s) M) : m_X2_comparison M Q := by
  unfold m_X2_comparison m_X2_comparison_J48
  unfold cmc at h
  refine x_sg hT hx (by decide) (fun q1 => ?_) (fun q1 => ?_)
  · rw [if_neg q1] at h
    refine x_sg hT hx (by decide) (fun q2 => ?_) (fun q2 => ?_)
    · rw [if_neg q2] at h
      refine x_sg hT hx (by decide) (fun q3 => ?_) (fun q3 => ?_)
      · rwa [if_neg q3] at h
      · rwa [if_pos q3] at h
    · rwa [if_pos q2] at h
  · rwa [if_pos q1] at h
theorem x_productCode (hT : TB T) (hx : LX M T s) (h : Q (prc T s) M) : m_X2_productCode M Q := by
  unfold m_X2_productCode m_X2_productCode_J48
  unfold prc at h
  refine x_sg hT hx (by decide) (fun q1 => ?_) (fun q1 => ?_)
  · rw [if_neg q1] at h
    refine x_sg hT hx (by decide) (fun q2 => ?_) (fun q2 => ?_)
    · rw [if_neg q2] at h
      refine x_sg hT hx (by decide) (fun q3 => ?_) (fun q3 => ?_)
      · rwa [if_neg q3] at h
      · rwa [if_pos q3] at h
    · rwa [if_pos q2] at h
  · rwa [if_pos q1] at h
theorem rq_0 {A B : Prop} (h : A) : (inI 0) ∧ (((0 : Int) = 0 → A) ∧ (¬ (0 : Int) = 0 → B)) := ⟨by decide, fun _ => h, fun z => absurd rfl z⟩
theorem rq_1 {A B : Prop} (h : B) : (inI 1) ∧ (((1 : Int) = 0 → A) ∧ (¬ (1 : Int) = 0 → B)) := ⟨by decide, fun z => absurd z (by decide), fun _ => h⟩
theorem x_take {c : Int} (hT : TB T) (hf : kd fo = 1) (hp : PSX M T fo g s cs) (hl : cs.length ≤ s) (hb : bd T s = -1) (h0 : so T s ≠ 0) (h : okX Q M T fo g cs (.inr ([c], nx T s))) : m_X2_take c M (fun r M' => (r = 0 ∨ r = 1) ∧ Q r M') := by
  have k := isForm hf
  unfold m_X2_take
  refine x_adv hT hp.1 hb h0 fun M1 l1 o1 => ?_
  have n := nx_rng hp.1.le
  have := n.2.2 h0
  have tl := hT.1
  exact x_fadd hf (hp.adv hf l1 o1) (by omega) fun M2 p2 o2 => ⟨by decide, by decide, h M2 p2 ((o1.s (by omega)).tr o2)⟩
theorem x_opens {o : Nat} {A B : Mem → Prop} (hT : TB T) (hf : kd fo = 1) (hp : PSX M T fo g s cs) (hb : bd T s = -1) (h0 : so T s ≠ 0) (ho : o ≤ 7) (hA : 7 ≤ o → ∀ M', oQ fo M M' → FX M' (5, (s : Nat)) → A M') (hB : o < 7 → ∀ M', PSX M' T fo g (nx T s) cs → oS fo M M' → B M') : m_X2_opens (o : Nat) M (fun r M' => (inI r) ∧ ((r = 0 → A M') ∧ (¬ r = 0 → B M'))) := by
  have k := isForm hf
  unfold m_X2_opens
  refine ⟨by omega, fun q => x_adv hT hp.1 hb h0 fun M1 l1 o1 => rq_1 (hB (by omega) M1 (hp.adv hf l1 o1) (o1.s (by omega))), fun q => x_fail hp.1 fun M1 o1 f1 => ⟨by decide, rq_0 (hA (by omega) M1 (o1.q (by omega)) f1)⟩⟩
theorem x_fts {c : Int} {A B : Mem → Prop} (hT : TB T) (hf : kd fo = 1) (hp : PSX M T fo g s cs) (hc : 0 ≤ c ∧ c < 256) (hA : ts T s ≠ c → ∀ M', oQ fo M M' → FX M' (1, wr T s) → A M') (hB : ts T s = c → ∀ M', PSX M' T fo g (nx T s) cs → oS fo M M' → B M') : m_X7_takeSign c M (fun r M' => (inI r) ∧ ((r = 0 → A M') ∧ (¬ r = 0 → B M'))) := by
  have k := isForm hf
  exact x_takeSign hT hp.1 hc (fun q M1 l1 o1 => rq_1 (hB q M1 (hp.adv hf l1 o1) (o1.s (by omega)))) (fun q M1 o1 f1 => rq_0 (hA q M1 (o1.q (by omega)) f1))
theorem x_opensBracket {o : Nat} {A B : Mem → Prop} (hT : TB T) (hf : kd fo = 1) (hp : PSX M T fo g s cs) (ho : o ≤ 7) (hN : ts T s ≠ 40 → ∀ M', oQ fo M M' → FX M' (1, wr T s) → A M') (hA : ts T s = 40 → 7 ≤ o → ∀ M', oQ fo M M' → FX M' (5, (s : Nat)) → A M') (hB : ts T s = 40 → o < 7 → ∀ M', PSX M' T fo g (nx T s) cs → oS fo M M' → B M') : m_X2_opensBracket (o : Nat) M (fun r M' => (inI r) ∧ ((r = 0 → A M') ∧ (¬ r = 0 → B M'))) := by
  have k := isForm hf
  unfold m_X2_opensBracket m_X2_opensBracket_J27
  refine x_sg hT hp.1 (by decide) (fun q => x_misplaced hp.1 fun M1 o1 f1 => ⟨by decide, rq_0 (hN q M1 (o1.q (by omega)) f1)⟩) (fun q => ?_)
  have b := ts_b (T := T) (s := s) (by omega)
  unfold m_X2_opens
  refine ⟨by omega, fun q2 => x_adv hT hp.1 b.1 (by omega) fun M1 l1 o1 => ⟨by decide, rq_1 (hB q (by omega) M1 (hp.adv hf l1 o1) (o1.s (by omega)))⟩, fun q2 => x_fail hp.1 fun M1 o1 f1 => ⟨by decide, by decide, rq_0 (hA q (by omega) M1 (o1.q (by omega)) f1)⟩⟩
end
section
variable {T : List Int} {g : Bool} {fo : Int}
def xA (T : List Int) (g : Bool) (fo : Int) (f : Nat) : Prop := ∀ (w o s d : Nat) (M : Mem) (Q : Int → Mem → Prop) (cs : List Int) (r : (Int × Int) ⊕ (List Int × Nat)), w < 6 → pd T g f w o s = some r → PSX M T fo g s cs → cs.length ≤ s → o ≤ 7 → 7 * (7 - o) + (7 - w) ≤ d → okX Q M T fo g cs r → fr d w (o : Nat) 0 M Q
def xL (L : (Nat → Int → Int → Mem → (Int → Mem → Prop) → Prop) → (Int → Mem → Prop) → Int → Nat → Int → Int → Mem → Prop) (w k : Nat) (T : List Int) (g : Bool) (fo : Int) (f : Nat) : Prop := ∀ (o s d v fu : Nat) (M : Mem) (Q : Int → Mem → Prop) (cs : List Int) (r : (Int × Int) ⊕ (List Int × Nat)), pd T g f w o s = some r → PSX M T fo g s cs → cs.length ≤ s → o ≤ 7 → 7 * (7 - o) + k ≤ d → v ≤ s → T.length - s + 2 ≤ fu → okX Q M T fo g cs r → L (fr d) Q (o : Nat) fu 1 (v : Nat) M
theorem x_t0 {F : Nat → Int → Int → Mem → (Int → Mem → Prop) → Prop} {Q : Int → Mem → Prop} {v1 : Int} {fu v : Nat} {M : Mem} (hv : v ≤ 2000) (h : Q 0 M) : m_X2_test_L8 F Q v1 (fu + 1) 0 (v : Nat) M := by
  unfold m_X2_test_L8 m_X2_test_J70
  exact ⟨by omega, fun _ => ⟨by decide, h⟩, fun _ => ⟨by decide, fun _ => ⟨by decide, h⟩, fun z => absurd rfl z⟩⟩
theorem x_b0 {F : Nat → Int → Int → Mem → (Int → Mem → Prop) → Prop} {Q : Int → Mem → Prop} {v1 : Int} {fu v : Nat} {M : Mem} (hv : v ≤ 2000) (h : Q 0 M) : m_X2_both_L8 F Q v1 (fu + 1) 0 (v : Nat) M := by
  unfold m_X2_both_L8 m_X2_both_J70
  exact ⟨by omega, fun _ => ⟨by decide, h⟩, fun _ => ⟨by decide, fun _ => ⟨by decide, h⟩, fun z => absurd rfl z⟩⟩
theorem x_s0 {F : Nat → Int → Int → Mem → (Int → Mem → Prop) → Prop} {Q : Int → Mem → Prop} {v1 : Int} {fu v : Nat} {M : Mem} (hv : v ≤ 2000) (h : Q 0 M) : m_X2_sum_L8 F Q v1 (fu + 1) 0 (v : Nat) M := by
  unfold m_X2_sum_L8 m_X2_sum_J103
  exact ⟨by omega, fun _ => ⟨by decide, h⟩, fun _ => ⟨by decide, fun _ => ⟨by decide, h⟩, fun z => absurd rfl z⟩⟩
theorem x_p0 {F : Nat → Int → Int → Mem → (Int → Mem → Prop) → Prop} {Q : Int → Mem → Prop} {v1 : Int} {fu v : Nat} {M : Mem} (hv : v ≤ 2000) (h : Q 0 M) : m_X2_product_L8 F Q v1 (fu + 1) 0 (v : Nat) M := by
  unfold m_X2_product_L8 m_X2_product_J71
  exact ⟨by omega, fun _ => ⟨by decide, h⟩, fun _ => ⟨by decide, fun _ => ⟨by decide, h⟩, fun z => absurd rfl z⟩⟩
theorem cast1 (v : Nat) : ((v : Int) + 1) = ((v + 1 : Nat) : Int) := by omega
/-- or -/
theorem x_8 {f : Nat} (hT : TB T) (hf : kd fo = 1) (hA : xA T g fo f) (hL : xL m_X2_test_L8 8 6 T g fo f) : xL m_X2_test_L8 8 6 T g fo (f + 1) := by
  intro o s d v fu M Q cs r hr hp hl ho hd hv hfu h
  have tl := hT.1
  have sl := hp.1.le
  obtain ⟨fu, rfl⟩ : ∃ k, fu = k + 1 := ⟨fu - 1, by omega⟩
  simp only [pd] at hr
  unfold m_X2_test_L8 m_X2_test_J70 m_X2_test_J62 m_X2_test_J63
  by_cases q : tw T s = 18
  · rw [if_pos q] at hr
    have b := tw_b (T := T) (s := s) (by omega)
    have n := nx_tw sl (by omega)
    refine ⟨by omega, fun z => by omega, fun _ => ⟨by decide, fun z => absurd z (by decide), fun _ => x_ow hp.1 (by decide) (fun z => absurd q z) fun _ => x_adv hT hp.1 b.1 (by omega) fun M1 l1 o1 => ?_⟩⟩
    have p1 := hp.adv hf l1 o1
    have k := isForm hf
    have s1 : oS fo M M1 := o1.s (by omega)
    rcases bn_x hr with ⟨e, hr1, rfl⟩ | ⟨c1, t1, x2, hr1, hr2, hpre⟩
    · refine hA 1 o _ d M1 _ cs _ (by decide) hr1 p1 (by omega) ho (by omega) fun M2 o2 f2 => rq_0 ?_
      rw [cast1]
      obtain ⟨fu, rfl⟩ : ∃ k, fu = k + 1 := ⟨fu - 1, by omega⟩
      exact x_t0 (by omega) (h M2 (s1.1.tr o2) f2)
    · have pl := pd_len _ _ _ _ _ _ n.2 hr1
      refine hA 1 o _ d M1 _ cs _ (by decide) hr1 p1 (by omega) ho (by omega) fun M2 p2 o2 => rq_1 ?_
      refine x_fadd hf p2 (by rw [List.length_append]; omega) fun M3 p3 o3 => ⟨by decide, fun z => absurd z (by decide), fun _ => ?_⟩
      rw [cast1]
      obtain ⟨x3, e3, pre3⟩ := pre_x hr2
      refine hL o t1 d (v + 1) fu M3 Q _ x3 e3 p3 (by rw [List.length_append, List.length_append, List.length_singleton]; omega) ho hd (by omega) (by omega) ?_
      exact okX_pre (okX_pre h hpre ((s1.tr o2))) pre3 o3
  · rw [if_neg q] at hr
    have e : r = .inr ([], s) := by simpa using hr.symm
    subst e
    have fin : Q 1 M := h M (by rw [List.append_nil]; exact hp) oS.rf
    exact ⟨by omega, fun _ => ⟨by decide, fin⟩, fun _ => ⟨by decide, fun z => absurd z (by decide), fun _ => x_ow hp.1 (by decide) (fun _ => ⟨by decide, fin⟩) fun z => absurd z q⟩⟩
/-- and -/
theorem x_9 {f : Nat} (hT : TB T) (hf : kd fo = 1) (hA : xA T g fo f) (hL : xL m_X2_both_L8 9 5 T g fo f) : xL m_X2_both_L8 9 5 T g fo (f + 1) := by
  intro o s d v fu M Q cs r hr hp hl ho hd hv hfu h
  have tl := hT.1
  have sl := hp.1.le
  obtain ⟨fu, rfl⟩ : ∃ k, fu = k + 1 := ⟨fu - 1, by omega⟩
  simp only [pd] at hr
  unfold m_X2_both_L8 m_X2_both_J70 m_X2_both_J62 m_X2_both_J63
  by_cases q : tw T s = 19
  · rw [if_pos q] at hr
    have b := tw_b (T := T) (s := s) (by omega)
    have n := nx_tw sl (by omega)
    refine ⟨by omega, fun z => by omega, fun _ => ⟨by decide, fun z => absurd z (by decide), fun _ => x_ow hp.1 (by decide) (fun z => absurd q z) fun _ => x_adv hT hp.1 b.1 (by omega) fun M1 l1 o1 => ?_⟩⟩
    have p1 := hp.adv hf l1 o1
    have k := isForm hf
    have s1 : oS fo M M1 := o1.s (by omega)
    rcases bn_x hr with ⟨e, hr1, rfl⟩ | ⟨c1, t1, x2, hr1, hr2, hpre⟩
    · refine hA 2 o _ d M1 _ cs _ (by decide) hr1 p1 (by omega) ho (by omega) fun M2 o2 f2 => rq_0 ?_
      rw [cast1]
      obtain ⟨fu, rfl⟩ : ∃ k, fu = k + 1 := ⟨fu - 1, by omega⟩
      exact x_b0 (by omega) (h M2 (s1.1.tr o2) f2)
    · have pl := pd_len _ _ _ _ _ _ n.2 hr1
      refine hA 2 o _ d M1 _ cs _ (by decide) hr1 p1 (by omega) ho (by omega) fun M2 p2 o2 => rq_1 ?_
      refine x_fadd hf p2 (by rw [List.length_append]; omega) fun M3 p3 o3 => ⟨by decide, fun z => absurd z (by decide), fun _ => ?_⟩
      rw [cast1]
      obtain ⟨x3, e3, pre3⟩ := pre_x hr2
      refine hL o t1 d (v + 1) fu M3 Q _ x3 e3 p3 (by rw [List.length_append, List.length_append, List.length_singleton]; omega) ho hd (by omega) (by omega) ?_
      exact okX_pre (okX_pre h hpre ((s1.tr o2))) pre3 o3
  · rw [if_neg q] at hr
    have e : r = .inr ([], s) := by simpa using hr.symm
    subst e
    have fin : Q 1 M := h M (by rw [List.append_nil]; exact hp) oS.rf
    exact ⟨by omega, fun _ => ⟨by decide, fin⟩, fun _ => ⟨by decide, fun z => absurd z (by decide), fun _ => x_ow hp.1 (by decide) (fun _ => ⟨by decide, fin⟩) fun z => absurd z q⟩⟩
/-- + and - -/
theorem x_10 {f : Nat} (hT : TB T) (hf : kd fo = 1) (hA : xA T g fo f) (hL : xL m_X2_sum_L8 10 3 T g fo f) : xL m_X2_sum_L8 10 3 T g fo (f + 1) := by
  intro o s d v fu M Q cs r hr hp hl ho hd hv hfu h
  have tl := hT.1
  have sl := hp.1.le
  obtain ⟨fu, rfl⟩ : ∃ k, fu = k + 1 := ⟨fu - 1, by omega⟩
  simp only [pd] at hr
  have k := isForm hf
  by_cases q : smc T s ≠ 0
  · rw [if_pos q] at hr
    have b := ts_b (smc_ts q)
    have n := nx_ts sl (smc_ts q)
    have go : m_X2_sum_J62 (fr d) (m_X2_sum_L8 (fr d) Q (o : Nat) fu) Q (o : Nat) (v : Nat) (smc T s) M := by
      unfold m_X2_sum_J62 m_X2_sum_J95 m_X2_sum_J96
      refine x_adv hT hp.1 b.1 (by omega) fun M1 l1 o1 => ?_
      have p1 := hp.adv hf l1 o1
      have s1 : oS fo M M1 := o1.s (by omega)
      rcases bn_x hr with ⟨e, hr1, rfl⟩ | ⟨c1, t1, x2, hr1, hr2, hpre⟩
      · refine hA 4 o _ d M1 _ cs _ (by decide) hr1 p1 (by omega) ho (by omega) fun M2 o2 f2 => rq_0 ?_
        rw [cast1]
        obtain ⟨fu, rfl⟩ : ∃ k, fu = k + 1 := ⟨fu - 1, by omega⟩
        exact x_s0 (by omega) (h M2 (s1.1.tr o2) f2)
      · have pl := pd_len _ _ _ _ _ _ n.2 hr1
        refine hA 4 o _ d M1 _ cs _ (by decide) hr1 p1 (by omega) ho (by omega) fun M2 p2 o2 => rq_1 ?_
        refine x_fadd hf p2 (by rw [List.length_append]; omega) fun M3 p3 o3 => ⟨by decide, fun z => absurd z (by decide), fun _ => ?_⟩
        rw [cast1]
        obtain ⟨x3, e3, pre3⟩ := pre_x hr2
        refine hL o t1 d (v + 1) fu M3 Q _ x3 e3 p3 (by rw [List.length_append, List.length_append, List.length_singleton]; omega) ho hd (by omega) (by omega) ?_
        exact okX_pre (okX_pre h hpre ((s1.tr o2))) pre3 o3
    have go2 : m_X2_sum_J43 (fr d) (m_X2_sum_L8 (fr d) Q (o : Nat) fu) Q (o : Nat) (v : Nat) M := by
      unfold m_X2_sum_J43
      refine x_sg hT hp.1 (by decide) (fun z => ?_) (fun z => ?_)
      · have : smc T s = -9 := by unfold smc at q ⊢; omega
        rw [this] at go
        exact go
      · have : smc T s = -8 := by unfold smc; rw [if_pos z]
        rw [this] at go
        exact go
    unfold m_X2_sum_L8 m_X2_sum_J103
    refine ⟨by omega, fun z => by omega, fun _ => ⟨by decide, fun z => absurd z (by decide), fun _ => x_sg hT hp.1 (by decide) (fun z => x_sg hT hp.1 (by decide) (fun z2 => absurd (by unfold smc; rw [if_neg z, if_neg z2]) q) fun _ => go2) fun _ => go2⟩⟩
  · rw [if_neg q] at hr
    have e : r = .inr ([], s) := by simpa using hr.symm
    subst e
    have fin : Q 1 M := h M (by rw [List.append_nil]; exact hp) oS.rf
    unfold smc at q
    unfold m_X2_sum_L8 m_X2_sum_J103
    exact ⟨by omega, fun _ => ⟨by decide, fin⟩, fun _ => ⟨by decide, fun z => absurd z (by decide), fun _ => x_sg hT hp.1 (by decide) (fun z => x_sg hT hp.1 (by decide) (fun z2 => ⟨by decide, fin⟩) fun z2 => by omega) fun z => by omega⟩⟩
/-- *, / and % -/
theorem x_11 {f : Nat} (hT : TB T) (hf : kd fo = 1) (hA : xA T g fo f) (hL : xL m_X2_product_L8 11 2 T g fo f) : xL m_X2_product_L8 11 2 T g fo (f + 1) := by
  intro o s d v fu M Q cs r hr hp hl ho hd hv hfu h
  have tl := hT.1
  have sl := hp.1.le
  obtain ⟨fu, rfl⟩ : ∃ k, fu = k + 1 := ⟨fu - 1, by omega⟩
  simp only [pd] at hr
  have k := isForm hf
  unfold m_X2_product_L8 m_X2_product_J71 m_X2_product_J63 m_X2_product_J64
  by_cases q : prc T s ≠ 0
  · rw [if_pos q] at hr
    have b := ts_b (prc_ts q)
    have n := nx_ts sl (prc_ts q)
    have pq := prc_rng q
    refine ⟨by omega, fun z => by omega, fun _ => ⟨by decide, fun z => absurd z (by decide), fun _ => x_productCode hT hp.1 ⟨by omega, fun z => absurd z q, fun _ => x_productCode hT hp.1 (x_adv hT hp.1 b.1 (by omega) fun M1 l1 o1 => ?_)⟩⟩⟩
    have p1 := hp.adv hf l1 o1
    have s1 : oS fo M M1 := o1.s (by omega)
    rcases bn_x hr with ⟨e, hr1, rfl⟩ | ⟨c1, t1, x2, hr1, hr2, hpre⟩
    · refine hA 5 o _ d M1 _ cs _ (by decide) hr1 p1 (by omega) ho (by omega) fun M2 o2 f2 => rq_0 ?_
      rw [cast1]
      obtain ⟨fu, rfl⟩ : ∃ k, fu = k + 1 := ⟨fu - 1, by omega⟩
      exact x_p0 (by omega) (h M2 (s1.1.tr o2) f2)
    · have pl := pd_len _ _ _ _ _ _ n.2 hr1
      refine hA 5 o _ d M1 _ cs _ (by decide) hr1 p1 (by omega) ho (by omega) fun M2 p2 o2 => rq_1 ?_
      refine x_fadd hf p2 (by rw [List.length_append]; omega) fun M3 p3 o3 => ⟨by decide, fun z => absurd z (by decide), fun _ => ?_⟩
      rw [cast1]
      obtain ⟨x3, e3, pre3⟩ := pre_x hr2
      refine hL o t1 d (v + 1) fu M3 Q _ x3 e3 p3 (by rw [List.length_append, List.length_append, List.length_singleton]; omega) ho hd (by omega) (by omega) ?_
      exact okX_pre (okX_pre h hpre ((s1.tr o2))) pre3 o3
  · rw [if_neg q] at hr
    have e : r = .inr ([], s) := by simpa using hr.symm
    subst e
    have fin : Q 1 M := h M (by rw [List.append_nil]; exact hp) oS.rf
    exact ⟨by omega, fun _ => ⟨by decide, fin⟩, fun _ => ⟨by decide, fun z => absurd z (by decide), fun _ => x_productCode hT hp.1 ⟨by omega, fun _ => ⟨by decide, fin⟩, fun z => absurd z q⟩⟩⟩
end
