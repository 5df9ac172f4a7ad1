/-! the class reads statements -/
def fmX (M : Mem) (fo : Int) (cs : List Int) : Prop := M fo 2 = (cs.length : Nat) ∧ ∀ j : Nat, j < cs.length → M (fo + 1) j = cs.getD j 0
/-- the class's town in the making -/
def DX (M : Mem) (t : Int) (D : TD) : Prop := kd t = 8 ∧ M t 0 = ((dNa D).length : Nat) ∧ M t 5 = ((dNb D).length : Nat) ∧ M t 2 = (dRo D : Nat) ∧ M t 9 = (dWa D : Nat) ∧ M t 11 = dRa D ∧ (∀ i : Nat, i < (dNa D).length → M (t + 1) i = pkX ((dNa D).getD i [])) ∧ (∀ i : Nat, i < (dNb D).length → M (t + 4) i = pkX ((dNb D).getD i []) ∧ M (t + 5) i = dHo D i ∧ M (t + 6) i = dKi D i) ∧ (∀ i : Nat, i < (dNa D).length → 0 ≤ M (t + 2) i ∧ M (t + 2) i < 128 ∧ ∀ j : Nat, j < 7 → dRe D i j = (M (t + 2) i).toNat.testBit j) ∧ reX M (t + 7) (dFr D) ∧ fmX M (t + 11) (dSt D) ∧ fmX M (t + 14) (dGo D)
def XD (M : Mem) (T : List Int) (t : Int) (s : Nat) (D : TD) : Prop := LX M T s ∧ M 4 2 = t ∧ DX M t D
def oR (t : Int) (M M' : Mem) : Prop := (∀ a, a ≠ 1 → a ≠ 4 → a ≠ 5 → (a < t ∨ t + 16 < a) → M' a = M a) ∧ M' 1 1 = M 1 1
def oRs (t : Int) (M M' : Mem) : Prop := oR t M M' ∧ M' 1 6 = M 1 6 ∧ M' 1 7 = M 1 7
theorem oR.tr {t : Int} {M M1 M2 : Mem} (h : oR t M M1) (k : oR t M1 M2) : oR t M M2 := ⟨fun a p q r z => by rw [k.1 a p q r z, h.1 a p q r z], by rw [k.2, h.2]⟩
theorem oRs.rf {t : Int} {M : Mem} : oRs t M M := ⟨⟨fun _ _ _ _ _ => rfl, rfl⟩, rfl, rfl⟩
theorem oRs.tr {t : Int} {M M1 M2 : Mem} (h : oRs t M M1) (k : oRs t M1 M2) : oRs t M M2 := ⟨h.1.tr k.1, by rw [k.2.1, h.2.1], by rw [k.2.2, h.2.2]⟩
theorem oT.r {t : Int} {M M1 : Mem} (h : oT M M1) : oRs t M M1 := ⟨⟨fun a p _ _ _ => h.1 a p, h.2.1⟩, h.2.2⟩
theorem oF.r {t : Int} {M M1 : Mem} (h : oF M M1) : oR t M M1 := ⟨fun a p _ _ _ => h.1 a p, h.2⟩
theorem oRs.up {t a k v : Int} {M M1 : Mem} (e : M1 = up M a k v) (ha : a = 4 ∨ a = 5 ∨ (t ≤ a ∧ a ≤ t + 16)) (ht : 1 < t) : oRs t M M1 := by
  have z : ∀ c, c ≠ a → M1 c = M c := fun c hc => by rw [e, up_ne _ hc]
  exact ⟨⟨fun c c1 c4 c5 ct => z c (by omega), by rw [z 1 (by omega)]⟩, by rw [z 1 (by omega)], by rw [z 1 (by omega)]⟩
def okS (Q : Int → Mem → Prop) (M : Mem) (t : Int) (T : List Int) : SR → Prop
  | .inl e => ∀ M', oR t M M' → FX M' e → Q 0 M'
  | .inr (D, s) => ∀ M', XD M' T t s D → oRs t M M' → Q 1 M'
theorem DX.rows {M M' : Mem} {t : Int} {D : TD} (h : DX M t D) (e : ∀ a, t ≤ a → a ≤ t + 15 → M' a = M a) : DX M' t D := by
  unfold DX reX fmX at *
  rw [e t (by omega) (by omega), e (t + 1) (by omega) (by omega), e (t + 2) (by omega) (by omega), e (t + 4) (by omega) (by omega), e (t + 5) (by omega) (by omega), e (t + 6) (by omega) (by omega), e (t + 7) (by omega) (by omega), e (t + 7 + 1) (by omega) (by omega), e (t + 7 + 2) (by omega) (by omega), e (t + 7 + 3) (by omega) (by omega), e (t + 11) (by omega) (by omega), e (t + 11 + 1) (by omega) (by omega), e (t + 14) (by omega) (by omega), e (t + 14 + 1) (by omega) (by omega)]
  exact h
section
variable {M : Mem} {T : List Int} {t : Int} {s : Nat} {D : TD} {Q : Int → Mem → Prop}
theorem XD.adv {M' : Mem} {s' : Nat} (h : XD M T t s D) (l : LX M' T s') (o : oT M M') : XD M' T t s' D := by
  have k := isTown h.2.2.1
  exact ⟨l, by rw [o.1 4 (by decide), h.2.1], h.2.2.rows (fun a a1 a2 => o.1 a (by omega))⟩
theorem XD.found {M' : Mem} {v : Int} (h : XD M T t s D) (e : M' = up M 4 3 v) : XD M' T t s D := by
  have k := isTown h.2.2.1
  have z : ∀ c, c ≠ 4 → M' c = M c := fun c hc => by rw [e, up_ne _ hc]
  refine ⟨?_, by rw [e, up_get, if_neg (by decide), h.2.1], h.2.2.rows (fun a a1 a2 => z a (by omega))⟩
  have := h.1
  unfold LX rw1 at *
  rw [z 1 (by decide), z 2 (by decide), z 3 (by decide)]
  exact this
theorem XD.town {M' : Mem} {D' : TD} (h : XD M T t s D) (e : ∀ a, (a < t ∨ t + 16 < a) → M' a = M a) (hD : DX M' t D') : XD M' T t s D' ∧ oRs t M M' := by
  have k := isTown h.2.2.1
  refine ⟨⟨?_, by rw [e 4 (by omega), h.2.1], hD⟩, ⟨⟨fun a _ _ _ p => e a p, by rw [e 1 (by omega)]⟩, by rw [e 1 (by omega)], by rw [e 1 (by omega)]⟩⟩
  have := h.1
  unfold LX rw1 at *
  rw [e 1 (by omega), e 2 (by omega), e 3 (by omega)]
  exact this
theorem x_begins {c m : Nat} {A B : Mem → Prop} (hT : TB T) (hx : XD M T t s D) (hw : 0 ≤ tw T s) (hc : c ≤ 2000) (hm : m ≤ 2000) (hA : m ≤ c → ∀ M', oR t M M' → FX M' (6, (s : Nat)) → A M') (hB : c < m → ∀ M', XD M' T t (nx T s) D → oRs t M M' → B M') : m_X9_begins (c : Nat) (m : Nat) M (fun r M' => (inI r) ∧ ((r = 0 → A M') ∧ (¬ r = 0 → B M'))) := by
  have b := tw_b (T := T) (s := s) (by omega)
  unfold m_X9_begins
  exact ⟨by omega, by omega, fun q => x_adv hT hx.1 b.1 (by omega) fun M1 l1 o1 => rq_1 (hB (by omega) M1 (hx.adv l1 o1) o1.r), fun q => x_fail hx.1 fun M1 o1 f1 => ⟨by decide, rq_0 (hA (by omega) M1 o1.r f1)⟩⟩
theorem x_index_l {a : Int} {l : List (List Int)} {n : List Int} (hl : ∀ i : Nat, i < l.length → M a i = pkX (l.getD i [])) (hok : ∀ m ∈ l, okN m) (hn : okN n) (h7 : l.length ≤ 7) (hln : (l.length : Int) ≤ ln a) : ∀ (d k : Nat), k + d = l.length → Q (nix (l.drop k) n k) M → m_X8_indexIn_L2 Q a (l.length : Nat) (pkX n) (d + 1) (k : Nat) M
  | 0, k, hk, h => by
    unfold m_X8_indexIn_L2
    rw [List.drop_eq_nil_of_le (by omega)] at h
    exact ⟨by omega, by omega, fun _ => h, fun q => by omega⟩
  | d + 1, k, hk, h => by
    unfold m_X8_indexIn_L2
    have hk' : k < l.length := by omega
    have e : l.getD k [] = l[k] := by rw [List.getD_eq_getElem?_getD, List.getElem?_eq_getElem hk']; rfl
    have ok := hok _ (List.getElem_mem hk')
    have p1 := pkX_rng ok
    have p2 := pkX_rng hn
    rw [hl k hk', e]
    rw [List.drop_eq_getElem_cons hk'] at h
    unfold nix at h
    refine ⟨by omega, by omega, fun q => by omega, fun _ => ⟨by omega, by omega, by omega, fun q => ?_, fun q => ?_⟩⟩
    · rwa [if_pos (pkX_inj ok hn q)] at h
    · rw [if_neg (fun z => q (by rw [z]))] at h
      rw [cast1] at h ⊢
      exact x_index_l hl hok hn h7 hln d (k + 1) (by omega) h
theorem x_placeOf (hx : DX M t D) (hD : DOK D s) {n : List Int} (hn : okN n) (h : Q (nix (dNa D) n 0) M) : m_X8_placeOf t (pkX n) M Q := by
  have k := isTown hx.1
  unfold m_X8_placeOf m_X8_indexIn
  rw [hx.2.1]
  have l7 : ln (t + 1) = 7 := by rcases k with rfl | rfl <;> rfl
  have k20 : kd (t + 1) = 20 := by rcases k with rfl | rfl <;> rfl
  exact ⟨hx.1, k20, _, x_index_l hx.2.2.2.2.2.2.1 hD.2.2.1 hn hD.1 (by rw [l7]; have := hD.1; omega) (dNa D).length 0 (by omega) h⟩
theorem x_personOf (hx : DX M t D) (hD : DOK D s) {n : List Int} (hn : okN n) (h : Q (nix (dNb D) n 0) M) : m_X8_personOf t (pkX n) M Q := by
  have k := isTown hx.1
  unfold m_X8_personOf m_X8_indexIn
  rw [hx.2.2.1]
  have l7 : ln (t + 4) = 6 := by rcases k with rfl | rfl <;> rfl
  have k20 : kd (t + 4) = 20 := by rcases k with rfl | rfl <;> rfl
  exact ⟨hx.1, k20, _, x_index_l (fun i hi => (hx.2.2.2.2.2.2.2.1 i hi).1) hD.2.2.2.1 hn (by have := hD.2.1; omega) (by rw [l7]; have := hD.2.1; omega) (dNb D).length 0 (by omega) h⟩
theorem LX.w4 (hx : LX M T s) (h : tw T s = -1) : M 1 4 = pkX (nm T s) := by
  have b := tw_b (T := T) (s := s) (by omega)
  exact ((hx.2.2.2.2.2.2.2 b.1).2.1 b.2.1).1
theorem x_newName {r : SR} {k : List Int → Nat → SR} {A B : Mem → Prop} (hT : TB T) (hx : XD M T t s D) (hD : DOK D s) (hr : fN T D s k = r) (hA : ∀ e, r = .inl e → ∀ M', oR t M M' → FX M' e → A M') (hB : k (nm T s) (nx T s) = r → okN (nm T s) → ∀ M', XD M' T t (nx T s) D → M' 4 3 = pkX (nm T s) → oRs t M M' → B M') : m_X9_newName M (fun r M' => (inI r) ∧ ((r = 0 → A M') ∧ (¬ r = 0 → B M'))) := by
  have kt := isTown hx.2.2.1
  unfold m_X9_newName m_X9_newName_J59
  unfold fN at hr
  refine x_isName hx.1 ?_
  by_cases q : tw T s = -1
  · rw [if_pos q]
    rw [if_neg (by omega)] at hr
    have ok := ok_tw q
    have b := tw_b (T := T) (s := s) (by omega)
    refine ⟨by decide, fun z => absurd z (by decide), fun _ M7 e7 => ?_⟩
    have x7 := hx.found e7
    have s7 : oRs t M M7 := oRs.up e7 (by omega) (by omega)
    have f7 : M7 4 3 = pkX (nm T s) := by rw [e7, up_get, if_pos ⟨rfl, rfl⟩, hx.1.w4 q]
    rw [x7.2.1, f7]
    have r1 := nix_rng (l := dNa D) (n := nm T s) (k := 0)
    have r2 := nix_rng (l := dNb D) (n := nm T s) (k := 0)
    have d1 := hD.1
    have d2 := hD.2.1
    have bad : nix (dNa D) (nm T s) 0 ≠ -1 ∨ nix (dNb D) (nm T s) 0 ≠ -1 → m_X7_fail 2 M7 (fun r2 M1 => (r2 = 0 ∨ r2 = 1) ∧ ((inI r2) ∧ ((r2 = 0 → A M1) ∧ (¬ r2 = 0 → B M1)))) := fun z => by
      rw [if_pos z] at hr
      exact x_fail x7.1 fun M1 o1 f1 => ⟨by decide, rq_0 (hA _ hr.symm M1 (s7.1.tr o1.r) f1)⟩
    refine ⟨x7.2.2.1, x_placeOf x7.2.2 hD ok ⟨by omega, fun z1 => ?_, fun z1 => bad (Or.inl z1)⟩⟩
    rw [x7.2.1, f7]
    refine ⟨x7.2.2.1, x_personOf x7.2.2 hD ok ⟨by omega, fun z2 => ?_, fun z2 => bad (Or.inr z2)⟩⟩
    rw [if_neg (by omega)] at hr
    exact x_adv hT x7.1 b.1 (by omega) fun M8 l8 o8 => rq_1 (hB hr ok M8 (x7.adv l8 o8) (by rw [o8.1 4 (by decide), f7]) (s7.tr o8.r))
  · rw [if_neg q]
    rw [if_pos q] at hr
    exact ⟨by decide, fun _ => x_misplaced hx.1 fun M1 o1 f1 => ⟨by decide, rq_0 (hA _ hr.symm M1 o1.r f1)⟩, fun z => absurd rfl z⟩
/-- stays at the name -/
theorem x_placeName {r : SR} {k : Nat → SR} {A B : Mem → Prop} (hx : XD M T t s D) (hD : DOK D s) (hr : pN T D s k = r) (hA : ∀ e, r = .inl e → ∀ M', oR t M M' → FX M' e → A M') (hB : ∀ p : Nat, nix (dNa D) (nm T s) 0 = (p : Nat) → k p = r → tw T s = -1 → p < (dNa D).length → ∀ M', XD M' T t s D → M' 4 3 = (p : Nat) → oRs t M M' → B M') : m_X9_placeName M (fun r M' => (inI r) ∧ ((r = 0 → A M') ∧ (¬ r = 0 → B M'))) := by
  have kt := isTown hx.2.2.1
  unfold m_X9_placeName m_X9_placeName_J55 m_X9_placeName_J60
  unfold pN at hr
  refine x_isName hx.1 ?_
  by_cases q : tw T s = -1
  · rw [if_pos q]
    rw [if_neg (by omega)] at hr
    have ok := ok_tw q
    have r1 := nix_rng (l := dNa D) (n := nm T s) (k := 0)
    have d1 := hD.1
    refine ⟨by decide, fun z => absurd z (by decide), fun _ => ?_⟩
    rw [hx.2.1, hx.1.w4 q]
    refine ⟨hx.2.2.1, x_placeOf hx.2.2 hD ok fun M8 e8 => ?_⟩
    have x8 := hx.found e8
    have s8 : oRs t M M8 := oRs.up e8 (by omega) (by omega)
    have f8 : M8 4 3 = nix (dNa D) (nm T s) 0 := by rw [e8, up_get, if_pos ⟨rfl, rfl⟩]
    rw [f8]
    refine ⟨by omega, fun z => ?_, fun z => ?_⟩
    · rw [if_pos z] at hr
      exact x_fail x8.1 fun M1 o1 f1 => rq_0 ⟨by decide, rq_0 (hA _ hr.symm M1 (s8.1.tr o1.r) f1)⟩
    · rw [if_neg z] at hr
      exact ⟨by decide, rq_1 (hB (nix (dNa D) (nm T s) 0).toNat (by omega) hr q (by omega) M8 x8 (by omega) s8)⟩
  · rw [if_neg q]
    rw [if_pos q] at hr
    exact ⟨by decide, fun _ => x_misplaced hx.1 fun M1 o1 f1 => ⟨by decide, rq_0 (hA _ hr.symm M1 o1.r f1)⟩, fun z => absurd rfl z⟩
theorem x_number {r : SR} {k : Int → Nat → SR} {lo hi : Int} {A B : Mem → Prop} (hT : TB T) (hx : XD M T t s D) (hl : 0 ≤ lo ∧ hi ≤ 1000 ∧ lo ≤ hi) (hr : nmb T lo hi s k = r) (hA : ∀ e, r = .inl e → ∀ M', oR t M M' → FX M' e → A M') (hB : k (tn T s) (nx T s) = r → lo ≤ tn T s → tn T s ≤ hi → ∀ M', XD M' T t (nx T s) D → M' 4 3 = tn T s → oRs t M M' → B M') : m_X9_number lo hi M (fun r M' => (inI r) ∧ ((r = 0 → A M') ∧ (¬ r = 0 → B M'))) := by
  have kt := isTown hx.2.2.1
  unfold m_X9_number m_X9_number_J46
  unfold nmb at hr
  have tr := tn_rng T s
  refine ⟨hx.1.s2, fun q M5 e5 => ?_, fun q => ?_⟩
  · have c := (hx.1.so (by decide)).mp q
    have e : tn T s = nv (dg T s) := by unfold tn; rw [if_pos c]
    have v := dg_v T s
    have x5 := hx.found e5
    have s5 : oRs t M M5 := oRs.up e5 (by omega) (by omega)
    have f5 : M5 4 3 = tn T s := by rw [e5, up_get, if_pos ⟨rfl, rfl⟩, (hx.1.2.2.2.2.2.2.2 c.1).2.2.1 c.2, e]
    rw [if_neg (by omega)] at hr
    rw [f5]
    have bad : tn T s < lo ∨ hi < tn T s → m_X7_fail 4 M5 (fun r2 M1 => (r2 = 0 ∨ r2 = 1) ∧ ((inI r2) ∧ ((r2 = 0 → A M1) ∧ (¬ r2 = 0 → B M1)))) := fun z => by
      rw [if_pos z] at hr
      exact x_fail x5.1 fun M1 o1 f1 => ⟨by decide, rq_0 (hA _ hr.symm M1 (s5.1.tr o1.r) f1)⟩
    refine ⟨by omega, by omega, fun z => bad (Or.inl z), fun z => ⟨by omega, by omega, fun z2 => ?_, fun z2 => bad (Or.inr (by omega))⟩⟩
    rw [if_neg (by omega)] at hr
    exact x_adv hT x5.1 c.1 (by omega) fun M8 l8 o8 => rq_1 (hB hr (by omega) z2 M8 (x5.adv l8 o8) (by rw [o8.1 4 (by decide), f5]) (s5.tr o8.r))
  · have c : ¬ (bd T s = -1 ∧ so T s = 2) := mt (hx.1.so (by decide)).mpr q
    have e : tn T s = -1 := by unfold tn; rw [if_neg c]
    rw [if_pos (by omega)] at hr
    exact x_misplaced hx.1 fun M1 o1 f1 => ⟨by decide, rq_0 (hA _ hr.symm M1 o1.r f1)⟩
theorem x_tkO {r : SR} {k : Nat → SR} {w : Int} {A B : Mem → Prop} (hT : TB T) (hx : XD M T t s D) (hw : 0 ≤ w ∧ w < 256) (hr : tkO T w s k = r) (hA : ∀ e, r = .inl e → ∀ M', oR t M M' → FX M' e → A M') (hB : k (nx T s) = r → ∀ M', XD M' T t (nx T s) D → (∀ a, a ≠ 1 → M' a = M a) → oRs t M M' → B M') : m_X7_takeOwn w M (fun r M' => (inI r) ∧ ((r = 0 → A M') ∧ (¬ r = 0 → B M'))) := by
  unfold tkO at hr
  refine x_takeOwn hT hx.1 hw (fun q M1 l1 o1 => ?_) (fun q M1 o1 f1 => ?_)
  · rw [if_pos q] at hr
    exact rq_1 (hB hr M1 (hx.adv l1 o1) o1.1 o1.r)
  · rw [if_neg q] at hr
    exact rq_0 (hA _ hr.symm M1 o1.r f1)
theorem okS_f {r : SR} (h : okS Q M t T r) {M' : Mem} (o : oRs t M M') : ∀ e, r = .inl e → ∀ M2, oR t M' M2 → FX M2 e → Q 0 M2 := fun e he M2 o2 f2 => by
  subst he
  exact h M2 (o.1.tr o2) f2
theorem x_place {r : SR} (hT : TB T) (hx : XD M T t s D) (hD : DOK D s) (hw : tw T s = 0) (hr : stP T D s = r) (h : okS Q M t T r) : m_X9_place M Q := by
  have kt := isTown hx.2.2.1
  have sl := hx.1.le
  unfold stP at hr
  rw [if_pos hw] at hr
  unfold m_X9_place m_X9_place_J23
  rw [hx.2.1, hx.2.2.2.1]
  have d1 := hD.1
  refine ⟨hx.2.2.1, x_begins (m := 7) hT hx (by omega) (by omega) (by decide) (fun q M1 o1 f1 => ?_) (fun q M1 x1 s1 => ?_)⟩
  · unfold mst at hr
    rw [if_pos q] at hr
    subst hr
    exact h M1 o1 f1
  · unfold mst at hr
    rw [if_neg (by omega)] at hr
    have n0 := nx_rng sl
    refine x_newName hT x1 (hD.mono n0.1) hr (okS_f h s1) fun hk ok M2 x2 f2 s2 => ?_
    subst hk
    rw [x2.2.1, f2]
    refine ⟨x2.2.2.1, ?_⟩
    obtain ⟨a1, a2, a3, a4, a5, a6, a7, a8, a9, a10, a11, a12⟩ := id x2.2.2
    unfold m_X8_addPlace m_X8_addPlace_J44
    rw [a2]
    refine ⟨a1, by omega, fun z => by omega, fun _ => ⟨by omega, fun M3 e3 => ?_⟩⟩
    have g3 : M3 t = M2 t := by rw [e3, up_ne _ (by omega)]
    rw [g3, a2]
    refine ⟨by omega, fun M5 e5 M6 e6 => ?_⟩
    have z : ∀ a, a ≠ t → a ≠ t + 1 → a ≠ t + 2 → M6 a = M2 a := fun a p1 p2 p3 => by rw [e6, up_ne _ p1, e5, up_ne _ p3, e3, up_ne _ p2]
    have zt : ∀ j, j ≠ 0 → M6 t j = M2 t j := fun j hj => by rw [e6, up_get, if_neg (by omega), e5, up_ne _ (by omega), e3, up_ne _ (by omega)]
    have g5 : M5 t 0 = ((dNa D).length : Nat) := by rw [e5, up_ne _ (by omega), g3, a2]
    have z1 : ∀ i, M6 (t + 1) i = if i = ((dNa D).length : Nat) then pkX (nm T (nx T s)) else M2 (t + 1) i := fun i => by
      rw [e6, up_ne _ (by omega), e5, up_ne _ (by omega), e3, up_get]
      by_cases c : i = ((dNa D).length : Nat)
      · rw [if_pos ⟨rfl, c⟩, if_pos c]
      · rw [if_neg (fun w => c w.2), if_neg c]
    have z2 : ∀ i, M6 (t + 2) i = if i = ((dNa D).length : Nat) then ((2 ^ (dNa D).length : Nat) : Int) else M2 (t + 2) i := fun i => by
      rw [e6, up_ne _ (by omega), e5, up_get]
      by_cases c : i = ((dNa D).length : Nat)
      · rw [if_pos ⟨rfl, c⟩, if_pos c, z_shl1 (by omega), Int.toNat_natCast]
      · rw [if_neg (fun w => c w.2), if_neg c, e3, up_ne _ (by omega)]
    have pw : 2 ^ (dNa D).length ≤ 2 ^ 6 := Nat.pow_le_pow_right (by decide) (by omega)
    have la : (dNa D ++ [nm T (nx T s)]).length = (dNa D).length + 1 := by rw [List.length_append, List.length_singleton]
    have key := x2.town (M' := M6) (D' := (dNa D ++ [nm T (nx T s)], dNb D, (fun i j => if i = ((dNa D).length : Nat) then decide (j = i) else dRe D i j), D.2.2.2)) (fun a ha => z a (by omega) (by omega) (by omega)) ⟨a1, ?_, by rw [zt 5 (by decide)]; exact a3, by rw [zt 2 (by decide)]; exact a4, by rw [zt 9 (by decide)]; exact a5, by rw [zt 11 (by decide)]; exact a6, fun i hi => ?_, ?_, fun i hi => ?_, ?_, ?_, ?_⟩
    · exact h M6 key.1 ((s1.tr s2).tr key.2)
    · rw [e6, up_get, if_pos ⟨rfl, rfl⟩, g5]
      show _ = (((dNa D ++ [nm T (nx T s)]).length : Nat) : Int)
      rw [la]
      rfl
    · have hi : i < (dNa D ++ [nm T (nx T s)]).length := hi
      show M6 (t + 1) i = pkX ((dNa D ++ [nm T (nx T s)]).getD i [])
      rw [la] at hi
      rw [z1, getD_app]
      by_cases c : i = (dNa D).length
      · rw [if_pos (by omega), if_neg (by omega), if_pos c]
      · rw [if_neg (by omega), if_pos (by omega), a7 i (by omega)]
    · rw [z (t + 4) (by omega) (by omega) (by omega), z (t + 5) (by omega) (by omega) (by omega), z (t + 6) (by omega) (by omega) (by omega)]
      exact a8
    · have hi : i < (dNa D ++ [nm T (nx T s)]).length := hi
      rw [la] at hi
      show 0 ≤ M6 (t + 2) i ∧ M6 (t + 2) i < 128 ∧ ∀ j : Nat, j < 7 → (if (i : Int) = ((dNa D).length : Nat) then decide ((j : Int) = i) else dRe D i j) = (M6 (t + 2) i).toNat.testBit j
      rw [z2]
      by_cases c : (i : Int) = ((dNa D).length : Nat)
      · rw [if_pos c]
        refine ⟨Int.natCast_nonneg _, Int.ofNat_lt.mpr (Nat.lt_of_le_of_lt pw (by decide)), fun j hj => ?_⟩
        rw [if_pos c, Int.toNat_natCast, Nat.testBit_two_pow]
        exact decide_eq_decide.mpr (by omega)
      · rw [if_neg c]
        have := a9 i (by omega)
        refine ⟨this.1, this.2.1, fun j hj => ?_⟩
        rw [if_neg c]
        exact this.2.2 j hj
    · unfold reX at *
      rw [z (t + 7) (by omega) (by omega) (by omega), z (t + 7 + 1) (by omega) (by omega) (by omega), z (t + 7 + 2) (by omega) (by omega) (by omega), z (t + 7 + 3) (by omega) (by omega) (by omega)]
      exact a10
    · unfold fmX at *
      rw [z (t + 11) (by omega) (by omega) (by omega), z (t + 11 + 1) (by omega) (by omega) (by omega)]
      exact a11
    · unfold fmX at *
      rw [z (t + 14) (by omega) (by omega) (by omega), z (t + 14 + 1) (by omega) (by omega) (by omega)]
      exact a12
end
