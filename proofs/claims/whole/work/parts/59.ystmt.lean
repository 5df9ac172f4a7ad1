/-! the model reads statements: names, numbers, counts -/
def szY (a : Int) : Int := if a = 203 ∨ a = 204 then 49 else if a = 206 ∨ a = 207 ∨ a = 219 then 6 else if 210 ≤ a ∧ a ≤ 212 then 8 else if a = 214 ∨ a = 215 then 2 else if a = 216 ∨ a = 217 then 1600 else if a = 218 then 7 else 1
abbrev keepW (k : Int) : Prop := k ≤ 2 ∨ k = 10 ∨ k = 11 ∨ (13 ≤ k ∧ k ≤ 32) ∨ k = 34 ∨ (36 ≤ k ∧ k ≤ 40) ∨ k = 43 ∨ 46 ≤ k
/-- nothing is written but the bank b and the reader's own words -/
def oW (b : Int) (M M' : Mem) : Prop := (∀ a, (a < 199 ∨ a = 200 ∨ 226 ≤ a) → M' a = M a) ∧ (∀ k, keepW k → M' 199 k = M 199 k) ∧ (∀ a, 201 ≤ a → a ≤ 219 → ∀ i, (i < szY a * b ∨ szY a * b + szY a ≤ i) → M' a i = M a i) ∧ (M' 199 8 = 0 → M 199 8 = 0 ∧ M' 199 9 = M 199 9)
theorem oW.rf {b : Int} {M : Mem} : oW b M M := ⟨fun _ _ => rfl, fun _ _ => rfl, fun _ _ _ _ _ => rfl, fun h => ⟨h, rfl⟩⟩
theorem oW.tr {b : Int} {M M1 M2 : Mem} (h : oW b M M1) (k : oW b M1 M2) : oW b M M2 := ⟨fun a p => by rw [k.1 a p, h.1 a p], fun j p => by rw [k.2.1 j p, h.2.1 j p], fun a p q i r => by rw [k.2.2.1 a p q i r, h.2.2.1 a p q i r], fun q => by
  obtain ⟨a1, a2⟩ := k.2.2.2 q
  obtain ⟨b1, b2⟩ := h.2.2.2 a1
  exact ⟨b1, by rw [a2, b2]⟩⟩
theorem oY.w {b : Int} {M M1 : Mem} (h : oY M M1) : oW b M M1 := ⟨fun a p => h.1 a (by omega), fun k hk => h.2 k (by omega) (by omega) (by omega) (by omega) (by omega) (by omega), fun a p q i _ => by rw [h.1 a (by omega)], fun q => by rw [h.2 8 (by decide) (by decide) (by decide) (by decide) (by decide) (by decide)] at q; exact ⟨q, h.2 9 (by decide) (by decide) (by decide) (by decide) (by decide) (by decide)⟩⟩
theorem oB.w {b : Int} {M M1 : Mem} (h : oB M M1) (hn : M1 199 8 ≠ 0) : oW b M M1 := ⟨fun a p => h.1 a (by omega), fun k hk => h.2 k (by omega) (by omega), fun a p q i _ => by rw [h.1 a (by omega)], fun q => absurd q hn⟩
theorem oW.slot {b k v : Int} {M M1 : Mem} (e : M1 = up M 199 k v) (hk : ¬ keepW k ∧ k ≠ 8 ∧ k ≠ 9) : oW b M M1 := by
  subst e
  refine ⟨fun a p => up_ne _ (by omega), fun j hj => ?_, fun a p q i _ => by rw [up_ne _ (by omega)], fun q => by rw [up_get, if_neg (by omega)] at q; exact ⟨q, by rw [up_get, if_neg (by omega)]⟩⟩
  rw [up_get, if_neg]
  intro z
  exact hk.1 (z.2 ▸ hj)
theorem oW.row {b a k v : Int} {M M1 : Mem} (e : M1 = up M a k v) (ha : 201 ≤ a ∧ a ≤ 219) (hk : szY a * b ≤ k ∧ k < szY a * b + szY a) : oW b M M1 := by
  subst e
  refine ⟨fun c p => up_ne _ (by omega), fun j hj => by rw [up_ne _ (by omega)], fun c p q i r => ?_, fun q => by rw [up_ne _ (by omega)] at q ⊢; exact ⟨q, rfl⟩⟩
  rw [up_get, if_neg]
  intro z
  rw [z.1, z.2] at r
  omega
theorem oZ.w {b : Int} {c0 : Nat} {M M1 : Mem} (h : oZ b c0 M M1) : oW b M M1 := by
  refine ⟨fun a p => h.1 a (by omega) (by omega) (by omega) (by omega), fun k hk => h.2.1 k (by omega), fun a p q i r => ?_, fun q => h.2.2.2.2 q⟩
  by_cases c6 : a = 216
  · subst c6
    exact (h.2.2.1 i (by simp [szY] at r; omega)).1
  · by_cases c7 : a = 217
    · subst c7
      exact (h.2.2.1 i (by simp [szY] at r; omega)).2
    · rw [h.1 a (by omega) c6 c7 (by omega)]
def fmY (M : Mem) (b w : Int) (cs : List Int) : Prop := if cs = [] then M 214 (2 * b + w) = -1 else 0 ≤ M 214 (2 * b + w) ∧ M 214 (2 * b + w) + (cs.length : Nat) = M 215 (2 * b + w) ∧ M 215 (2 * b + w) ≤ M 199 33 ∧ ∀ j : Nat, j < cs.length → crP (cs.getD j 0) (M 216 (1600 * b + M 214 (2 * b + w) + j)) (M 217 (1600 * b + M 214 (2 * b + w) + j))
/-- the model's bank b: a town in the making -/
def DY (M : Mem) (b : Int) (D : TD) : Prop := (b = 0 ∨ b = 1) ∧ M 199 34 = b ∧ M 199 33 = ((dSt D).length + (dGo D).length : Nat) ∧ M 201 b = ((dNa D).length : Nat) ∧ M 205 b = ((dNb D).length : Nat) ∧ M 202 b = (dRo D : Nat) ∧ M 208 b = (dWa D : Nat) ∧ M 213 b = dRa D ∧ M 209 b = ((dFr D).length : Nat) ∧ (∀ i : Nat, i < (dNa D).length → M 218 (7 * b + i) = pkY ((dNa D).getD i [])) ∧ (∀ i : Nat, i < (dNb D).length → M 219 (6 * b + i) = pkY ((dNb D).getD i []) ∧ M 206 (6 * b + i) = dHo D i ∧ M 207 (6 * b + i) = dKi D i) ∧
  (∀ i j : Nat, i < 7 → j < 7 → (M 203 (49 * b + 7 * i + j) = 0 ∨ M 203 (49 * b + 7 * i + j) = 1) ∧ (i < (dNa D).length → (dRe D i j = true ↔ j = i ∨ M 203 (49 * b + 7 * i + j) = 1)) ∧ ((dNa D).length ≤ i → M 203 (49 * b + 7 * i + j) = 0)) ∧
  (∀ k : Nat, k < (dFr D).length → M 210 (8 * b + k) = ((dFr D).getD k (0, 0, 0)).1 ∧ M 211 (8 * b + k) = ((dFr D).getD k (0, 0, 0)).2.1 ∧ M 212 (8 * b + k) = ((dFr D).getD k (0, 0, 0)).2.2) ∧ fmY M b 0 (dSt D) ∧ fmY M b 1 (dGo D)
def YD (M : Mem) (T : List Int) (b : Int) (s : Nat) (D : TD) : Prop := LY M T s ∧ M 199 8 = 0 ∧ DY M b D
/-- at fault -/
def YX (M : Mem) (T : List Int) (b : Int) (D : TD) (e : Int × Int) : Prop := FY M e ∧ (0 < e.1 ∧ e.1 < 9) ∧ (∃ s, LY M T s) ∧ DY M b D
theorem DY.rows {M M' : Mem} {b : Int} {D : TD} (h : DY M b D) (e : ∀ a, 201 ≤ a → a ≤ 219 → M' a = M a) (e3 : M' 199 33 = M 199 33) (e4 : M' 199 34 = M 199 34) : DY M' b D := by
  unfold DY fmY at *
  rw [e3, e4, e 201 (by decide) (by decide), e 202 (by decide) (by decide), e 203 (by decide) (by decide), e 205 (by decide) (by decide), e 206 (by decide) (by decide), e 207 (by decide) (by decide), e 208 (by decide) (by decide), e 209 (by decide) (by decide), e 210 (by decide) (by decide), e 211 (by decide) (by decide), e 212 (by decide) (by decide), e 213 (by decide) (by decide), e 214 (by decide) (by decide), e 215 (by decide) (by decide), e 216 (by decide) (by decide), e 217 (by decide) (by decide), e 218 (by decide) (by decide), e 219 (by decide) (by decide)]
  exact h
theorem DY.oY {M M' : Mem} {b : Int} {D : TD} (h : DY M b D) (o : oY M M') : DY M' b D := h.rows (fun a a1 a2 => o.1 a (by omega)) (o.2 33 (by decide) (by decide) (by decide) (by decide) (by decide) (by decide)) (o.2 34 (by decide) (by decide) (by decide) (by decide) (by decide) (by decide))
theorem DY.oB {M M' : Mem} {b : Int} {D : TD} (h : DY M b D) (o : oB M M') : DY M' b D := h.rows (fun a a1 a2 => o.1 a (by omega)) (o.2 33 (by decide) (by decide)) (o.2 34 (by decide) (by decide))
/-- a place past what is told yet is written -/
theorem DY.past {M M' : Mem} {b a k v : Int} {D : TD} (h : DY M b D) (e : M' = up M a k v) (hk : (a = 218 ∧ k = 7 * b + (dNa D).length) ∨ ((a = 206 ∨ a = 207 ∨ a = 219) ∧ k = 6 * b + (dNb D).length) ∨ ((210 ≤ a ∧ a ≤ 212) ∧ k = 8 * b + (dFr D).length)) : DY M' b D := by
  obtain ⟨h1, h2, h3, h4, h5, h6, h7, h8, h9, h10, h11, h12, h13, h14, h15⟩ := h
  have z : ∀ c, c ≠ a → M' c = M c := fun c hc => by rw [e, up_ne _ hc]
  have g : ∀ c i, ¬ (c = a ∧ i = k) → M' c i = M c i := fun c i hc => by rw [e, up_get, if_neg hc]
  refine ⟨h1, by rw [z 199 (by omega), h2], by rw [z 199 (by omega), h3], by rw [z 201 (by omega), h4], by rw [z 205 (by omega), h5], by rw [z 202 (by omega), h6], by rw [z 208 (by omega), h7], by rw [z 213 (by omega), h8], by rw [z 209 (by omega), h9], fun i hi => by rw [g 218 _ (by omega), h10 i hi], fun i hi => ?_, by rw [z 203 (by omega)]; exact h12, fun i hi => ?_, ?_, ?_⟩
  · rw [g 219 _ (by omega), g 206 _ (by omega), g 207 _ (by omega)]
    exact h11 i hi
  · rw [g 210 _ (by omega), g 211 _ (by omega), g 212 _ (by omega)]
    exact h13 i hi
  · unfold fmY at *
    rw [z 214 (by omega), z 215 (by omega), z 216 (by omega), z 217 (by omega), z 199 (by omega)]
    exact h14
  · unfold fmY at *
    rw [z 214 (by omega), z 215 (by omega), z 216 (by omega), z 217 (by omega), z 199 (by omega)]
    exact h15
theorem LY.row {M M' : Mem} {T : List Int} {s : Nat} {a k v : Int} (h : LY M T s) (e : M' = up M a k v) (ha : 201 ≤ a) : LY M' T s := by
  have z : ∀ c, c ≠ a → M' c = M c := fun c hc => by rw [e, up_ne _ hc]
  unfold LY LYR rw1 at *
  rw [z 199 (by omega), z 200 (by omega)]
  exact h
theorem YX.past {M M' : Mem} {T : List Int} {b a k v : Int} {D : TD} {x : Int × Int} (h : YX M T b D x) (e : M' = up M a k v) (hk : (a = 218 ∧ k = 7 * b + (dNa D).length) ∨ ((a = 206 ∨ a = 207 ∨ a = 219) ∧ k = 6 * b + (dNb D).length) ∨ ((210 ≤ a ∧ a ≤ 212) ∧ k = 8 * b + (dFr D).length)) : YX M' T b D x := by
  obtain ⟨h1, h2, ⟨s, h3⟩, h4⟩ := h
  refine ⟨?_, h2, ⟨s, h3.row e (by omega)⟩, h4.past e hk⟩
  unfold FY at *
  rw [e, up_ne _ (by omega)]
  exact h1
section
variable {M : Mem} {T : List Int} {b : Int} {s : Nat} {D : TD} {x : Int × Int}
theorem YD.adv {M' : Mem} {s' : Nat} (h : YD M T b s D) (l : LY M' T s') (o : oY M M') : YD M' T b s' D := ⟨l, by rw [o.2 8 (by decide) (by decide) (by decide) (by decide) (by decide) (by decide), h.2.1], h.2.2.oY o⟩
theorem YD.bad {M' : Mem} {k p : Int} (h : YD M T b s D) (o : oB M M') (f : FY M' (k, p)) (hk : 0 < k ∧ k < 9) : YX M' T b D (k, p) := ⟨f, hk, ⟨s, h.1.oB o⟩, h.2.2.oB o⟩
theorem YD.row {M' : Mem} {a k v : Int} (h : YD M T b s D) (e : M' = up M a k v) (hk : (a = 218 ∧ k = 7 * b + (dNa D).length) ∨ ((a = 206 ∨ a = 207 ∨ a = 219) ∧ k = 6 * b + (dNb D).length) ∨ ((210 ≤ a ∧ a ≤ 212) ∧ k = 8 * b + (dFr D).length)) : YD M' T b s D := ⟨h.1.row e (by omega), by rw [e, up_ne _ (by omega), h.2.1], h.2.2.past e hk⟩
theorem f_lex {Q : Mem → Prop} (hT : TB T) (h : YX M T b D x) (hQ : Q M) : m_X12_lex M Q := by
  obtain ⟨h1, h2, ⟨s, h3⟩, h4⟩ := h
  have b' := bd_rng h3.2.1
  have tl := hT.1
  unfold m_X12_lex m_X12_lex_J17
  rw [h3.2.2.2.2.1]
  refine ⟨by omega, fun _ => hQ, fun q => y_blame1 ?_ hQ⟩
  rw [h1.1]
  exact h2
theorem YX.n8 (h : YX M T b D x) : inI (M 199 8) ∧ ¬ M 199 8 ≤ 0 ∧ ¬ M 199 8 = 0 := by
  have := h.2.1
  rw [h.1.1]
  omega
theorem f_must {Q : Mem → Prop} {w : Int} (hT : TB T) (h : YX M T b D x) (hQ : Q M) : m_X12_must_ w M Q := by
  unfold m_X12_must_
  exact f_lex hT h ⟨h.n8.1, fun z => absurd z h.n8.2.1, fun _ => hQ⟩
theorem f_number {Q : Int → Mem → Prop} {lo hi : Int} (hT : TB T) (h : YX M T b D x) (hQ : Q 0 M) : m_X12_number lo hi M Q := by
  unfold m_X12_number
  exact f_lex hT h ⟨h.n8.1, fun z => absurd z h.n8.2.1, fun _ => hQ⟩
theorem f_knownBut {Q : Int → Mem → Prop} {so1 but : Int} (hT : TB T) (h : YX M T b D x) (hQ : Q 0 M) : m_X12_knownBut so1 but M Q := by
  unfold m_X12_knownBut
  exact f_lex hT h ⟨h.n8.1, fun z => absurd z h.n8.2.1, fun _ => hQ⟩
theorem y_counts {c : Int} {A B : Mem → Prop} (hT : TB T) (hc : c = 0 ∨ c = 1) (hx : YD M T b s D) (hw : 0 ≤ tw T s) (hA : c = 1 → ∀ M', YX M' T b D (6, (s : Nat)) → oW b M M' → A M') (hB : c = 0 → ∀ M', YD M' T b (nx T s) D → inI (M' 199 6) → oW b M M' → B M') : m_X12_counts c M (fun r M' => (inI r) ∧ ((r = 0 → A M') ∧ (¬ r = 0 → B M'))) := by
  have tb := tw_b (T := T) (s := s) (by omega)
  unfold m_X12_counts m_X12_counts_J21 m_X12_counts_J32 m_X12_counts_J44
  rw [hx.2.1, hx.1.2.2.1]
  refine ⟨by decide, fun _ => ⟨by omega, fun q => ⟨by decide, fun _ => ?_, fun z => absurd rfl z⟩, fun q => y_blame hx.2.1 fun M1 o1 f1 => ?_⟩, fun z => absurd rfl z⟩
  · refine y_ahead6 hT hx.1 tb.1 tb.2.1 fun M1 o1 l1 i1 => ?_
    have y1 := hx.adv l1 o1
    rw [y1.2.1]
    exact ⟨by decide, fun _ => ⟨by decide, rq_1 (hB q M1 y1 i1 o1.w)⟩, fun z => absurd rfl z⟩
  · have y1 := hx.bad o1 f1 (by decide)
    have n8 := y1.n8
    exact ⟨n8.1, fun z => absurd z n8.2.2, fun _ => ⟨n8.1, fun z => absurd z n8.2.2, fun _ => ⟨by decide, rq_0 (hA (by omega) M1 y1 (o1.w f1.n))⟩⟩⟩
theorem y_named_l {Q : Int → Mem → Prop} {w : Int} {l : List (List Int)} {n : List Int} (hb : b = 0 ∨ b = 1) (h34 : M 199 34 = b) (hw : (w = 0 ∧ M 201 b = (l.length : Nat) ∧ (∀ i : Nat, i < l.length → M 218 (7 * b + i) = pkY (l.getD i []))) ∨ (w = 1 ∧ M 205 b = (l.length : Nat) ∧ l.length ≤ 6 ∧ (∀ i : Nat, i < l.length → M 219 (6 * b + i) = pkY (l.getD i [])))) (hok : ∀ m ∈ l, okN m) (hn : okN n) (h7 : l.length ≤ 7) : ∀ (d k : Nat), k + d = l.length → Q (nix (l.drop k) n k) M → m_X12_named_L3 Q w (pkY n) (d + 1) (k : Nat) M
  | 0, k, hk, h => by
    unfold m_X12_named_L3 m_X12_manyOf m_X12_manyOf_J19
    rw [List.drop_eq_nil_of_le (by omega)] at h
    rw [h34]
    refine ⟨by omega, fun q => ?_, fun q => ?_⟩
    · rcases hw with ⟨-, e, -⟩ | ⟨e, -⟩
      · rw [e]
        exact ⟨by omega, by omega, by omega, fun _ => h, fun z => by omega⟩
      · omega
    · rcases hw with ⟨e, -⟩ | ⟨-, e, -⟩
      · omega
      · rw [e]
        exact ⟨by omega, by omega, by omega, fun _ => h, fun z => by omega⟩
  | d + 1, k, hk, h => by
    unfold m_X12_named_L3 m_X12_manyOf m_X12_manyOf_J19 m_X12_nameOf m_X12_nameOf_J29
    have hk' : k < l.length := by omega
    have e : l.getD k [] = l[k] := by rw [List.getD_eq_getElem?_getD, List.getElem?_eq_getElem hk']; rfl
    have ok := hok _ (List.getElem_mem hk')
    have p1 := pk48 ok
    have p2 := pk48 hn
    rw [List.drop_eq_getElem_cons hk'] at h
    unfold nix at h
    have tail : ∀ r6, r6 = pkY (l[k]) → (inL r6) ∧ (inL (pkY n)) ∧ ((r6 = pkY n → Q (k : Nat) M) ∧ (¬ r6 = pkY n → m_X12_named_L3 Q w (pkY n) (d + 1) ((k : Nat) + 1) M)) := fun r6 hr => by
      refine ⟨by omega, by omega, fun q => ?_, fun q => ?_⟩
      · rwa [if_pos (pkY_inj ok hn (by rw [← hr, q]))] at h
      · rw [if_neg (fun z => q (by rw [hr, z]))] at h
        rw [cast1] at h ⊢
        exact y_named_l hb h34 hw hok hn h7 d (k + 1) (by omega) h
    rw [h34]
    refine ⟨by omega, fun q => ?_, fun q => ?_⟩
    · rcases hw with ⟨-, e1, e2⟩ | ⟨e1, -⟩
      · rw [e1]
        refine ⟨by omega, by omega, by omega, fun z => by omega, fun _ => ⟨by omega, fun _ => ⟨by omega, tail _ ?_⟩, fun z => absurd q z⟩⟩
        rw [h34, e2 k hk', e]
      · omega
    · rcases hw with ⟨e1, -⟩ | ⟨w1, e1, e6, e2⟩
      · omega
      · rw [e1]
        refine ⟨by omega, by omega, by omega, fun z => by omega, fun _ => ⟨by omega, fun z => absurd z q, fun _ => ⟨by omega, tail _ ?_⟩⟩⟩
        rw [h34, e2 k hk', e]
theorem y_named0 {Q : Int → Mem → Prop} (hx : DY M b D) (hD : DOK D s) {n : List Int} (hn : okN n) (h : Q (nix (dNa D) n 0) M) : m_X12_named 0 (pkY n) M Q :=
  ⟨_, y_named_l hx.1 hx.2.1 (Or.inl ⟨rfl, hx.2.2.2.1, hx.2.2.2.2.2.2.2.2.2.1⟩) hD.2.2.1 hn hD.1 (dNa D).length 0 (by omega) h⟩
theorem y_named1 {Q : Int → Mem → Prop} (hx : DY M b D) (hD : DOK D s) {n : List Int} (hn : okN n) (h : Q (nix (dNb D) n 0) M) : m_X12_named 1 (pkY n) M Q :=
  ⟨_, y_named_l hx.1 hx.2.1 (Or.inr ⟨rfl, hx.2.2.2.2.1, hD.2.1, fun i hi => (hx.2.2.2.2.2.2.2.2.2.2.1 i hi).1⟩) hD.2.2.2.1 hn (by have := hD.2.1; omega) (dNb D).length 0 (by omega) h⟩
theorem y_number {Q : Int → Mem → Prop} {r : SR} {k : Int → Nat → SR} {lo hi : Int} (hT : TB T) (hx : YD M T b s D) (hl : 0 ≤ lo ∧ hi ≤ 1000 ∧ lo ≤ hi) (hr : nmb T lo hi s k = r) (hA : ∀ e, r = .inl e → ∀ v M', YX M' T b D e → (inI (M 199 6) → inI v) → oW b M M' → Q v M') (hB : k (tn T s) (nx T s) = r → lo ≤ tn T s → tn T s ≤ hi → ∀ M', YD M' T b (nx T s) D → (∀ a, a ≠ 199 → M' a = M a) → oW b M M' → Q (tn T s) M') : m_X12_number lo hi M Q := by
  unfold nmb at hr
  have tr := tn_rng T s
  have e4 : M 199 4 = (s : Nat) := hx.1.2.2.1
  have e3 : M 199 3 = so T s := hx.1.2.2.2.1
  have sr := so_rng T s
  unfold m_X12_number m_X12_number_J30 m_X12_number_J58 m_X12_number_J74
  refine y_lex hT hx.1 hx.2.1 (fun hbd => ?_) (fun hbd M1 o1 f1 => ?_)
  · rw [hx.2.1, e3]
    refine ⟨by decide, fun _ => ⟨by omega, fun q => ?_, fun q => ?_⟩, fun z => absurd (by decide) z⟩
    · have et : tn T s = nv (dg T s) := by unfold tn; rw [if_pos ⟨hbd, q⟩]
      have e6 : M 199 6 = tn T s := by rw [et]; exact hx.1.2.2.2.2.2.2.2.1 q
      have dv := dg_v T s
      rw [if_neg (by omega)] at hr
      rw [e6]
      refine ⟨by decide, fun _ => ?_, fun z => absurd rfl z⟩
      refine y_is2 (by omega) (by omega) (by omega) (fun q1 q2 => ?_) (fun q1 => ?_)
      · rw [if_neg (by omega)] at hr
        rw [hx.2.1, e6]
        exact rq_1 ⟨by decide, fun _ => y_ahead hT hx.1 hbd fun M2 o2 l2 => hB hr q1 q2 M2 (hx.adv l2 o2) o2.1 o2.w, fun z => absurd rfl z⟩
      · rw [if_pos (by omega)] at hr
        rw [e4]
        refine rq_0 (y_blame hx.2.1 fun M2 o2 f2 => ?_)
        have y2 := hx.bad o2 f2 (by decide)
        have n8 := y2.n8
        exact ⟨n8.1, fun z => absurd z n8.2.2, fun _ => hA _ hr.symm _ M2 y2 (fun z => by rw [o2.2 6 (by decide) (by decide)]; exact z) (o2.w f2.n)⟩
    · have et : tn T s = -1 := by unfold tn; rw [if_neg (fun z => q z.2)]
      rw [if_pos (by omega), wr_ok hbd] at hr
      rw [e4]
      refine y_blame hx.2.1 fun M2 o2 f2 => ?_
      have y2 := hx.bad o2 f2 (by decide)
      have n8 := y2.n8
      exact ⟨n8.1, fun z => absurd z n8.2.2, fun _ => ⟨n8.1, fun z => absurd z n8.2.2, fun _ => hA _ hr.symm _ M2 y2 (fun z => by rw [o2.2 6 (by decide) (by decide)]; exact z) (o2.w f2.n)⟩⟩
  · have et : tn T s = -1 := by unfold tn; rw [if_neg (fun z => hbd z.1)]
    rw [if_pos (by omega)] at hr
    have y1 := hx.bad o1 f1 (by decide)
    have n8 := y1.n8
    exact ⟨n8.1, fun z => absurd z n8.2.1, fun _ => hA _ hr.symm _ M1 y1 (fun _ => by decide) (o1.w f1.n)⟩
theorem y_tkO {Q : Mem → Prop} {r : SR} {k : Nat → SR} {c : Int} (w : Nat) (hw : w < 24) (hc : ownYL.getD w 0 = c) (hT : TB T) (hx : YD M T b s D) (hr : tkO T (w : Nat) s k = r) (hA : ∀ e, r = .inl e → ∀ M', YX M' T b D e → oW b M M' → Q M') (hB : k (nx T s) = r → ∀ M', YD M' T b (nx T s) D → (∀ a, a ≠ 199 → M' a = M a) → oW b M M' → Q M') : m_X12_must_ c M Q := by
  unfold tkO at hr
  have e4 : M 199 4 = (s : Nat) := hx.1.2.2.1
  unfold m_X12_must_ m_X12_must__J29 m_X12_must__J40
  refine y_lex hT hx.1 hx.2.1 (fun hbd => ?_) (fun hbd M1 o1 f1 => ?_)
  · rw [hx.2.1]
    refine ⟨by decide, fun _ => y_ww w hw hc hx.1 hbd (fun q => ?_) (fun q => ?_), fun z => absurd (by decide) z⟩
    · rw [if_neg q, wr_ok hbd] at hr
      rw [e4]
      refine y_blame hx.2.1 fun M2 o2 f2 => ?_
      have y2 := hx.bad o2 f2 (by decide)
      have n8 := y2.n8
      exact ⟨n8.1, fun z => absurd z n8.2.2, fun _ => hA _ hr.symm M2 y2 (o2.w f2.n)⟩
    · rw [if_pos q] at hr
      rw [hx.2.1]
      exact ⟨by decide, fun _ => y_ahead hT hx.1 hbd fun M2 o2 l2 => hB hr M2 (hx.adv l2 o2) o2.1 o2.w, fun z => absurd rfl z⟩
  · have et : tw T s = -2 := by unfold tw; rw [if_neg (fun z => hbd z.1)]
    rw [if_neg (by omega)] at hr
    have y1 := hx.bad o1 f1 (by decide)
    have n8 := y1.n8
    exact ⟨n8.1, fun z => absurd z n8.2.1, fun _ => hA _ hr.symm M1 y1 (o1.w f1.n)⟩
theorem y_fresh {Q : Int → Mem → Prop} {r : SR} {k : List Int → Nat → SR} (hT : TB T) (hx : YD M T b s D) (hD : DOK D s) (hr : fN T D s k = r) (hA : ∀ e, r = .inl e → ∀ v M', YX M' T b D e → oW b M M' → Q v M') (hB : k (nm T s) (nx T s) = r → okN (nm T s) → ∀ M', YD M' T b (nx T s) D → (∀ a, a ≠ 199 → M' a = M a) → oW b M M' → Q (pkY (nm T s)) M') : m_X12_fresh M Q := by
  unfold fN at hr
  have e4 : M 199 4 = (s : Nat) := hx.1.2.2.1
  have e3 : M 199 3 = so T s := hx.1.2.2.2.1
  have sr := so_rng T s
  unfold m_X12_fresh m_X12_fresh_J32 m_X12_fresh_J41
  have j83 : ∀ M2 e, r = .inl e → YX M2 T b D e → oW b M M2 → m_X12_fresh_J83 Q M2 := fun M2 e he y2 o2 => by
    unfold m_X12_fresh_J83 m_X12_fresh_J99
    exact ⟨y2.n8.1, fun z => absurd z y2.n8.2.2, fun _ => hA e he _ M2 y2 o2⟩
  refine y_lex hT hx.1 hx.2.1 (fun hbd => ?_) (fun hbd M1 o1 f1 => ?_)
  · rw [hx.2.1, e3]
    have j32 : tw T s ≠ -1 → m_X12_blame 1 (M 199 4) M (fun M9 => ∃ fu : Nat, m_X12_fresh_L43 Q fu 0 M9) := fun q => by
      rw [if_pos q, wr_ok hbd] at hr
      rw [e4]
      refine y_blame hx.2.1 fun M2 o2 f2 => ⟨1, ?_⟩
      have y2 := hx.bad o2 f2 (by decide)
      have n8 := y2.n8
      unfold m_X12_fresh_L43
      exact ⟨by decide, fun z => absurd z (by decide), fun _ => ⟨n8.1, fun z => absurd z n8.2.2, fun _ => j83 M2 _ hr.symm y2 (o2.w f2.n)⟩⟩
    refine ⟨by decide, fun _ => ⟨by omega, fun q => ?_, fun q => j32 ?_⟩, fun z => absurd (by decide) z⟩
    · have e7 : M 199 7 = pkY (nm T s) := hx.1.2.2.2.2.2.2.1 q
      have ok := nm_ok q
      have et : tw T s = ow T s := by unfold tw; rw [if_pos ⟨hbd, q⟩]
      have orr := ow_rng T s
      rw [e7]
      refine y_isOwn q ?_
      by_cases qo : ow T s = -1
      · rw [if_pos qo]
        rw [if_neg (by omega)] at hr
        have r1 := nix_rng (l := dNa D) (n := nm T s) (k := 0)
        have r2 := nix_rng (l := dNb D) (n := nm T s) (k := 0)
        have d1 := hD.1
        have d2 := hD.2.1
        refine rq_0 ⟨3, ?_⟩
        unfold m_X12_fresh_L43 m_X12_fresh_J77
        rw [hx.2.1, e7]
        refine ⟨by decide, fun z => absurd z (by decide), fun _ => ⟨by decide, fun _ => y_named0 hx.2.2 hD ok ⟨by omega, fun z1 => ?_, fun z1 => ?_⟩, fun z => absurd rfl z⟩⟩
        · unfold m_X12_fresh_L43 m_X12_fresh_J77
          rw [hx.2.1, e7]
          refine ⟨by decide, fun z => absurd z (by decide), fun _ => ⟨by decide, fun _ => y_named1 hx.2.2 hD ok ⟨by omega, fun z2 => ?_, fun z2 => ?_⟩, fun z => absurd rfl z⟩⟩
          · rw [if_neg (by omega)] at hr
            unfold m_X12_fresh_L43 m_X12_fresh_J83 m_X12_fresh_J99
            rw [hx.2.1, e7]
            exact ⟨by decide, fun _ => ⟨by decide, fun _ => y_ahead hT hx.1 hbd fun M2 o2 l2 => hB hr ok M2 (hx.adv l2 o2) o2.1 o2.w, fun z => absurd rfl z⟩, fun z => absurd (by decide) z⟩
          · rw [if_pos (Or.inr z2)] at hr
            rw [e4]
            refine y_blame hx.2.1 fun M2 o2 f2 => ?_
            have y2 := hx.bad o2 f2 (by decide)
            unfold m_X12_fresh_L43
            exact ⟨by decide, fun _ => j83 M2 _ hr.symm y2 (o2.w f2.n), fun z => absurd (by decide) z⟩
        · rw [if_pos (Or.inl z1)] at hr
          rw [e4]
          refine y_blame hx.2.1 fun M2 o2 f2 => ?_
          have y2 := hx.bad o2 f2 (by decide)
          have n8 := y2.n8
          unfold m_X12_fresh_L43
          exact ⟨by decide, fun z => absurd z (by decide), fun _ => ⟨n8.1, fun z => absurd z n8.2.2, fun _ => j83 M2 _ hr.symm y2 (o2.w f2.n)⟩⟩
      · rw [if_neg qo]
        exact rq_1 (j32 (by omega))
    · unfold tw
      rw [if_neg (fun z => q z.2)]
      decide
  · have et : tw T s = -2 := by unfold tw; rw [if_neg (fun z => hbd z.1)]
    rw [if_pos (by omega)] at hr
    have y1 := hx.bad o1 f1 (by decide)
    have n8 := y1.n8
    exact ⟨n8.1, fun z => absurd z n8.2.1, fun _ => hA _ hr.symm _ M1 y1 (o1.w f1.n)⟩
/-- a name that is known, but none of these -/
theorem y_known {Q : Int → Mem → Prop} {w : Int} {but : Nat} {l : List (List Int)} (hT : TB T) (hx : YD M T b s D) (hD : DOK D s) (hw : (w = 0 ∧ l = dNa D) ∨ (w = 1 ∧ l = dNb D)) (hbut : but < 128) (h1 : tw T s ≠ -1 → ∀ M', YX M' T b D (1, wr T s) → oW b M M' → Q 0 M') (h3 : tw T s = -1 → (nix l (nm T s) 0 = -1 ∨ but.testBit (nix l (nm T s) 0).toNat = true) → ∀ M', YX M' T b D (3, (s : Nat)) → oW b M M' → Q 0 M') (hB : tw T s = -1 → nix l (nm T s) 0 ≠ -1 → ¬ but.testBit (nix l (nm T s) 0).toNat = true → ∀ M', YD M' T b (nx T s) D → (∀ a, a ≠ 199 → M' a = M a) → oW b M M' → Q (nix l (nm T s) 0) M') : m_X12_knownBut w (but : Nat) M Q := by
  have e4 : M 199 4 = (s : Nat) := hx.1.2.2.1
  have e3 : M 199 3 = so T s := hx.1.2.2.2.1
  have sr := so_rng T s
  unfold m_X12_knownBut m_X12_knownBut_J32
  have f41 : ∀ M2 e v, YX M2 T b D e → Q 0 M2 → m_X12_knownBut_J41 Q w v M2 := fun M2 e v y2 hQ => by
    unfold m_X12_knownBut_J41 m_X12_knownBut_J61 m_X12_knownBut_J91 m_X12_knownBut_J102 m_X12_knownBut_J114
    have n8 := y2.n8
    exact ⟨n8.1, fun z => absurd z n8.2.1, fun _ => ⟨n8.1, fun z => absurd z n8.2.2, fun _ => ⟨n8.1, fun z => absurd z n8.2.2, fun _ => ⟨n8.1, fun z => absurd z n8.2.1, fun _ => hQ⟩⟩⟩⟩
  refine y_lex hT hx.1 hx.2.1 (fun hbd => ?_) (fun hbd M1 o1 f1 => ?_)
  · rw [hx.2.1, e3]
    have j32 : tw T s ≠ -1 → m_X12_blame 1 (M 199 4) M (fun M13 => m_X12_knownBut_J41 Q w (but : Nat) M13) := fun q => by
      rw [e4]
      refine y_blame hx.2.1 fun M2 o2 f2 => ?_
      have y2 := hx.bad o2 f2 (by decide)
      rw [wr_ok hbd] at h1
      exact f41 M2 _ _ y2 (h1 q M2 y2 (o2.w f2.n))
    refine ⟨by decide, fun _ => ⟨by omega, fun q => ?_, fun q => j32 ?_⟩, fun z => absurd (by decide) z⟩
    · have e7 : M 199 7 = pkY (nm T s) := hx.1.2.2.2.2.2.2.1 q
      have ok := nm_ok q
      have et : tw T s = ow T s := by unfold tw; rw [if_pos ⟨hbd, q⟩]
      have orr := ow_rng T s
      rw [e7]
      refine y_isOwn q ?_
      by_cases qo : ow T s = -1
      · rw [if_pos qo]
        have qt : tw T s = -1 := by omega
        have d1 := hD.1
        have d2 := hD.2.1
        have r1 := nix_rng (l := l) (n := nm T s) (k := 0)
        have l7 : l.length ≤ 7 := by rcases hw with ⟨-, e⟩ | ⟨-, e⟩ <;> rw [e] <;> omega
        refine rq_0 ?_
        have j61 : m_X12_knownBut_J61 Q (but : Nat) (nix l (nm T s) 0) M := by
          unfold m_X12_knownBut_J61 m_X12_knownBut_J82
          have bad : nix l (nm T s) 0 = -1 ∨ but.testBit (nix l (nm T s) 0).toNat = true → m_X12_blame 3 (M 199 4) M (fun M4 => m_X12_knownBut_J91 Q (nix l (nm T s) 0) M4) := fun z => by
            rw [e4]
            refine y_blame hx.2.1 fun M2 o2 f2 => ?_
            have y2 := hx.bad o2 f2 (by decide)
            have n8 := y2.n8
            unfold m_X12_knownBut_J91 m_X12_knownBut_J102 m_X12_knownBut_J114
            exact ⟨n8.1, fun z => absurd z n8.2.2, fun _ => ⟨n8.1, fun z => absurd z n8.2.1, fun _ => h3 qt z M2 y2 (o2.w f2.n)⟩⟩
          rw [hx.2.1]
          refine ⟨by decide, fun _ => ⟨by omega, fun z1 => bad (Or.inl z1), fun z1 => ?_⟩, fun z => absurd rfl z⟩
          have zt := z_tb (a := (but : Nat)) (k := nix l (nm T s) 0) (by omega) (by omega)
          unfold tb at zt
          rw [Int.toNat_natCast] at zt
          unfold m_X12_has2 m_X12_has2_J14
          refine ⟨by omega, fun z2 => ⟨by decide, rq_1 (bad (Or.inr (zt.1.mp z2)))⟩, fun z2 => ⟨by decide, rq_0 ?_⟩⟩
          unfold m_X12_knownBut_J91 m_X12_knownBut_J102 m_X12_knownBut_J114
          rw [hx.2.1]
          refine ⟨by decide, fun _ => y_ahead hT hx.1 hbd fun M2 o2 l2 => ?_, fun z => absurd rfl z⟩
          have y2 := hx.adv l2 o2
          rw [y2.2.1]
          exact ⟨by decide, fun _ => hB qt z1 (mt zt.1.mpr z2) M2 y2 o2.1 o2.w, fun z => absurd (by decide) z⟩
        unfold m_X12_knownBut_J41
        rw [hx.2.1, e7]
        refine ⟨by decide, fun _ => ?_, fun z => absurd (by decide) z⟩
        rcases hw with ⟨rfl, rfl⟩ | ⟨rfl, rfl⟩
        · exact y_named0 hx.2.2 hD ok j61
        · exact y_named1 hx.2.2 hD ok j61
      · rw [if_neg qo]
        exact rq_1 (j32 (by omega))
    · unfold tw
      rw [if_neg (fun z => q z.2)]
      decide
  · have et : tw T s = -2 := by unfold tw; rw [if_neg (fun z => hbd z.1)]
    have y1 := hx.bad o1 f1 (by decide)
    have n8 := y1.n8
    exact ⟨n8.1, fun z => absurd z n8.2.1, fun _ => h1 (by omega) M1 y1 (o1.w f1.n)⟩
end
